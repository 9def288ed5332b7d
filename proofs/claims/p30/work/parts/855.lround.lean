/-! a round of the law -/
theorem Sx.st {n t g rule r : Nat} {a b c : St} (h10 : n ≤ 10) (h : Co n r a b) (k : Sx n t g rule r b c) : Sx n t g rule r a c := by
  refine ⟨h.kp.tr k.1, k.2.1, fun p s hp hs hc => ?_⟩
  have hv := k.2.2 p s hp hs (by rw [h.cor]; exact hc)
  rw [nx_co h h10 hp hs hc] at hv
  exact hv
theorem X_run1 {σ : St} {n t g rule len N r : Nat} (hN : 2000 ≤ N) (I : Iv σ n t g rule len r) (hr : r < 60) : ∃ σ', Sx n t g rule r σ σ' ∧ Iv σ' n t g rule len (r + 1) ∧ fX2_run N σ 1 = some (nI (r + 1), σ') := by
  obtain ⟨σ1, s1, I1, e1⟩ := X_step hN I hr
  refine ⟨σ1, s1, I1, ?_⟩
  unfold fX2_run
  rw [isW, if_pos (by decide), bd0_e, if_neg z10, I.xr, nI_1, if_pos (cR_le 60 (by omega) (by omega)), e1, bd0_e, I1.xr]
/-- what is due is kept, node by node -/
theorem rd_in {σ0 σ : St} {n t g rule len N r q : Nat} {η : Nat → Int64} (hN : 2000 ≤ N) (I0 : Iv σ0 n t g rule len r) (hco : Co n r σ0 σ) (hq : q < n) {q107 : St → (Nat → Int64) → Int32 → Int32 → Int32 → Int32 → Int32 → Option (Int32 × St)} (f : Nat) : ∃ (σ' : St) (η' : Nat → Int64), Co n r σ0 σ' ∧ (cor σ0 q = true → η' (2 * q) = nx σ0 n t g rule r q 0 ∧ η' (2 * q + 1) = nx σ0 n t g rule r q 1) ∧ (∀ j, j ≠ 2 * q → j ≠ 2 * q + 1 → η' j = η j) ∧ fL_round_66 N q107 (f + 3) σ η (nI n) (nI t) (nI r) (nI g) (nI q) 0 = q107 σ' η' (nI n) (nI t) (nI r) (nI g) (nI q) := by
  have h10 := I0.n10
  have stepT : ∀ (σ : St) (η : Nat → Int64) (f s : Nat), Co n r σ0 σ → cor σ0 q = true → s < 2 → ∃ σ', Co n r σ0 σ' ∧ fL_round_66 N q107 (f + 1) σ η (nI n) (nI t) (nI r) (nI g) (nI q) (nI s) = fL_round_66 N q107 f σ' (vp_updL η (2 * q + s) (nx σ0 n t g rule r q s)) (nI n) (nI t) (nI r) (nI g) (nI q) (nI (s + 1)) := by
    intro σ η f s hco hcq hs
    have I := I0.co hco
    have hc : cor σ q = true := by rw [hco.cor]; exact hcq
    obtain ⟨σ', c1, e1⟩ := L_due hN I hq hc hs
    rw [nx_co hco h10 hq hs hcq] at e1
    refine ⟨σ', hco.tr c1, ?_⟩
    show fL_round_66b N q107 (fL_round_66 N q107 f) σ η _ _ _ _ _ (nI s) = _
    unfold fL_round_66b
    rw [if_neg (cL_nle 2 hs (by omega)), X_strategy I hq, bd2_e, if_pos (cor_t.mp hc), e1, bd2_e, ix2, if_neg (nI_in (by omega) (by omega)), nI_clamp (by omega), lt1_e, lt1_e, nI_1]
  by_cases hcq : cor σ0 q = true
  · obtain ⟨σ1, c1, e1⟩ := stepT σ η (f + 2) 0 hco hcq (by omega)
    obtain ⟨σ2, c2, e2⟩ := stepT σ1 (vp_updL η (2 * q + 0) (nx σ0 n t g rule r q 0)) (f + 1) 1 c1 hcq (by omega)
    refine ⟨σ2, vp_updL (vp_updL η (2 * q + 0) (nx σ0 n t g rule r q 0)) (2 * q + 1) (nx σ0 n t g rule r q 1), c2, fun _ => ⟨?_, ?_⟩, fun j h1 h2 => ?_, ?_⟩
    · rw [pk_uLn (by omega)]; exact pk_uLs
    · exact pk_uLs
    · rw [pk_uLn h2, pk_uLn (by omega)]
    · refine Eq.trans e1 (Eq.trans e2 ?_)
      show fL_round_66b N q107 (fL_round_66 N q107 f) σ2 _ _ _ _ _ _ (nI 2) = _
      unfold fL_round_66b
      rw [if_pos (cL_le 2 (Nat.le_refl _) (by omega))]
  · have I := I0.co hco
    have hc : ¬ gF σ 2 q = 0 := fun z => hcq (by rw [← hco.cor]; exact cor_t.mpr z)
    refine ⟨σ, η, hco, fun z => absurd z hcq, fun _ _ _ => rfl, ?_⟩
    show fL_round_66b N q107 (fL_round_66 N q107 (f + 2)) σ η _ _ _ _ _ (0 : Int32) = _
    unfold fL_round_66b
    rw [if_neg (by decide), X_strategy I hq, bd2_e, if_neg hc]
theorem rd_out {σ0 : St} {n t g rule len N r : Nat} (hN : 2000 ≤ N) (I0 : Iv σ0 n t g rule len r) {q113 : St → (Nat → Int64) → Int32 → Int32 → Int32 → Int32 → Option (Int32 × St)} : ∀ (k i fX : Nat) (σ : St) (η : Nat → Int64), Co n r σ0 σ → (∀ q s, q < i → s < 2 → cor σ0 q = true → η (2 * q + s) = nx σ0 n t g rule r q s) → i + k = n → k < fX →
    ∃ (σ' : St) (η' : Nat → Int64), Co n r σ0 σ' ∧ (∀ q s, q < n → s < 2 → cor σ0 q = true → η' (2 * q + s) = nx σ0 n t g rule r q s) ∧ fL_round_57 N q113 fX σ η (nI n) (nI t) (nI r) (nI g) (nI i) = q113 σ' η' (nI n) (nI t) (nI r) (nI g) := by
  have h10 := I0.n10
  intro k
  induction k with
  | zero =>
    intro i fX σ η hco hη hi hfX
    obtain ⟨a, rfl⟩ : ∃ k, fX = k + 1 := ⟨fX - 1, by omega⟩
    have hi : i = n := by omega
    subst hi
    refine ⟨σ, η, hco, hη, ?_⟩
    show fL_round_57b N q113 _ σ η _ _ _ _ (nI i) = _
    unfold fL_round_57b
    rw [if_pos (nI_le (Nat.le_refl _) (by omega))]
  | succ k ih =>
    intro i fX σ η hco hη hi hfX
    obtain ⟨a, rfl⟩ : ∃ k, fX = k + 1 := ⟨fX - 1, by omega⟩
    obtain ⟨N1, hN1⟩ : ∃ f, N = f + 3 := ⟨N - 3, by omega⟩
    obtain ⟨σ1, η1, c1, v1, w1, e1⟩ := rd_in (η := η) (q107 := fun σ56 η57 x51 x52 x53 x54 x55 => lt1 (x55 + (1 : Int32)) fun x59 => fL_round_57 N q113 a σ56 η57 x51 x52 x53 x54 x59) hN I0 hco (show i < n by omega) N1
    rw [lt1_e, nI_1] at e1
    obtain ⟨σ2, η2, c2, v2, e2⟩ := ih (i + 1) a σ1 η1 c1 (fun q s hq hs hc => by
      by_cases he : q = i
      · subst he
        rcases (show s = 0 ∨ s = 1 by omega) with rfl | rfl
        · exact (v1 hc).1
        · exact (v1 hc).2
      · rw [w1 _ (by omega) (by omega)]
        exact hη q s (by omega) hs hc) (by omega) (by omega)
    refine ⟨σ2, η2, c2, v2, ?_⟩
    show fL_round_57b N q113 (fL_round_57 N q113 a) σ η _ _ _ _ (nI i) = _
    unfold fL_round_57b
    rw [if_neg (nI_nge (by omega) (by omega))]
    rw [← hN1] at e1
    exact e1.trans e2
/-- what has come is what was due -/
theorem ck_in {σ0 σ : St} {n t g rule len N r q : Nat} {η : Nat → Int64} {ov un be : Int64} (hN : 2000 ≤ N) (I : Iv σ n t g rule len (r + 1)) (hx : Sx n t g rule r σ0 σ) (hq : q < n) (hη : ∀ s, s < 2 → cor σ0 q = true → η (2 * q + s) = nx σ0 n t g rule r q s) {q285 : St → (Nat → Int64) → Int32 → Int32 → Int32 → Int32 → Int64 → Int64 → Int64 → Int32 → Option (Int32 × St)} (f : Nat) : fL_round_184 N q285 (f + 3) σ η (nI n) (nI t) (nI r) (nI g) ov un be (nI q) 0 = q285 σ η (nI n) (nI t) (nI r) (nI g) ov un be (nI q) := by
  have h10 := I.n10
  have hg7 := I.g7
  have step : ∀ (f s : Nat), s < 2 → fL_round_184 N q285 (f + 1) σ η (nI n) (nI t) (nI r) (nI g) ov un be (nI q) (nI s) = fL_round_184 N q285 f σ η (nI n) (nI t) (nI r) (nI g) ov un be (nI q) (nI (s + 1)) := by
    intro f s hs
    obtain ⟨x, y, e1, e2, e3⟩ := L_val (k := r + 1) hN I hq (Nat.le_refl _) hs
    have h228 : fL_round_228 N (fL_round_184 N q285 f) σ η (nI n) (nI t) (nI r) (nI g) ov un be (nI q) (nI s) (fl s) (nI (r + 1)) (nI q) x = fL_round_184 N q285 f σ η (nI n) (nI t) (nI r) (nI g) ov un be (nI q) (nI (s + 1)) := by
      unfold fL_round_228
      rw [e2, bd2_e, nI_l (by omega), e3, bd0_e, X_strategy I hq, bd2_e]
      by_cases hc : cor σ q = true
      · have hc0 : cor σ0 q = true := by rw [← hx.1.cor]; exact hc
        rw [cor_t.mp hc, if_pos (by decide), ix2, if_neg (nI_in (by omega) (by omega)), nI_clamp (by omega), show vv σ (r + 1) q s = val σ (r + 1) q s from if_pos hc, (hx.2.2 q s hq hs hc0).1, hη s hs hc0, if_pos rfl, lt1_e, nI_1]
      · obtain ⟨st, hst5, hst⟩ := I.s5 q (by omega)
        have hst0 : st ≠ 0 := fun z => hc (cor_t.mpr (by rw [hst, z]; rfl))
        unfold fL_none
        rw [hst, if_neg (cR_nle 0 (by omega) (by omega)), bd0_e, show vv σ (r + 1) q s = -9223372036854775808 from if_neg hc, if_pos nv_lo, lt1_e, nI_1]
    show fL_round_184b N q285 (fL_round_184 N q285 f) σ η _ _ _ _ _ _ _ _ (nI s) = _
    unfold fL_round_184b
    rw [if_neg (cL_nle 2 hs (by omega)), nI_1]
    rcases (show s = 0 ∨ s = 1 by omega) with rfl | rfl
    · have c0 : ¬ nI 0 = (1 : Int32) := by decide
      rw [if_neg c0]
      unfold fL_round_207
      rw [show fX2_value N σ (nI q) (nI (r + 1)) 0 0 = _ from e1, bd2_e, if_neg c0, nI_1]
      exact h228
    · have c1 : nI 1 = (1 : Int32) := rfl
      rw [if_pos c1]
      unfold fL_round_207
      rw [show fX2_value N σ (nI q) (nI (r + 1)) 1 0 = _ from e1, bd2_e, if_pos c1, nI_1]
      exact h228
  refine Eq.trans (step (f + 2) 0 (by omega)) (Eq.trans (step (f + 1) 1 (by omega)) ?_)
  show fL_round_184b N q285 (fL_round_184 N q285 f) σ η _ _ _ _ _ _ _ _ (nI 2) = _
  unfold fL_round_184b
  rw [if_pos (cL_le 2 (Nat.le_refl _) (by omega))]
theorem ck_out {σ0 σ : St} {n t g rule len N r : Nat} {η : Nat → Int64} {ov un be : Int64} (hN : 2000 ≤ N) (I : Iv σ n t g rule len (r + 1)) (hx : Sx n t g rule r σ0 σ) (hη : ∀ q s, q < n → s < 2 → cor σ0 q = true → η (2 * q + s) = nx σ0 n t g rule r q s) {q291 : St → (Nat → Int64) → Int32 → Int32 → Int32 → Int32 → Int64 → Int64 → Int64 → Option (Int32 × St)} : ∀ (k i fX : Nat), i + k = n → k < fX → fL_round_175 N q291 fX σ η (nI n) (nI t) (nI r) (nI g) ov un be (nI i) = q291 σ η (nI n) (nI t) (nI r) (nI g) ov un be := by
  have h10 := I.n10
  intro k
  induction k with
  | zero =>
    intro i fX hi hfX
    obtain ⟨a, rfl⟩ : ∃ k, fX = k + 1 := ⟨fX - 1, by omega⟩
    show fL_round_175b N q291 _ σ η _ _ _ _ _ _ _ (nI i) = _
    unfold fL_round_175b
    rw [if_pos (nI_le (by omega) (by omega))]
  | succ k ih =>
    intro i fX hi hfX
    obtain ⟨a, rfl⟩ : ∃ k, fX = k + 1 := ⟨fX - 1, by omega⟩
    obtain ⟨N1, hN1⟩ : ∃ f, N = f + 3 := ⟨N - 3, by omega⟩
    have e1 := ck_in (η := η) (ov := ov) (un := un) (be := be) (q285 := fun σ196 η197 x188 x189 x190 x191 x192 x193 x194 x195 => lt1 (x195 + (1 : Int32)) fun x199 => fL_round_175 N q291 a σ196 η197 x188 x189 x190 x191 x192 x193 x194 x199) hN I hx (show i < n by omega) (fun s hs hc => hη i s (by omega) hs hc) N1
    rw [lt1_e, nI_1] at e1
    show fL_round_175b N q291 (fL_round_175 N q291 a) σ η _ _ _ _ _ _ _ (nI i) = _
    unfold fL_round_175b
    rw [if_neg (nI_nge (by omega) (by omega))]
    rw [← hN1] at e1
    exact e1.trans (ih (i + 1) a (by omega) (by omega))
/-- the rate, multiplied out -/
theorem rate_eq {a m : Int64} (h0 : 0 ≤ a.toInt) (ha : a.toInt ≤ 14414400000) (hm0 : 0 < m.toInt) (hm : m.toInt ≤ 14414400000) : frac a m.toInt.toNat 0 * m = a * frac a m.toInt.toNat 1 := by
  have hd : 0 < Nat.gcd a.toInt.natAbs m.toInt.toNat := Nat.gcd_pos_of_pos_right _ (by omega)
  have hd2 : Nat.gcd a.toInt.natAbs m.toInt.toNat ≤ m.toInt.toNat := Nat.gcd_le_right _ (by omega)
  obtain ⟨w, hw⟩ := Nat.gcd_dvd_right a.toInt.natAbs m.toInt.toNat
  obtain ⟨y, hy⟩ := Nat.gcd_dvd_left a.toInt.natAbs m.toInt.toNat
  have hf0 : frac a m.toInt.toNat 0 = a / lN (Nat.gcd a.toInt.natAbs m.toInt.toNat) := if_pos rfl
  have hf1 : frac a m.toInt.toNat 1 = lN m.toInt.toNat / lN (Nat.gcd a.toInt.natAbs m.toInt.toNat) := if_neg (by decide)
  have hml : m = lN m.toInt.toNat := by rw [fa_eq64, pk_lT (by omega)]; omega
  have hal : a = lN a.toInt.natAbs := by rw [fa_eq64, pk_lT (by omega)]; omega
  rw [hf0, hf1]
  generalize Nat.gcd a.toInt.natAbs m.toInt.toNat = d at *
  have e1 : a / lN d = lN y := by
    rw [hal, hy, pk_lDiv (by rw [← hy]; omega) hd (by omega), Nat.mul_div_cancel_left _ hd]
  have e2 : lN m.toInt.toNat / lN d = lN w := by
    rw [pk_lDiv (by omega) hd (by omega), hw, Nat.mul_div_cancel_left _ hd]
  rw [e1, e2]
  have e3 : m = lN d * lN w := by rw [lN_mul, ← hw]; exact hml
  have e4 : a = lN y * lN d := by rw [lN_mul, Nat.mul_comm, ← hy]; exact hal
  rw [e3, e4, Int64.mul_assoc]
theorem guar_64 {u c : Nat} {W A : Int64} (hu : u < 1000) (hc0 : 0 < c) (hc : c < 1000) (hA0 : 0 ≤ A.toInt) (hA : A.toInt ≤ 14414400000) (hW0 : 0 ≤ W.toInt) (hW : W.toInt ≤ 14414400000) (h : (c : Int) * A.toInt ≤ (u : Int) * W.toInt + c) : A * lN (c / Nat.gcd u c) ≤ lN (u / Nat.gcd u c) * W + lN (c / Nat.gcd u c) := by
  have hd : 0 < Nat.gcd u c := Nat.gcd_pos_of_pos_right _ hc0
  obtain ⟨y, hy⟩ := Nat.gcd_dvd_left u c
  obtain ⟨w, hw⟩ := Nat.gcd_dvd_right u c
  generalize Nat.gcd u c = d at *
  have e1 : u / d = y := by rw [hy, Nat.mul_div_cancel_left _ hd]
  have e2 : c / d = w := by rw [hw, Nat.mul_div_cancel_left _ hd]
  rw [e1, e2]
  have hyu : y ≤ u := by rw [hy]; exact Nat.le_mul_of_pos_left y hd
  have hwc : w ≤ c := by rw [hw]; exact Nat.le_mul_of_pos_left w hd
  have yT : (lN y).toInt = (y : Int) := pk_lT (by omega)
  have wT : (lN w).toInt = (w : Int) := pk_lT (by omega)
  have b1 : 0 ≤ A.toInt * (w : Int) ∧ A.toInt * (w : Int) ≤ 14414400000 * 1000 := ⟨Int.mul_nonneg hA0 (by omega), Int.mul_le_mul hA (by omega) (by omega) (by omega)⟩
  have b2 : 0 ≤ (y : Int) * W.toInt ∧ (y : Int) * W.toInt ≤ 1000 * 14414400000 := ⟨Int.mul_nonneg (by omega) hW0, Int.mul_le_mul (by omega) hW hW0 (by omega)⟩
  have m1 : (A * lN w).toInt = A.toInt * (w : Int) := by rw [fb_mulL (by rw [wT]; omega) (by rw [wT]; omega), wT]
  have m2 : (lN y * W).toInt = (y : Int) * W.toInt := by rw [fb_mulL (by rw [yT]; omega) (by rw [yT]; omega), yT]
  rw [fa_le64, m1, fb_addL (by rw [m2, wT]; omega) (by rw [m2, wT]; omega), m2, wT]
  -- the common divisor cancels
  have k : (d : Int) * (A.toInt * (w : Int)) ≤ (d : Int) * ((y : Int) * W.toInt + w) := by
    have c1 : (c : Int) = (d : Int) * (w : Int) := by rw [hw]; exact Int.natCast_mul d w
    have c2 : (u : Int) = (d : Int) * (y : Int) := by rw [hy]; exact Int.natCast_mul d y
    rw [c1, c2] at h
    rw [Int.mul_add, ← Int.mul_assoc (d : Int) (y : Int), Int.mul_comm A.toInt, ← Int.mul_assoc]
    exact h
  exact Int.le_of_mul_le_mul_left k (by omega)
theorem no_le_nv : ¬ (-9000000000000000000 : Int64) ≤ -9223372036854775808 := by decide
theorem L_round {σ : St} {n t g rule len N r : Nat} (hN : 2000 ≤ N) (I : Iv σ n t g rule len r) (H : fy σ n ≤ t → Hu σ n r) : ∃ (σ' : St) (r' : Nat), fL_round N σ (nI n) (nI t) = some (1, σ') ∧ Iv σ' n t g rule len r' ∧ (fy σ' n ≤ t → Hu σ' n r') := by
  have h10 := I.n10
  have h60 := I.r60
  have hg7 := I.g7
  have hg1 := I.g1
  have cnt := X_counts hN I
  unfold fL_round
  rw [cnt.2.2.1, bd2_e, cnt.2.1, bd2_e]
  by_cases hr : r = 60
  · subst hr
    rw [if_pos (show nI 60 = 60 from rfl), show fX2_run N σ (1 : Int32) = _ from X_run_full (c := 1) I (by omega) (by omega) (by omega), bd2_e, if_pos rfl, (X_back_bad I).2, bd2_e, if_pos rfl]
    exact ⟨σ, 60, rfl, I, H⟩
  · rw [if_neg (cR_ne 60 hr (by omega) (by omega))]
    have hr60 : r < 60 := by omega
    -- the last checks
    have h441 : ∀ (σ2 : St) (η : Nat → Int64), Iv σ2 n t g rule len (r + 1) → fL_round_441 N σ2 η (nI r) = some (1, σ2) := by
      intro σ2 η I2
      unfold fL_round_441 fL_none
      rw [X_rate0 (n := 0) (t := 0) (g := 0) (rule := 0) (len := 0) (r := 0), bd2_e, bd0_e, if_neg no_le_nv, show nI r + (2 : Int32) = nI (r + 2) from by rw [li2, nI_add], X_wid_out I2 (by omega) (by omega), bd2_e, bd0_e, if_neg no_le_nv]
    have h418 : ∀ (σ2 : St) (η : Nat → Int64), Iv σ2 n t g rule len (r + 1) → (fy σ2 n ≤ t → Hu σ2 n (r + 1)) → fL_round_418 N σ2 η (nI t) (nI r) 1 = some (1, σ2) := by
      intro σ2 η I2 H2
      have hf := fy_le σ2 n
      have ht3 := I2.t3
      unfold fL_round_418
      rw [if_neg z10, (X_counts hN I2).2.2.2.1, bd2_e]
      by_cases hft : t < fy σ2 n
      · rw [if_pos (nI_lt hft (by omega))]
        exact h441 σ2 η I2
      · rw [if_neg (nI_nlt (by omega) (by omega)), X_outside hN I2 (fun L M hb p hp hc => H2 (by omega) L M hb (r + 1) p (Nat.le_refl _) hp hc), bd2_e, if_pos rfl]
        exact h441 σ2 η I2
    have h357 : ∀ (σ2 : St) (η : Nat → Int64) (be af : Int64), Iv σ2 n t g rule len (r + 1) → (fy σ2 n ≤ t → Hu σ2 n (r + 1)) → Wd σ2 n r be → Wd σ2 n (r + 1) af → 0 ≤ be.toInt → be.toInt ≤ 14414400000 → 0 ≤ af.toInt → af.toInt ≤ 14414400000 → fL_round_357 N σ2 η (nI t) (nI r) be af = some (1, σ2) := by
      intro σ2 η be af I2 H2 w1 w2 b0 b1 a0 a1
      unfold fL_round_357 fL_none
      rw [nI_1, X_rate (z := 1) hN I2 (Nat.le_refl _) w1 w2, X_rate (z := 0) hN I2 (Nat.le_refl _) w1 w2]
      by_cases hz : be = 0
      · rw [if_pos hz, bd2_e, if_pos hz, bd0_e, if_neg no_le_nv]
        exact h418 σ2 η I2 H2
      · have hp : 0 < be.toInt := by
          have : be.toInt ≠ 0 := fun z => hz (by rw [fa_eq64]; exact z)
          omega
        rw [if_neg hz, bd2_e, X_rate (z := 1) hN I2 (Nat.le_refl _) w1 w2, bd2_e, if_neg hz, if_neg hz, if_pos (rate_eq a0 a1 hp b1)]
        exact h418 σ2 η I2 H2
    obtain ⟨σ1, η, c1, hη, e1⟩ := rd_out (q113 := fun σ65 η66 x61 x62 x63 x64 =>
 bd2 (fX2_guarantee N σ65 (0 : Int32)) fun r70 σ69 =>
  bd2 (fX2_guarantee N σ69 (1 : Int32)) fun r73 σ72 =>
  bd2 (fL_width N σ72 x61 x63) fun r76 σ75 =>
  bd2 (fX2_run N σ75 (1 : Int32)) fun r79 σ78 =>
  if r79 = (x63 + (1 : Int32)) then (
  bd2 (fX2_width N σ78 x63 (0 : Int32)) fun r85 σ84 =>
  bd2 (fX2_width N σ84 x63 (1 : Int32)) fun r88 σ87 =>
  bd0 (fL_units r85 r88 (x64.toInt64)) fun r90 =>
  if r90 = r76 then (
  fL_round_175 N (fun σ208 η209 x201 x202 x203 x204 x205 x206 x207 =>
 bd2 (fL_width N σ208 x201 (x203 + (1 : Int32))) fun r213 σ212 =>
  bd2 (fX2_width N σ212 (x203 + (1 : Int32)) (0 : Int32)) fun r216 σ215 =>
  bd2 (fX2_width N σ215 (x203 + (1 : Int32)) (1 : Int32)) fun r219 σ218 =>
  bd0 (fL_units r216 r219 (x204.toInt64)) fun r221 =>
  if r221 = r213 then (
  bd0 (fL_none) fun r226 =>
  if x205 ≤ r226 then (
  fL_round_357 N σ218 η209 x202 x203 x207 r213)
  else (
  if (r213 * x206) ≤ ((x205 * x207) + x206) then (
  fL_round_357 N σ218 η209 x202 x203 x207 r213)
  else (
  some ((0 : Int32), σ218))))
  else (
  some ((0 : Int32), σ218))) N σ87 η66 x61 x62 x63 x64 r70 r73 r76 (0 : Int32))
  else (
  some ((0 : Int32), σ87)))
  else (
  some ((0 : Int32), σ78))) hN I n 0 N σ nz Co.rf (fun q s hq => by omega) (by omega) (by omega)
    have e1 := (show fL_round_57 N _ N σ nz (nI n) (nI t) (nI r) (nI g) (0 : Int32) = _ from e1)
    rw [e1]
    have I1 := I.co c1
    obtain ⟨W, wW, hW, hW0, hW1⟩ := L_width (k := r) hN I1 (Nat.le_refl r)
    obtain ⟨σ2, s2, I2, e2⟩ := X_run1 hN I1 hr60
    have sx := s2.st h10 c1
    have hW2 := hW.kp s2.1 (Nat.le_refl r)
    have uW := frac_u (a := W) hg1 hg7 (by omega) (by omega)
    obtain ⟨A, wA, hA, hA0, hA1⟩ := L_width (k := r + 1) hN I2 (Nat.le_refl _)
    have uA := frac_u (a := A) hg1 hg7 (by omega) (by omega)
    have H2 : fy σ2 n ≤ t → Hu σ2 n (r + 1) := fun hf => by
      have hf0 : fy σ n ≤ t := by rw [← fy_same (σ' := σ2) (fun p => sx.1.cor p)]; exact hf
      exact (H hf0).sx I hf0 sx
    refine ⟨σ2, r + 1, ?_, I2, H2⟩
    have hgu : ∃ ov un, fX2_guarantee N σ1 0 = some (ov, σ1) ∧ fX2_guarantee N σ1 1 = some (un, σ1) ∧ (ov ≤ (-9000000000000000000 : Int64) ∨ A * un ≤ ov * W + un) := by
      rcases X_gua hN I1 with h | ⟨g1, g2, g3, g4, u, c, f1, f2, f3, f4, f5, f6⟩
      · exact ⟨_, _, h 0, h 1, Or.inl nv_lo⟩
      · exact ⟨_, _, f5, f6, Or.inr (guar_64 f4 f2 f3 hA0 hA1 hW0 hW1 (X_guard I1 g1 g2 g3 g4 f1 hW s2 hA hW0))⟩
    obtain ⟨ov, un, g1, g2, g3⟩ := hgu
    rw [g1, bd2_e, g2, bd2_e, wW, bd2_e, e2, bd2_e, nI_1, if_pos rfl, X_wid hN I2 (by omega) hW2, bd2_e, X_wid hN I2 (by omega) hW2, bd2_e, nI_l (by omega), uW.1, bd0_e, if_pos rfl]
    refine Eq.trans (ck_out (ov := ov) (un := un) (be := W) hN I2 sx hη n 0 N (by omega) (by omega)) ?_
    rw [nI_1, wA, bd2_e, X_wid hN I2 (Nat.le_refl _) hA, bd2_e, X_wid hN I2 (Nat.le_refl _) hA, bd2_e, nI_l (by omega), uA.1, bd0_e, if_pos rfl]
    unfold fL_none
    rw [bd0_e]
    have fin := h357 σ2 η W A I2 H2 hW2 hA hW0 hW1 hA0 hA1
    by_cases hov : ov ≤ (-9000000000000000000 : Int64)
    · rw [if_pos hov]; exact fin
    · rw [if_neg hov, if_pos (g3.resolve_left hov)]; exact fin
