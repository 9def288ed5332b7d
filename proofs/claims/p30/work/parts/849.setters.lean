/-! setters -/
/-- the values lie within the inputs of the correct nodes -/
def Hu (σ : St) (n r : Nat) : Prop := ∀ L M : Int, (∀ q, q < n → cor σ q = true → L ≤ (val σ 0 q 0).toInt ∧ (val σ 0 q 1).toInt ≤ M) → ∀ k p, k ≤ r → p < n → cor σ p = true → L ≤ (val σ k p 0).toInt ∧ (val σ k p 1).toInt ≤ M
theorem Hu.zero (σ : St) (n : Nat) : Hu σ n 0 := fun L M h k p hk hp hc => by
  have : k = 0 := by omega
  subst this
  exact h p hp hc
theorem Hu.same {σ σ' : St} {n r : Nat} (H : Hu σ n r) (h1 : ∀ p, cor σ' p = cor σ p) (h2 : ∀ k p s, k ≤ r → p < n → s < 2 → cor σ p = true → val σ' k p s = val σ k p s) : Hu σ' n r := by
  intro L M h k p hk hp hc
  rw [h1] at hc
  rw [h2 k p 0 hk hp (by omega) hc, h2 k p 1 hk hp (by omega) hc]
  refine H L M (fun q hq hcq => ?_) k p hk hp hc
  have := h q hq (by rw [h1]; exact hcq)
  rw [h2 0 q 0 (by omega) hq (by omega) hcq, h2 0 q 1 (by omega) hq (by omega) hcq] at this
  exact this
theorem Hu.co {σ σ' : St} {n r : Nat} (H : Hu σ n r) (h : Co n r σ σ') : Hu σ' n r := H.same h.cor h.2.2.2.2
theorem Hu.le {σ : St} {n r r' : Nat} (H : Hu σ n r) (h : r' ≤ r) : Hu σ n r' := fun L M h1 k p hk => H L M h1 k p (by omega)
theorem fy_same {σ σ' : St} {n : Nat} (h : ∀ p, cor σ' p = cor σ p) : fy σ' n = fy σ n := by
  unfold fy
  exact fb_ct_cong (fun k _ => by rw [h])
theorem areTwo {σ : St} {n t g rule len r p q : Nat} (I : Iv σ n t g rule len r) (hp : p < n) (hq : q < n) : fX2_areTwoNodes σ (nI p) (nI q) = some (if p = q then 0 else 1, σ) := by
  have h10 := I.n10
  unfold fX2_areTwoNodes
  rw [I.node hp, bd2_e, if_neg z10, I.node hq, bd2_e, if_neg z10]
  by_cases h : p = q
  · rw [if_pos (by rw [h]), if_pos h]
  · rw [if_neg (nI_ne h (by omega) (by omega)), if_neg h]
theorem Iv.noNode {σ : St} {n t g rule len r : Nat} (I : Iv σ n t g rule len r) : fX2_isNode σ (nI n) = some (0, σ) := X_isNode_out I.xn (Or.inr (nI_le (Nat.le_refl _) (by have := I.n10; omega)))
theorem on_grid {a : Int64} {k g : Nat} (h1 : -1000 ≤ a.toInt) (h2 : a.toInt ≤ 1000) (hk : 0 < k) (hk2 : k ≤ 1000) (hg : g ≤ 720720) (hd : k ∣ g) : a * lN g - a * lN g / lN k * lN k = 0 := by
  have hgT : (lN g).toInt = (g : Int) := pk_lT (by omega)
  have hkT : (lN k).toInt = (k : Int) := pk_lT (by omega)
  have hb : -720720000 ≤ a.toInt * (g : Int) ∧ a.toInt * (g : Int) ≤ 720720000 := by
    have hg0 : (0 : Int) ≤ g := by omega
    have x1 := Int.mul_le_mul_of_nonneg_right h1 hg0
    have x2 := Int.mul_le_mul_of_nonneg_right h2 hg0
    omega
  have hT : (a * lN g).toInt = a.toInt * (g : Int) := by
    rw [fb_mulL (by rw [hgT]; omega) (by rw [hgT]; omega), hgT]
  obtain ⟨w, hw⟩ := hd
  have hdv : (k : Int) ∣ (a * lN g).toInt := ⟨a.toInt * (w : Int), by rw [hT, hw]; rw [Int.natCast_mul, Int.mul_left_comm]⟩
  obtain ⟨e1, e2, e3⟩ := fr_ge hk (by omega) (a := a * lN g) (by omega) (by omega) hdv
  have e4 : (a * lN g / lN k * lN k).toInt = (a * lN g).toInt := by
    rw [fb_mulL (by rw [hkT, e1]; omega) (by rw [hkT, e1]; omega), hkT, e1]
  rw [fa_eq64, fb_subL (by rw [e4]; omega) (by rw [e4]; omega), e4]
  have : (0 : Int64).toInt = 0 := rfl
  omega
theorem X_setFaulty {σ : St} {n t g rule len r p s k : Nat} {a : Int32} (I : Iv σ n t g rule len r) (hp : p < n) (s1 : 1 ≤ s) (s5 : s ≤ 5) (h1 : -1000 ≤ a.toInt) (h2 : a.toInt ≤ 1000) (hk : 0 < k) (hk2 : k ≤ 1000) (hd : k ∣ g) :
    ∃ σ', fX2_setFaulty σ (nI p) (nI s) a (nI k) = some (if r = 0 then gF σ 2 p else -1003, σ') ∧ Iv σ' n t g rule len r ∧ (r ≠ 0 → σ' = σ) := by
  have h10 := I.n10
  have h60 := I.r60
  have hg7 := I.g7
  have e1 : (-1000 : Int32).toInt = -1000 := rfl
  have e2 : (1000 : Int32).toInt = 1000 := rfl
  unfold fX2_setFaulty
  rw [I.node hp, bd2_e, if_neg z10, isW, if_pos ⟨cL_le 1 s1 (by omega), cR_le 5 s5 (by omega)⟩, bd0_e, if_neg z10, isW, if_pos ⟨by rw [fa_le]; omega, by rw [fa_le]; omega⟩, bd0_e, if_neg z10, isW, if_pos ⟨cL_le 1 hk (by omega), cR_le 1000 hk2 (by omega)⟩, bd0_e, if_neg z10, I.xg, nI_l (by omega), nI_l (by omega)]
  have hz := on_grid (a := a.toInt64) (by rw [Int32.toInt_toInt64]; exact h1) (by rw [Int32.toInt_toInt64]; exact h2) hk hk2 hg7 hd
  unfold fX2_isOnGrid
  rw [if_neg (dR_nle 0 hk (by omega)), if_neg (dR_ne 0 (by omega) (by omega) (by omega)), if_pos hz, bd0_e, if_neg z10, I.xr]
  by_cases hr : r = 0
  · subst hr
    rw [if_pos (show nI 0 = 0 from rfl), if_pos rfl, if_neg (nI_in (by omega) (by omega)), nI_clamp (by omega), lt1_e, if_neg (nI_in' (by omega) (by omega)), lt1_e]
    unfold fX2_inUnits
    rw [show gI (sF σ 2 (upd (gF σ 2) p (nI s))) 2 = nI g from I.xg, nI_l (by omega), if_neg (dR_nle 0 hk (by omega)), if_neg (dR_ne 0 (by omega) (by omega) (by omega)), bd0_e, if_neg (nI_in' (by omega) (by omega)), lt1_e]
    exact ⟨_, rfl, I.strat s1 s5, fun z => absurd rfl z⟩
  · rw [if_neg (cR_ne 0 hr (by omega) (by omega)), if_neg hr]
    exact ⟨σ, rfl, I, fun _ => rfl⟩
theorem X_setFaulty6 {σ : St} {n t g rule len r p : Nat} (I : Iv σ n t g rule len r) (hp : p < n) : fX2_setFaulty σ (nI p) 6 0 1 = some (-1002, σ) := by
  unfold fX2_setFaulty
  rw [I.node hp, bd2_e, if_neg z10, isW, if_neg (by decide), bd0_e, if_pos rfl]
theorem X_setFaultyN {σ : St} {n t g rule len r : Nat} (I : Iv σ n t g rule len r) : fX2_setFaulty σ (nI n) 1 0 1 = some (-1001, σ) := by
  unfold fX2_setFaulty
  rw [I.noNode, bd2_e, if_pos rfl]
theorem Iv.correct {σ : St} {n t g rule len p : Nat} (I : Iv σ n t g rule len 0) : Iv (sF σ 2 (upd (gF σ 2) p 0)) n t g rule len 0 := by
  obtain ⟨a1, a2, a3, a4, a5, a6, a7, a8, a9, a10, a11, a12, a13, a14, a15, a16, a17, a18, a19, a20⟩ := I
  refine ⟨a1, a2, a3, a4, a5, a6, a7, a8, a9, a10, a11, a12, a13, a14, a15, ?_, a17, a18, a19, ?_⟩
  · intro j hj
    show ∃ s' : Nat, s' ≤ 5 ∧ upd (gF σ 2) p 0 j = nI s'
    by_cases e : j = p
    · subst e; rw [pk_us]; exact ⟨0, by omega, rfl⟩
    · rw [pk_un e]; exact a16 j hj
  · intro k j s' hk hj hs hc
    have hk0 : k = 0 := by omega
    subst hk0
    have hb := a19 j (by omega)
    show bnd (val σ 0 j s')
    rw [val_0]
    unfold inp
    by_cases h : s' = 0
    · rw [if_pos h]; exact hb.1
    · rw [if_neg h]; exact hb.2
theorem X_setCorrect {σ : St} {n t g rule len r p : Nat} (I : Iv σ n t g rule len r) (hp : p < n) : ∃ σ', fX2_setCorrect σ (nI p) = some (if r = 0 then gF σ 2 p else -1003, σ') ∧ Iv σ' n t g rule len r ∧ (r ≠ 0 → σ' = σ) := by
  have h10 := I.n10
  have h60 := I.r60
  unfold fX2_setCorrect
  rw [I.node hp, bd2_e, if_neg z10, I.xr]
  by_cases hr : r = 0
  · subst hr
    rw [if_pos (show nI 0 = 0 from rfl), if_pos rfl, if_neg (nI_in (by omega) (by omega)), nI_clamp (by omega), lt1_e, if_neg (nI_in' (by omega) (by omega)), lt1_e]
    exact ⟨_, rfl, I.correct, fun z => absurd rfl z⟩
  · rw [if_neg (cR_ne 0 hr (by omega) (by omega)), if_neg hr]
    exact ⟨σ, rfl, I, fun _ => rfl⟩
/-- a delay, or none -/
def dly (a : Int32) : Prop := a = -1 ∨ ∃ d : Nat, d ≤ 3 ∧ a = nI d
def d01 (a : Int32) : Nat := if a = -1 then 0 else 1
theorem lkT_3 {σ : St} {p q : Nat} (hp : p < 10) (hq : q < 10) (h : ∀ k, k < 100 → dly (gF σ 1 k)) : lkT σ 3 p q = decide (p ≠ q ∧ ¬ gF σ 1 (10 * p + q) = -1) := by
  unfold lkT
  have e : ((0 : Int32) ≤ gF σ 1 (10 * p + q) ∧ gF σ 1 (10 * p + q) ≤ nI 3) ↔ ¬ gF σ 1 (10 * p + q) = -1 := by
    rcases h (10 * p + q) (by omega) with e | ⟨d, hd, e⟩
    · rw [e]; decide
    · rw [e]
      exact ⟨fun _ => nI_m1 (by omega), fun _ => ⟨nI_pos' (by omega), nI_le hd (by omega)⟩⟩
  exact decide_eq_decide.mpr (and_congr Iff.rfl e)
theorem lk_set {σ : St} {n p q : Nat} {a : Int32} (h10 : n ≤ 10) (hp : p < n) (hq : q < n) (hpq : p ≠ q) (h : ∀ k, k < 100 → dly (gF σ 1 k)) (ha : dly a) : lk (sF σ 1 (upd (gF σ 1) (10 * p + q) a)) 3 n n + d01 (gF σ 1 (10 * p + q)) = lk σ 3 n n + d01 a := by
  have h' : ∀ k, k < 100 → dly (gF (sF σ 1 (upd (gF σ 1) (10 * p + q) a)) 1 k) := fun k hk => by
    show dly (upd (gF σ 1) (10 * p + q) a k)
    by_cases e : k = 10 * p + q
    · subst e; rw [pk_us]; exact ha
    · rw [pk_un e]; exact h k hk
  have row : ∀ i, i < n → fb_ct (lkT (sF σ 1 (upd (gF σ 1) (10 * p + q) a)) 3 i) n = if i = p then fb_ct (fun j => if j = q then decide (¬ a = -1) else lkT σ 3 p j) n else fb_ct (lkT σ 3 i) n := fun i hi => by
    by_cases e : i = p
    · subst e
      rw [if_pos rfl]
      refine fb_ct_cong (fun j hj => ?_)
      rw [lkT_3 (by omega) (by omega) h']
      show decide (i ≠ j ∧ ¬ upd (gF σ 1) (10 * i + q) a (10 * i + j) = -1) = _
      by_cases ej : j = q
      · subst ej
        rw [pk_us, if_pos rfl]
        simp [hpq]
      · rw [pk_un (by omega), if_neg ej, lkT_3 (by omega) (by omega) h]
    · rw [if_neg e]
      refine fb_ct_cong (fun j hj => ?_)
      rw [lkT_3 (by omega) (by omega) h', lkT_3 (by omega) (by omega) h]
      show decide (i ≠ j ∧ ¬ upd (gF σ 1) (10 * p + q) a (10 * i + j) = -1) = _
      rw [pk_un (by omega)]
  have s1 : lk (sF σ 1 (upd (gF σ 1) (10 * p + q) a)) 3 n n = fb_sm (fun i => if i = p then fb_ct (fun j => if j = q then decide (¬ a = -1) else lkT σ 3 p j) n else fb_ct (lkT σ 3 i) n) n := fb_sm_cong row
  have s2 := fb_sm_upd (fun i => fb_ct (lkT σ 3 i) n) (fb_ct (fun j => if j = q then decide (¬ a = -1) else lkT σ 3 p j) n) hp
  have s3 := fb_ct_upd (lkT σ 3 p) (decide (¬ a = -1)) hq
  have e1 : (if lkT σ 3 p q = true then 1 else 0) = d01 (gF σ 1 (10 * p + q)) := by
    rw [lkT_3 (by omega) (by omega) h]
    unfold d01
    by_cases e : gF σ 1 (10 * p + q) = -1
    · rw [if_pos e, if_neg (by simp [e])]
    · rw [if_neg e, if_pos (by simp [e, hpq])]
  have e2 : (if decide (¬ a = -1) = true then 1 else 0) = d01 a := by
    unfold d01
    by_cases e : a = -1
    · rw [if_pos e, if_neg (by simp [e])]
    · rw [if_neg e, if_pos (by simp [e])]
  rw [e1, e2] at s3
  have s2 : fb_sm (fun i => if i = p then fb_ct (fun j => if j = q then decide (¬ a = -1) else lkT σ 3 p j) n else fb_ct (lkT σ 3 i) n) n + fb_ct (lkT σ 3 p) n = lk σ 3 n n + fb_ct (fun j => if j = q then decide (¬ a = -1) else lkT σ 3 p j) n := s2
  omega
theorem X_setLink {σ : St} {n t g rule len r p q : Nat} {a : Int32} (I : Iv σ n t g rule len r) (hp : p < n) (hq : q < n) (hpq : p ≠ q) (ha : dly a) : fX2_setLink σ (nI p) (nI q) a = some (gF σ 1 (10 * p + q), sF σ 1 (upd (gF σ 1) (10 * p + q) a)) ∧ Iv (sF σ 1 (upd (gF σ 1) (10 * p + q) a)) n t g rule len r := by
  have h10 := I.n10
  constructor
  · unfold fX2_setLink
    rw [areTwo I hp hq, bd2_e, if_neg hpq, if_neg z10, isW, if_pos (by
      rcases ha with rfl | ⟨d, hd, rfl⟩
      · decide
      · exact ⟨by rw [fa_le, nI_toInt (by omega)]; have : (-1 : Int32).toInt = -1 := rfl; omega, cR_le 3 hd (by omega)⟩), bd0_e, if_neg z10, X_delayOf (by omega) (by omega), bd2_e, ix10, show p * 10 + q = 10 * p + q from by omega, if_neg (nI_in (by omega) (by omega)), nI_clamp (by omega), lt1_e]
  · obtain ⟨a1, a2, a3, a4, a5, a6, a7, a8, a9, a10, a11, a12, a13, a14, a15, a16, a17, a18, a19, a20⟩ := I
    refine ⟨a1, a2, a3, a4, a5, a6, a7, a8, a9, a10, a11, a12, a13, a14, a15, a16, ?_, ?_, a19, a20⟩
    · intro k hk
      show upd (gF σ 1) (10 * p + q) a k = -1 ∨ ∃ d : Nat, d ≤ 3 ∧ upd (gF σ 1) (10 * p + q) a k = nI d
      by_cases e : k = 10 * p + q
      · subst e; rw [pk_us]; exact ha
      · rw [pk_un e]; exact a17 k hk
    · intro j hj
      show upd (gF σ 1) (10 * p + q) a (10 * j + j) = 0
      rw [pk_un (by omega)]
      exact a18 j hj
theorem X_setLinkSelf {σ : St} {n t g rule len r p : Nat} {a : Int32} (I : Iv σ n t g rule len r) (hp : p < n) : fX2_setLink σ (nI p) (nI p) a = some (-1001, σ) := by
  unfold fX2_setLink
  rw [areTwo I hp hp, bd2_e, if_pos rfl, if_pos rfl]
theorem X_setLink4 {σ : St} {n t g rule len r : Nat} (I : Iv σ n t g rule len r) : fX2_setLink σ 0 1 4 = some (-1002, σ) := by
  have h2 := I.n2
  unfold fX2_setLink
  rw [show fX2_areTwoNodes σ (0 : Int32) (1 : Int32) = _ from areTwo (p := 0) (q := 1) I (by omega) (by omega), bd2_e, if_neg (by decide), isW, if_neg (by decide), bd0_e, if_pos rfl]
theorem X_setRule {σ : St} {n t g rule len r s : Nat} (I : Iv σ n t g rule len r) (hs : s ≤ 3) : fX2_setRule σ (nI s) = some (nI rule, sI σ 4 (nI s)) := by
  unfold fX2_setRule
  rw [isW, if_pos ⟨cL_le 0 (Nat.zero_le _) (by omega), cR_le 3 hs (by omega)⟩, bd0_e, if_neg z10, lt1_e, lt1_e, I.xu]
theorem X_setRule4 (σ : St) : fX2_setRule σ 4 = some (-1002, σ) := by
  unfold fX2_setRule
  rw [isW, if_neg (by decide), bd0_e, if_pos rfl]
/-! starting anew -/
theorem bnd_0 {x : Int64} (h : x = 0) : bnd x := by
  subst h; exact ⟨by decide, by decide⟩
theorem start_iv {σ σ' : St} {n t g len N : Nat} (hN : 2000 ≤ N) (h5 : gI σ 5 = nI len) (hl : len ≤ 40) (hch : ∀ j, j < 40 → vp_nar .char (gF σ 0 j) = gF σ 0 j) (n2 : 2 ≤ n) (n10 : n ≤ 10) (t3 : t ≤ 3) (g1 : 1 ≤ g) (g7 : g ≤ 720720) (h : fX2_startAnew N σ (nI n) (nI t) (nI g) = some σ') : Iv σ' n t g 0 len 0 ∧ (∀ k, k < 100 → gF σ' 1 k = 0) ∧ (∀ p, p < 10 → gF σ' 2 p = 0) := by
  obtain ⟨h0, h1, s, f, f', d, x1, x2, x3, x4, x5, x6, e⟩ := X_startAnew (σ := σ) hN (nI n) (nI t) (nI g)
  rw [h] at e
  have e := Option.some.inj e
  subst e
  refine ⟨⟨rfl, n2, n10, rfl, t3, rfl, g1, g7, rfl, by omega, rfl, by omega, h5, hl, hch, ?_, ?_, ?_, ?_, ?_⟩, x6, x3⟩
  · intro p hp; exact ⟨0, by omega, x3 p hp⟩
  · intro k hk; exact Or.inr ⟨0, by omega, x6 k hk⟩
  · intro p hp; exact x6 _ (by omega)
  · intro p hp; exact ⟨bnd_0 (x1 p hp), bnd_0 (x2 p hp)⟩
  · intro k p s' hk hp hs hc
    have hk0 : k = 0 := by omega
    subst hk0
    rcases (show s' = 0 ∨ s' = 1 by omega) with rfl | rfl
    · exact bnd_0 (x1 (10 * 0 + p) (by omega))
    · exact bnd_0 (x2 (10 * 0 + p) (by omega))
theorem start_ex {σ : St} {N : Nat} (hN : 2000 ≤ N) (a1 a2 a3 : Int32) : ∃ σ', fX2_startAnew N σ a1 a2 a3 = some σ' := by
  obtain ⟨h0, h1, s, f, f', d, -, -, -, -, -, -, e⟩ := X_startAnew (σ := σ) hN a1 a2 a3
  exact ⟨_, e⟩
theorem X_reset {σ : St} {n t g rule len r n' t' g' N : Nat} (hN : 2000 ≤ N) (I : Iv σ n t g rule len r) (n2 : 2 ≤ n') (n10 : n' ≤ 10) (t3 : t' ≤ 3) (g1 : 1 ≤ g') (g7 : g' ≤ 720720) : ∃ σ', fX2_reset N σ (nI n') (nI t') (nI g') = some (nI n, σ') ∧ Iv σ' n' t' g' 0 len 0 ∧ (∀ k, k < 100 → gF σ' 1 k = 0) ∧ (∀ p, p < 10 → gF σ' 2 p = 0) := by
  obtain ⟨σ', e⟩ := start_ex (σ := σ) hN (nI n') (nI t') (nI g')
  obtain ⟨I', h1, h2⟩ := start_iv hN I.xl I.l40 I.chr n2 n10 t3 g1 g7 e
  refine ⟨σ', ?_, I', h1, h2⟩
  unfold fX2_reset
  rw [isW, if_pos ⟨cL_le 2 n2 (by omega), cR_le 10 n10 (by omega)⟩, bd0_e, if_neg z10, isW, if_pos ⟨cL_le 0 (Nat.zero_le _) (by omega), cR_le 3 t3 (by omega)⟩, bd0_e, if_neg z10, isW, if_pos ⟨cL_le 1 g1 (by omega), cR_le 720720 g7 (by omega)⟩, bd0_e, if_neg z10, lt1_e, e, bd0_e, I.xn]
theorem X_reset_bad (σ : St) (N : Nat) : fX2_reset N σ 11 0 1 = some (-1002, σ) ∧ fX2_reset N σ 2 4 1 = some (-1002, σ) ∧ fX2_reset N σ 2 0 0 = some (-1002, σ) := by
  refine ⟨?_, ?_, ?_⟩
  · unfold fX2_reset
    rw [isW, if_neg (by decide), bd0_e, if_pos rfl]
  · unfold fX2_reset
    rw [isW, if_pos (by decide), bd0_e, if_neg z10, isW, if_neg (by decide), bd0_e, if_pos rfl]
  · unfold fX2_reset
    rw [isW, if_pos (by decide), bd0_e, if_neg z10, isW, if_pos (by decide), bd0_e, if_neg z10, isW, if_neg (by decide), bd0_e, if_pos rfl]
/-- all links, at first -/
theorem lk_all {σ : St} {n : Nat} (h10 : n ≤ 10) (h1 : 1 ≤ n) (h : ∀ k, k < 100 → gF σ 1 k = 0) : lk σ 3 n n = n * (n - 1) := by
  have hg : gd σ n := fun p q hp hq _ => h _ (by omega)
  rw [← (lk_full h1).mpr hg]
  unfold lk
  refine fb_sm_cong (fun p hp => fb_ct_cong (fun q hq => ?_))
  unfold lkT
  rw [h (10 * p + q) (by omega)]
  have e1 : ((0 : Int32) ≤ 0 ∧ (0 : Int32) ≤ nI 3) ↔ ((0 : Int32) ≤ 0 ∧ (0 : Int32) ≤ nI 0) := by decide
  exact decide_eq_decide.mpr (and_congr Iff.rfl e1)
/-! refused calls -/
theorem X_back_bad {σ : St} {n t g rule len r : Nat} (I : Iv σ n t g rule len r) : fX2_back σ (-1) = some (-1002, σ) ∧ fX2_back σ 61 = some (-1002, σ) := by
  have h60 := I.r60
  refine ⟨?_, ?_⟩
  · unfold fX2_back
    rw [isW, if_neg (fun z => absurd z.1 (by decide)), bd0_e, if_pos rfl]
  · unfold fX2_back
    rw [I.xr, isW, if_neg (fun z => cL_nle 61 (a := r) (by omega) (by omega) z.2), bd0_e, if_pos rfl]
theorem X_run_bad (σ : St) (N : Nat) : fX2_run N σ 0 = some (-1002, σ) ∧ fX2_run N σ 61 = some (-1002, σ) := by
  refine ⟨?_, ?_⟩
  · unfold fX2_run
    rw [isW, if_neg (by decide), bd0_e, if_pos rfl]
  · unfold fX2_run
    rw [isW, if_neg (by decide), bd0_e, if_pos rfl]
theorem X_goal_bad (σ : St) (N : Nat) : fX2_runTo N σ 1 0 1 = some (-1002, σ) ∧ fX2_roundsTo N σ 0 1 61 = some (-1002, σ) := by
  refine ⟨?_, ?_⟩
  · unfold fX2_runTo fX2_isWidthGoal
    rw [isW, if_pos (by decide), bd0_e, if_neg z10, isW, if_neg (by decide), bd0_e, if_pos rfl, bd0_e, if_pos rfl]
  · unfold fX2_roundsTo fX2_isWidthGoal
    rw [isW, if_pos (by decide), bd0_e, if_neg z10, isW, if_pos (by decide), bd0_e, if_neg z10, isW, if_neg (by decide), bd0_e, if_pos rfl, bd0_e, if_pos rfl]
theorem X_best_bad (σ : St) (N : Nat) : fX2_bestRule N σ 0 = some (-1002, σ) := by
  unfold fX2_bestRule
  rw [isW, if_neg (by decide), bd0_e, if_pos rfl]
theorem X_worst_bad {σ : St} {n t g rule len r p N : Nat} (I : Iv σ n t g rule len r) (hp : p < n) : fX2_worstStrategy N σ (nI n) 1 = some (-1001, σ) ∧ fX2_worstStrategy N σ (nI p) 11 = some (-1002, σ) := by
  refine ⟨?_, ?_⟩
  · unfold fX2_worstStrategy
    rw [I.noNode, bd2_e, if_pos rfl]
  · unfold fX2_worstStrategy
    rw [I.node hp, bd2_e, if_neg z10, isW, if_neg (by decide), bd0_e, if_pos rfl]
theorem X_most_bad (σ : St) (N : Nat) : fX2_mostFrequent N σ 2 = some (-1002, σ) := by
  unfold fX2_mostFrequent
  rw [isW, if_neg (by decide), bd0_e, if_pos rfl]
theorem X_strat_bad (σ : St) {n t g rule len r : Nat} (I : Iv σ n t g rule len r) : fX2_strategy σ (-1) = some (-1001, σ) := by
  unfold fX2_strategy
  rw [X_isNode_out I.xn (Or.inl (by decide)), bd2_e, if_pos rfl]
/-- what is counted -/
theorem X_counts {σ : St} {n t g rule len r N : Nat} (hN : 2000 ≤ N) (I : Iv σ n t g rule len r) : fX2_count N σ 0 = some (nI n, σ) ∧ fX2_count N σ 2 = some (nI g, σ) ∧ fX2_count N σ 3 = some (nI r, σ) ∧ fX2_count N σ 4 = some (nI (fy σ n), σ) ∧ fX2_count N σ 5 = some (nI rule, σ) ∧ fX2_count N σ 6 = some (nI (lk σ 3 n n), σ) ∧ fX2_count N σ 7 = some (nI (dv σ r n), σ) ∧ fX2_count N σ 8 = some (-1002, σ) := by
  have h10 := I.n10
  unfold fX2_count
  refine ⟨?_, ?_, ?_, ?_, ?_, ?_, ?_, ?_⟩
  · rw [if_pos rfl, I.xn]
  · rw [if_neg (by decide), if_neg (by decide), if_pos rfl, I.xg]
  · rw [if_neg (by decide), if_neg (by decide), if_neg (by decide), if_pos rfl, I.xr]
  · rw [if_neg (by decide), if_neg (by decide), if_neg (by decide), if_neg (by decide), if_pos rfl, X_faulty hN I.xn h10, bd2_e]
  · rw [if_neg (by decide), if_neg (by decide), if_neg (by decide), if_neg (by decide), if_neg (by decide), if_pos rfl, I.xu]
  · rw [if_neg (by decide), if_neg (by decide), if_neg (by decide), if_neg (by decide), if_neg (by decide), if_neg (by decide), if_pos rfl, show fX2_linksWithDelay N σ (3 : Int32) = _ from X_links (mx := 3) hN I.xn h10, bd2_e]
  · rw [if_neg (by decide), if_neg (by decide), if_neg (by decide), if_neg (by decide), if_neg (by decide), if_neg (by decide), if_neg (by decide), if_pos rfl, X_diff hN I.xn I.xr I.r60 h10, bd2_e]
  · rw [if_neg (by decide), if_neg (by decide), if_neg (by decide), if_neg (by decide), if_neg (by decide), if_neg (by decide), if_neg (by decide), if_neg (by decide)]
