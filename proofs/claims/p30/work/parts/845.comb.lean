/-! what the class gathers and combines -/
def rc (σ : St) (q : Nat) : Nat → Bool := fun p => decide (¬ gF σ 1 (10 * p + q) = -1)
/-- the row that node q gathers, of a side -/
def gr (σ : St) (n g r q s : Nat) : Nat × (Nat → Int64) := ga (fun p => sv σ n g r p q s) (rc σ q) n
theorem rc_co {n r : Nat} {σ σ' : St} (h : Co n r σ σ') (q : Nat) : rc σ' q = rc σ q := by
  unfold rc; rw [h.2.1 1]
theorem gr_co {n g r q s : Nat} {σ σ' : St} (h : Co n r σ σ') (h10 : n ≤ 10) (hq : q < n) (hs : s < 2) (hcq : cor σ q = true) : gr σ' n g r q s = gr σ n g r q s := by
  unfold gr
  exact ga_cong n (fun p _ => by rw [rc_co h]) (fun p hp _ => sv_co h hp h10 hq hs hcq)
theorem gr_n {σ : St} {n g r q s : Nat} : (gr σ n g r q s).1 ≤ n := by
  unfold gr; rw [ga_ct]; exact fb_ct_le _ _
/-- the number of those that are received does not depend on side or round -/
theorem gr_1 (σ : St) (n g r q s : Nat) : (gr σ n g r q s).1 = fb_ct (rc σ q) n := by
  unfold gr; exact ga_ct n
theorem gr_bnd {σ : St} {n t g rule len r q s : Nat} (I : Iv σ n t g rule len r) (hq : q < n) (hs : s < 2) (hcq : cor σ q = true) : ∀ j, j < (gr σ n g r q s).1 → bnd ((gr σ n g r q s).2 j) := by
  unfold gr
  refine ga_bnd n (fun p hp hr => ?_)
  have hd : ¬ gF σ 1 (10 * p + q) = -1 := of_decide_eq_true hr
  rcases (show s = 0 ∨ s = 1 by omega) with rfl | rfl
  · exact (X_sent (N := 2000) (hi := 0) (Nat.le_refl _) I hp hq hcq hd).2
  · exact (X_sent (N := 2000) (hi := 1) (Nat.le_refl _) I hp hq hcq hd).2
theorem Iv.g5 {σ : St} {n t g rule len r : Nat} (I : Iv σ n t g rule len r) (f : Nat → Int64) : Iv (sG σ 5 f) n t g rule len r := I.co (Co.g5 n r σ f)
theorem collect_loop {σ : St} {n t g rule len N r q : Nat} {hi : Int32} (hN : 2000 ≤ N) (I : Iv σ n t g rule len r) (hq : q < n) (hcq : cor σ q = true) {q47 : St → Int32 → Option (Int32 × St)} : ∀ (k i fX : Nat) (f : Nat → Int64), i + k = n → k < fX → (∀ j, j < (ga (fun p => sv σ n g r p q (sd hi)) (rc σ q) i).1 → f j = (ga (fun p => sv σ n g r p q (sd hi)) (rc σ q) i).2 j) →
    ∃ f2 : Nat → Int64, (∀ j, j < (gr σ n g r q (sd hi)).1 → f2 j = (gr σ n g r q (sd hi)).2 j) ∧ fX2_collectRest_5 N q47 fX (sG σ 5 f) (nI q) hi (nI (ga (fun p => sv σ n g r p q (sd hi)) (rc σ q) i).1) (nI i) = q47 (sG σ 5 f2) (nI (gr σ n g r q (sd hi)).1) := by
  have h10 := I.n10
  intro k
  induction k with
  | zero =>
    intro i fX f hi0 hfX hf
    obtain ⟨a, rfl⟩ : ∃ k, fX = k + 1 := ⟨fX - 1, by omega⟩
    have hin : i = n := by omega
    subst hin
    refine ⟨f, hf, ?_⟩
    show fX2_collectRest_5b N q47 _ _ _ _ _ (nI i) = _
    unfold fX2_collectRest_5b
    rw [show gI (sG σ 5 f) 0 = nI i from I.xn, if_pos (nI_le (Nat.le_refl _) (by omega))]
    rfl
  | succ k ih =>
    intro i fX f hi0 hfX hf
    obtain ⟨a, rfl⟩ : ∃ k, fX = k + 1 := ⟨fX - 1, by omega⟩
    have I' := I.g5 f
    have eX : ∀ m : Int32, fX2_collectRest_5 N q47 (a + 1) (sG σ 5 f) (nI q) hi m (nI i) = fX2_collectRest_5b N q47 (fX2_collectRest_5 N q47 a) (sG σ 5 f) (nI q) hi m (nI i) := fun _ => rfl
    rw [eX]
    unfold fX2_collectRest_5b
    rw [show gI (sG σ 5 f) 0 = nI n from I.xn, if_neg (nI_nge (by omega) (by omega)), X_delayOf (by omega) (by omega), bd2_e]
    by_cases hd : gF (sG σ 5 f) 1 (10 * i + q) = -1
    · have hr : ¬ rc σ q i = true := by
        unfold rc
        rw [decide_eq_true_eq]
        exact fun z => z hd
      rw [if_pos hd, lt1_e, nI_1]
      obtain ⟨f2, g1, g2⟩ := ih (i + 1) a f (by omega) (by omega) (by rw [ga_f hr]; exact hf)
      rw [ga_f hr] at g2
      exact ⟨f2, g1, g2⟩
    · have hr : rc σ q i = true := decide_eq_true hd
      have hs := X_sent (hi := hi) hN I' (show i < n by omega) hq hcq hd
      have es : sv (sG σ 5 f) n g r i q (sd hi) = sv σ n g r i q (sd hi) := sv_co (Co.g5 n r σ f) (by omega) h10 hq (sd_lt hi) hcq
      have hm : (ga (fun p => sv σ n g r p q (sd hi)) (rc σ q) i).1 ≤ i := by rw [ga_ct]; exact fb_ct_le _ _
      rw [if_neg hd, hs.1, bd2_e, es, X_insert hN f (by omega), bd0_e, lt1_e, lt1_e, nI_1, nI_1]
      have e1 : ga (fun p => sv σ n g r p q (sd hi)) (rc σ q) (i + 1) = ((ga (fun p => sv σ n g r p q (sd hi)) (rc σ q) i).1 + 1, insF (ga (fun p => sv σ n g r p q (sd hi)) (rc σ q) i).2 (sv σ n g r i q (sd hi)) (ga (fun p => sv σ n g r p q (sd hi)) (rc σ q) i).1) := ga_t hr
      obtain ⟨f2, g1, g2⟩ := ih (i + 1) a (insF f (sv σ n g r i q (sd hi)) (ga (fun p => sv σ n g r p q (sd hi)) (rc σ q) i).1) (by omega) (by omega) (by
        rw [e1]
        intro j hj
        exact insF_cong _ _ _ (fun j' hj' => hf j' hj') j (by have hj : j < (ga (fun p => sv σ n g r p q (sd hi)) (rc σ q) i).1 + 1 := hj; omega))
      rw [e1] at g2
      exact ⟨f2, g1, g2⟩
theorem X_collect {σ : St} {n t g rule len N r q : Nat} {hi : Int32} (hN : 2000 ≤ N) (I : Iv σ n t g rule len r) (hq : q < n) (hcq : cor σ q = true) : ∃ f : Nat → Int64, (∀ j, j < (gr σ n g r q (sd hi)).1 → f j = (gr σ n g r q (sd hi)).2 j) ∧ fX2_collectRest N σ (nI q) hi = some (nI ((gr σ n g r q (sd hi)).1 - 2 * t), sG σ 5 f) := by
  have h10 := I.n10
  have h3 := I.t3
  have hn := gr_n (σ := σ) (n := n) (g := g) (r := r) (q := q) (s := sd hi)
  obtain ⟨f, g1, g2⟩ := collect_loop (hi := hi) hN I hq hcq (q47 := fun σ31 x30 => bd0 (fJ9_max_7cf53 (0 : Int32) (x30 - ((2 : Int32) * (gI σ31 1)))) fun r34 => some (r34, σ31)) n 0 N (gG σ 5) (by omega) (by omega) (fun j hj => by have : (ga (fun p => sv σ n g r p q (sd hi)) (rc σ q) 0).1 = 0 := rfl; omega)
  refine ⟨f, g1, ?_⟩
  rw [sG_self] at g2
  unfold fX2_collectRest
  refine Eq.trans g2 ?_
  generalize (gr σ n g r q (sd hi)).1 = m at hn ⊢
  rw [J_maxI, bd0_e, show gI (sG σ 5 f) 1 = nI t from I.xt, li2, pk_mul]
  by_cases hl : 2 * t < m
  · rw [pk_sub (by omega), if_pos (cL_lt 0 (by omega) (by omega))]
  · have h2 : ¬ (0 : Int32) < nI m - nI (2 * t) := fun z => by
      rw [fa_lt, pk_sub_toInt (by omega) (by omega)] at z
      have : (0 : Int32).toInt = 0 := rfl
      omega
    rw [if_neg h2, show m - 2 * t = 0 from by omega]; rfl
/-! combining -/
/-- sums and counts of every d-th -/
def ss (f : Nat → Int64) (t d : Nat) : Nat → Int
  | 0 => 0
  | k + 1 => ss f t d k + (if k % d = 0 then (f (t + k)).toInt else 0)
def sc (d : Nat) : Nat → Nat
  | 0 => 0
  | k + 1 => sc d k + (if k % d = 0 then 1 else 0)
def stp (rule t : Nat) : Nat := if rule = 3 ∧ 1 < t then t else 1
theorem stp_pos (rule t : Nat) : 0 < stp rule t := by
  unfold stp
  by_cases h : rule = 3 ∧ 1 < t
  · rw [if_pos h]; omega
  · rw [if_neg h]; omega
theorem stp_le {rule t : Nat} (h : t ≤ 3) : stp rule t ≤ 3 := by
  unfold stp
  by_cases h : rule = 3 ∧ 1 < t
  · rw [if_pos h]; omega
  · rw [if_neg h]; omega
theorem ss_cong {f f' : Nat → Int64} {t d : Nat} : ∀ k, (∀ j, j < k → f (t + j) = f' (t + j)) → ss f t d k = ss f' t d k
  | 0, _ => rfl
  | k + 1, h => by
    show ss f t d k + _ = ss f' t d k + _
    rw [ss_cong k (fun j hj => h j (by omega)), h k (by omega)]
theorem sc_le (d : Nat) : ∀ k, sc d k ≤ k
  | 0 => Nat.le_refl _
  | k + 1 => by
    have := sc_le d k
    show sc d k + _ ≤ _
    by_cases h : k % d = 0
    · rw [if_pos h]; omega
    · rw [if_neg h]; omega
theorem sc_pos {d k : Nat} (hk : 0 < k) : 0 < sc d k := by
  induction k with
  | zero => omega
  | succ k ih =>
    show 0 < sc d k + _
    by_cases h0 : k = 0
    · subst h0
      rw [if_pos (Nat.zero_mod d)]; omega
    · have := ih (by omega); omega
theorem ss_bnd {f : Nat → Int64} {t d : Nat} : ∀ k, (∀ j, j < k → bnd (f (t + j))) → -(7207200000 * (sc d k : Int)) ≤ ss f t d k ∧ ss f t d k ≤ 7207200000 * (sc d k : Int)
  | 0, _ => by
    have h1 : ss f t d 0 = 0 := rfl
    have h2 : sc d 0 = 0 := rfl
    rw [h1, h2]; omega
  | k + 1, h => by
    have ih := ss_bnd (d := d) k (fun j hj => h j (by omega))
    have hb := h k (by omega)
    unfold bnd at hb
    have e1 : ss f t d (k + 1) = ss f t d k + (if k % d = 0 then (f (t + k)).toInt else 0) := rfl
    have e2 : sc d (k + 1) = sc d k + (if k % d = 0 then 1 else 0) := rfl
    rw [e1, e2]
    by_cases h0 : k % d = 0
    · rw [if_pos h0, if_pos h0]; omega
    · rw [if_neg h0, if_neg h0]; omega
/-- between two multiples nothing comes -/
theorem ss_gap {f : Nat → Int64} {t d i : Nat} : ∀ j, j < d → ss f t d (d * i + 1 + j) = ss f t d (d * i) + (f (t + d * i)).toInt ∧ sc d (d * i + 1 + j) = sc d (d * i) + 1
  | 0, h => by
    have e1 : ss f t d (d * i + 1) = ss f t d (d * i) + (if (d * i) % d = 0 then (f (t + d * i)).toInt else 0) := rfl
    have e2 : sc d (d * i + 1) = sc d (d * i) + (if (d * i) % d = 0 then 1 else 0) := rfl
    rw [Nat.add_zero, e1, e2, Nat.mul_mod_right, if_pos rfl, if_pos rfl]
    exact ⟨rfl, rfl⟩
  | j + 1, h => by
    have ih := ss_gap (f := f) (t := t) (d := d) (i := i) j (by omega)
    have e1 : ss f t d (d * i + 1 + j + 1) = ss f t d (d * i + 1 + j) + (if (d * i + 1 + j) % d = 0 then (f (t + (d * i + 1 + j))).toInt else 0) := rfl
    have e2 : sc d (d * i + 1 + j + 1) = sc d (d * i + 1 + j) + (if (d * i + 1 + j) % d = 0 then 1 else 0) := rfl
    have hm : (d * i + 1 + j) % d = j + 1 := by
      rw [Nat.add_assoc, Nat.mul_add_mod, Nat.mod_eq_of_lt (by omega)]
      omega
    show ss f t d (d * i + 1 + j + 1) = _ ∧ sc d (d * i + 1 + j + 1) = _
    rw [e1, e2, hm, if_neg (by omega), if_neg (by omega), ih.1, ih.2, Int.add_zero]
    exact ⟨rfl, rfl⟩
/-- what is left over, combined -/
def cmb (rule t m : Nat) (f : Nat → Int64) : Int :=
  if rule = 1 then ((f t).toInt + (f (m - 1 - t)).toInt) / 2
  else if rule = 2 then ((f (t + (m - 2 * t - 1) / 2)).toInt + (f (t + (m - 2 * t) / 2)).toInt) / 2
  else ss f t (stp rule t) (m - 2 * t) / (sc (stp rule t) (m - 2 * t) : Int)
theorem cmb_cong {rule t m : Nat} {f f' : Nat → Int64} (h2 : 2 * t < m) (h : ∀ j, j < m → f j = f' j) : cmb rule t m f = cmb rule t m f' := by
  unfold cmb
  rw [h t (by omega), h (m - 1 - t) (by omega), h (t + (m - 2 * t - 1) / 2) (by omega), h (t + (m - 2 * t) / 2) (by omega), ss_cong (m - 2 * t) (fun j hj => h (t + j) (by omega))]
theorem floor_eq {S : Int64} {c : Nat} (h0 : 0 < c) (hc : c ≤ 100) (h : sumB S c) : ∃ v, fJ9_floorDiv_f86c9 S (lN c) = some v ∧ fL_down S (lN c) = some v ∧ v.toInt = S.toInt / (c : Int) ∧ bnd v := by
  obtain ⟨v, h1, h2, h3⟩ := down_eq (a := S) h0 (show c ≤ 1000 by omega)
  exact ⟨v, h1, h2, h3, down_bnd h0 h3 h.1 h.2⟩
theorem mean_loop {σ : St} {N t m d : Nat} (ht : gI σ 1 = nI t) (hg : ∀ j, j < m → bnd (gG σ 5 j)) (hm : m ≤ 10) (h2 : 2 * t < m) (hd : 0 < d) (hd3 : d ≤ 3) {q42 : St → Int64 → Int64 → Option (Int64 × St)} : ∀ (k i fX : Nat) (S : Int64), d * i ≤ 20 → m - 2 * t ≤ d * i + k → k < fX → (m - 2 * t ≤ d * i → 0 < i ∧ S.toInt = ss (gG σ 5) t d (m - 2 * t) ∧ i = sc d (m - 2 * t)) → (d * i < m - 2 * t → S.toInt = ss (gG σ 5) t d (d * i) ∧ i = sc d (d * i)) →
    ∃ (S2 : Int64), S2.toInt = ss (gG σ 5) t d (m - 2 * t) ∧ fX2_meanOfEvery_8 N q42 fX σ (nI d) (nI (m - 2 * t)) S (lN i) (nI (d * i)) = q42 σ S2 (lN (sc d (m - 2 * t))) := by
  intro k
  induction k with
  | zero =>
    intro i fX S hi hk hX hS1 hS2
    obtain ⟨a, rfl⟩ : ∃ k, fX = k + 1 := ⟨fX - 1, by omega⟩
    obtain ⟨-, e1, e2⟩ := hS1 (by omega)
    refine ⟨S, e1, ?_⟩
    show fX2_meanOfEvery_8b N q42 _ σ _ _ _ _ (nI (d * i)) = _
    unfold fX2_meanOfEvery_8b
    rw [if_pos (nI_le (by omega) (by omega)), ← e2]
  | succ k ih =>
    intro i fX S hi hk hX hS1 hS2
    obtain ⟨a, rfl⟩ : ∃ k, fX = k + 1 := ⟨fX - 1, by omega⟩
    by_cases hl : m - 2 * t ≤ d * i
    · obtain ⟨-, e1, e2⟩ := hS1 hl
      refine ⟨S, e1, ?_⟩
      show fX2_meanOfEvery_8b N q42 _ σ _ _ _ _ (nI (d * i)) = _
      unfold fX2_meanOfEvery_8b
      rw [if_pos (nI_le (by omega) (by omega)), ← e2]
    · obtain ⟨e1, e2⟩ := hS2 (by omega)
      have hv := hg (t + d * i) (by omega)
      have hgap := fun j hj => ss_gap (f := gG σ 5) (t := t) (d := d) (i := i) j hj
      have hsb := ss_bnd (f := gG σ 5) (t := t) (d := d) (d * i) (fun j hj => hg (t + j) (by omega))
      have hsl := sc_le d (d * i)
      have hadd : (S + gG σ 5 (t + d * i)).toInt = ss (gG σ 5) t d (d * i) + (gG σ 5 (t + d * i)).toInt := by
        unfold bnd at hv
        rw [fb_addL (by omega) (by omega), e1]
      have hdi : d * (i + 1) = d * i + d := Nat.mul_succ d i
      obtain ⟨S2, g1, g2⟩ := ih (i + 1) a (S + gG σ 5 (t + d * i)) (by omega) (by omega) (by omega) (fun hle => by
        have hj := hgap (m - 2 * t - (d * i + 1)) (by omega)
        rw [show d * i + 1 + (m - 2 * t - (d * i + 1)) = m - 2 * t from by omega] at hj
        exact ⟨by omega, by rw [hadd, hj.1], by rw [hj.2]; omega⟩) (fun hlt => by
        have hj := hgap (d - 1) (by omega)
        rw [show d * i + 1 + (d - 1) = d * (i + 1) from by omega] at hj
        exact ⟨by rw [hadd, hj.1], by rw [hj.2]; omega⟩)
      refine ⟨S2, g1, Eq.trans ?_ g2⟩
      show fX2_meanOfEvery_8b N q42 (fX2_meanOfEvery_8 N q42 a) σ _ _ _ _ (nI (d * i)) = _
      unfold fX2_meanOfEvery_8b
      rw [if_neg (nI_nge (by omega) (by omega)), if_neg (cR_nle 0 hd (by omega)), X_restAt ht (by omega), bd2_e, lt1_e, lt1_e, lt1_e, lN_1, nI_add, ← hdi]
theorem X_mean {σ : St} {N t m d : Nat} (hN : 2000 ≤ N) (ht : gI σ 1 = nI t) (hg : ∀ j, j < m → bnd (gG σ 5 j)) (hm : m ≤ 10) (h2 : 2 * t < m) (hd : 0 < d) (hd3 : d ≤ 3) : ∃ v, fX2_meanOfEvery N σ (nI d) (nI (m - 2 * t)) = some (v, σ) ∧ v.toInt = ss (gG σ 5) t d (m - 2 * t) / (sc d (m - 2 * t) : Int) ∧ bnd v := by
  obtain ⟨S2, g1, g2⟩ := mean_loop (N := N) ht hg hm h2 hd hd3 (q42 := fun σ28 x26 x27 => if x27 ≤ (0 : Int64) then (some ((0 : Int64), σ28)) else (bd0 (fJ9_floorDiv_f86c9 x26 x27) fun r34 => some (r34, σ28))) 20 0 N 0 (by omega) (by omega) (by omega) (fun h => by omega) (fun _ => ⟨rfl, rfl⟩)
  have hp := sc_pos (d := d) (show 0 < m - 2 * t by omega)
  have hl := sc_le d (m - 2 * t)
  have hb := ss_bnd (f := gG σ 5) (t := t) (d := d) (m - 2 * t) (fun j hj => hg (t + j) (by omega))
  obtain ⟨v, e1, -, e3, e4⟩ := floor_eq (S := S2) hp (by omega) ⟨by rw [g1]; exact hb.1, by rw [g1]; exact hb.2⟩
  refine ⟨v, ?_, by rw [e3, g1], e4⟩
  unfold fX2_meanOfEvery
  refine Eq.trans g2 ?_
  rw [if_neg (dR_nle 0 hp (by omega)), e1, bd0_e]
theorem X_comb {σ : St} {N t m rule : Nat} (hN : 2000 ≤ N) (ht : gI σ 1 = nI t) (hr : gI σ 4 = nI rule) (h3 : t ≤ 3) (hr3 : rule ≤ 3) (hg : ∀ j, j < m → bnd (gG σ 5 j)) (hm : m ≤ 10) (h2 : 2 * t < m) :
    ∃ v, fX2_combined N σ (nI (m - 2 * t)) = some (v, σ) ∧ v.toInt = cmb rule t m (gG σ 5) ∧ bnd v := by
  unfold fX2_combined cmb
  rw [hr]
  by_cases h1 : rule = 1
  · subst h1
    have hb := sumB_2 (hg t (by omega)) (hg (m - 1 - t) (by omega))
    obtain ⟨v, e1, -, e3, e4⟩ := floor_eq (c := 2) (by omega) (by omega) hb
    rw [if_pos (show nI 1 = 1 from rfl), show fX2_restAt σ (0 : Int32) = _ from X_restAt (a := 0) ht (by omega), bd2_e, li1, pk_sub (show 1 ≤ m - 2 * t by omega), X_restAt ht (by omega), bd2_e, show t + 0 = t from rfl, show t + (m - 2 * t - 1) = m - 1 - t from by omega, show (2 : Int64) = lN 2 from rfl, e1, bd0_e, if_pos rfl]
    refine ⟨v, rfl, ?_, e4⟩
    have a1 := hg t (by omega)
    have a2 := hg (m - 1 - t) (by omega)
    unfold bnd at a1 a2
    rw [e3, fb_addL (by omega) (by omega)]; rfl
  · rw [if_neg (show ¬ nI rule = 1 from cR_ne 1 h1 (by omega) (by omega)), if_neg h1]
    by_cases h2' : rule = 2
    · subst h2'
      have hb := sumB_2 (hg (t + (m - 2 * t - 1) / 2) (by omega)) (hg (t + (m - 2 * t) / 2) (by omega))
      obtain ⟨v, e1, -, e3, e4⟩ := floor_eq (c := 2) (by omega) (by omega) hb
      rw [if_pos (show nI 2 = 2 from rfl), li1, li2, pk_sub (show 1 ≤ m - 2 * t by omega), pk_div (by omega) (by omega) (by omega), pk_div (by omega) (by omega) (by omega), X_restAt ht (by omega), bd2_e, X_restAt ht (by omega), bd2_e, show (2 : Int64) = lN 2 from rfl, e1, bd0_e, if_pos rfl]
      refine ⟨v, rfl, ?_, e4⟩
      have a1 := hg (t + (m - 2 * t - 1) / 2) (by omega)
      have a2 := hg (t + (m - 2 * t) / 2) (by omega)
      unfold bnd at a1 a2
      rw [e3, fb_addL (by omega) (by omega)]; rfl
    · rw [if_neg (show ¬ nI rule = 2 from cR_ne 2 h2' (by omega) (by omega)), if_neg h2']
      by_cases h3' : rule = 3
      · subst h3'
        rw [if_pos (show nI 3 = 3 from rfl), ht, J_maxI, bd0_e]
        by_cases ht1 : t ≤ 1
        · obtain ⟨v, e1, e2, e3⟩ := X_mean (d := 1) hN ht hg hm h2 (by omega) (by omega)
          have es : stp 3 t = 1 := by unfold stp; rw [if_neg (by omega)]
          have e : (if (1 : Int32) < nI t then nI t else 1) = nI 1 := by rw [if_neg (cL_nlt 1 ht1 (by omega))]; rfl
          rw [e, e1, bd2_e, es]
          exact ⟨v, rfl, e2, e3⟩
        · obtain ⟨v, e1, e2, e3⟩ := X_mean (d := t) hN ht hg hm h2 (by omega) (by omega)
          have es : stp 3 t = t := by unfold stp; rw [if_pos ⟨rfl, by omega⟩]
          rw [if_pos (show (1 : Int32) < nI t from cL_lt 1 (by omega) (by omega)), e1, bd2_e, es]
          exact ⟨v, rfl, e2, e3⟩
      · obtain ⟨v, e1, e2, e3⟩ := X_mean (d := 1) hN ht hg hm h2 (by omega) (by omega)
        have es : stp rule t = 1 := by unfold stp; rw [if_neg (fun z => h3' z.1)]
        rw [if_neg (show ¬ nI rule = 3 from cR_ne 3 h3' (by omega) (by omega)), show (1 : Int32) = nI 1 from rfl, e1, bd2_e, es]
        exact ⟨v, rfl, e2, e3⟩
/-! one end; a round -/
/-- the end that node q has after the next round -/
def nx (σ : St) (n t g rule r q s : Nat) : Int64 := if (gr σ n g r q s).1 ≤ 2 * t then val σ r q s else Int64.ofInt (cmb rule t (gr σ n g r q s).1 (gr σ n g r q s).2)
theorem nx_co {n t g rule r q s : Nat} {σ σ' : St} (h : Co n r σ σ') (h10 : n ≤ 10) (hq : q < n) (hs : s < 2) (hcq : cor σ q = true) : nx σ' n t g rule r q s = nx σ n t g rule r q s := by
  unfold nx
  rw [gr_co h h10 hq hs hcq, h.2.2.2.2 r q s (Nat.le_refl _) hq hs hcq]
theorem X_next {σ : St} {n t g rule len r q N : Nat} {hi : Int32} (hN : 2000 ≤ N) (I : Iv σ n t g rule len r) (hq : q < n) (hcq : cor σ q = true) : ∃ f, fX2_nextEnd N σ (nI q) hi = some (nx σ n t g rule r q (sd hi), sG σ 5 f) ∧ bnd (nx σ n t g rule r q (sd hi)) ∧ (2 * t < (gr σ n g r q (sd hi)).1 → (nx σ n t g rule r q (sd hi)).toInt = cmb rule t (gr σ n g r q (sd hi)).1 (gr σ n g r q (sd hi)).2) := by
  have h10 := I.n10
  have h60 := I.r60
  have hs := sd_lt hi
  have hn := gr_n (σ := σ) (n := n) (g := g) (r := r) (q := q) (s := sd hi)
  obtain ⟨f, g1, g2⟩ := X_collect (hi := hi) hN I hq hcq
  have I' := I.g5 f
  have hb := gr_bnd I hq hs hcq
  unfold fX2_nextEnd nx
  rw [g2, bd2_e]
  by_cases hl : (gr σ n g r q (sd hi)).1 ≤ 2 * t
  · rw [if_pos hl, show (gr σ n g r q (sd hi)).1 - 2 * t = 0 from by omega, if_pos (show nI 0 ≤ 0 from by decide), show gI (sG σ 5 f) 3 = nI r from I.xr, X_end _ (by omega), bd2_e]
    exact ⟨f, rfl, I.bv r q (sd hi) (Nat.le_refl _) hq hs hcq, fun z => by omega⟩
  · have hbf : ∀ j, j < (gr σ n g r q (sd hi)).1 → bnd (gG (sG σ 5 f) 5 j) := fun j hj => by
      show bnd (f j)
      rw [g1 j hj]; exact hb j hj
    obtain ⟨v, c1, c2, c3⟩ := X_comb (σ := sG σ 5 f) (m := (gr σ n g r q (sd hi)).1) hN I'.xt I'.xu I.t3 I.u3 hbf (by omega) (by omega)
    have ec : cmb rule t (gr σ n g r q (sd hi)).1 (gG (sG σ 5 f) 5) = cmb rule t (gr σ n g r q (sd hi)).1 (gr σ n g r q (sd hi)).2 := cmb_cong (by omega) g1
    rw [ec] at c2
    have ev : Int64.ofInt (cmb rule t (gr σ n g r q (sd hi)).1 (gr σ n g r q (sd hi)).2) = v := by rw [← c2]; exact Int64.ofInt_toInt v
    rw [if_neg hl, if_neg (nI_nle (by omega) (by omega)), c1, bd2_e, ev]
    exact ⟨f, rfl, c3, fun _ => c2⟩
