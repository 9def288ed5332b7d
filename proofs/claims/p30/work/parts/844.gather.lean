/-! gathering: in ascending order, and counted -/
def asc (f : Nat → Int64) (m : Nat) : Prop := ∀ i j, i ≤ j → j < m → (f i).toInt ≤ (f j).toInt
def cle (f : Nat → Int64) (z : Int) (i : Nat) : Bool := decide ((f i).toInt ≤ z)
theorem ct_t {p : Nat → Bool} {n : Nat} (h : p n = true) : fb_ct p (n + 1) = fb_ct p n + 1 := by rw [fb_ct_succ, if_pos h]
theorem ct_f {p : Nat → Bool} {n : Nat} (h : ¬ p n = true) : fb_ct p (n + 1) = fb_ct p n := by rw [fb_ct_succ, if_neg h]; rfl
theorem insF_stay {v : Int64} : ∀ (p : Nat) (f : Nat → Int64) (i : Nat), p < i → insF f v p i = f i
  | 0, f, i, h => by unfold insF; rw [pk_uLn (by omega)]
  | p + 1, f, i, h => by
    unfold insF
    by_cases hl : f p ≤ v
    · rw [if_pos hl, pk_uLn (by omega)]
    · rw [if_neg hl, insF_stay p _ i (by omega), pk_uLn (by omega)]
theorem insF_spec {v : Int64} : ∀ (p : Nat) (f : Nat → Int64), asc f p → ∃ k, k ≤ p ∧ (∀ j, j < k → insF f v p j = f j) ∧ insF f v p k = v ∧ (∀ j, k ≤ j → j < p → insF f v p (j + 1) = f j) ∧ (∀ j, j < k → (f j).toInt ≤ v.toInt) ∧ (∀ j, k ≤ j → j < p → v.toInt < (f j).toInt)
  | 0, f, _ => ⟨0, Nat.le_refl _, fun j h => by omega, by unfold insF; rw [pk_uLs], fun j h1 h2 => by omega, fun j h => by omega, fun j h1 h2 => by omega⟩
  | p + 1, f, ha => by
    by_cases hl : f p ≤ v
    · have hl' := (fa_le64 _ _).mp hl
      refine ⟨p + 1, Nat.le_refl _, fun j h => ?_, ?_, fun j h1 h2 => by omega, fun j h => ?_, fun j h1 h2 => by omega⟩
      · unfold insF; rw [if_pos hl, pk_uLn (by omega)]
      · unfold insF; rw [if_pos hl, pk_uLs]
      · have := ha j p (by omega) (by omega); omega
    · have hl' : v.toInt < (f p).toInt := (fa_lt64 _ _).mp (nle_lt hl)
      have ha' : asc (vp_updL f (p + 1) (f p)) p := fun i j h1 h2 => by rw [pk_uLn (by omega), pk_uLn (by omega)]; exact ha i j h1 (by omega)
      obtain ⟨k, g1, g2, g3, g4, g5, g6⟩ := insF_spec p (vp_updL f (p + 1) (f p)) ha'
      have e : insF f v (p + 1) = insF (vp_updL f (p + 1) (f p)) v p := by
        show (if f p ≤ v then _ else _) = _
        rw [if_neg hl]
      refine ⟨k, by omega, fun j h => ?_, ?_, fun j h1 h2 => ?_, fun j h => ?_, fun j h1 h2 => ?_⟩
      · rw [e, g2 j h, pk_uLn (by omega)]
      · rw [e]; exact g3
      · rw [e]
        by_cases hj : j = p
        · subst hj
          rw [insF_stay _ _ _ (by omega), pk_uLs]
        · rw [g4 j h1 (by omega), pk_uLn (by omega)]
      · have := g5 j h
        rw [pk_uLn (by omega)] at this
        exact this
      · by_cases hj : j = p
        · subst hj; exact hl'
        · have := g6 j h1 (by omega)
          rw [pk_uLn (by omega)] at this
          exact this
theorem insF_asc {v : Int64} {p : Nat} {f : Nat → Int64} (ha : asc f p) : asc (insF f v p) (p + 1) := by
  obtain ⟨k, g1, g2, g3, g4, g5, g6⟩ := insF_spec (v := v) p f ha
  intro i j hij hj
  have at' : ∀ j, j < p + 1 → (j < k ∧ insF f v p j = f j) ∨ (j = k ∧ insF f v p j = v) ∨ (k < j ∧ insF f v p j = f (j - 1)) := fun j hj => by
    by_cases h1 : j < k
    · exact Or.inl ⟨h1, g2 j h1⟩
    · by_cases h2 : j = k
      · subst h2; exact Or.inr (Or.inl ⟨rfl, g3⟩)
      · refine Or.inr (Or.inr ⟨by omega, ?_⟩)
        have := g4 (j - 1) (by omega) (by omega)
        rw [show j - 1 + 1 = j from by omega] at this
        exact this
  rcases at' i (by omega) with ⟨a1, e1⟩ | ⟨a1, e1⟩ | ⟨a1, e1⟩ <;> rcases at' j hj with ⟨b1, e2⟩ | ⟨b1, e2⟩ | ⟨b1, e2⟩ <;> rw [e1, e2]
  · exact ha i j hij (by omega)
  · exact g5 i a1
  · have := g5 i a1; have := g6 (j - 1) (by omega) (by omega); omega
  · omega
  · exact Int.le_refl _
  · have := g6 (j - 1) (by omega) (by omega); omega
  · omega
  · omega
  · exact ha (i - 1) (j - 1) (by omega) (by omega)
theorem insF_cle {v : Int64} {p : Nat} {f : Nat → Int64} (ha : asc f p) (z : Int) : fb_ct (cle (insF f v p) z) (p + 1) = fb_ct (cle f z) p + (if v.toInt ≤ z then 1 else 0) := by
  obtain ⟨k, g1, g2, g3, g4, -, -⟩ := insF_spec (v := v) p f ha
  have s1 := fb_ct_split (cle (insF f v p) z) k (1 + (p - k))
  have s2 := fb_ct_split (fun j => cle (insF f v p) z (k + j)) 1 (p - k)
  have s3 := fb_ct_split (cle f z) k (p - k)
  rw [show k + (1 + (p - k)) = p + 1 from by omega] at s1
  rw [show k + (p - k) = p from by omega] at s3
  have c1 : fb_ct (cle (insF f v p) z) k = fb_ct (cle f z) k := fb_ct_cong (fun j hj => by unfold cle; rw [g2 j hj])
  have c2 : fb_ct (fun j => cle (insF f v p) z (k + (1 + j))) (p - k) = fb_ct (fun j => cle f z (k + j)) (p - k) := fb_ct_cong (fun j hj => by
    unfold cle
    rw [show k + (1 + j) = k + j + 1 from by omega, g4 (k + j) (by omega) (by omega)])
  have c3 : fb_ct (fun j => cle (insF f v p) z (k + j)) 1 = if v.toInt ≤ z then 1 else 0 := by
    have e : cle (insF f v p) z (k + 0) = decide (v.toInt ≤ z) := by unfold cle; rw [Nat.add_zero, g3]
    by_cases h : v.toInt ≤ z
    · rw [if_pos h]
      rw [ct_t (n := 0) (by rw [e]; exact decide_eq_true h)]
      rfl
    · rw [if_neg h]
      rw [ct_f (n := 0) (by rw [e, decide_eq_false h]; decide)]
      rfl
  omega
def ga (v : Nat → Int64) (c : Nat → Bool) : Nat → Nat × (Nat → Int64)
  | 0 => (0, fun _ => 0)
  | i + 1 => if c i = true then ((ga v c i).1 + 1, insF (ga v c i).2 (v i) (ga v c i).1) else ga v c i
theorem ga_t {v : Nat → Int64} {c : Nat → Bool} {i : Nat} (h : c i = true) : ga v c (i + 1) = ((ga v c i).1 + 1, insF (ga v c i).2 (v i) (ga v c i).1) := by
  show (if c i = true then _ else _) = _
  rw [if_pos h]
theorem ga_f {v : Nat → Int64} {c : Nat → Bool} {i : Nat} (h : ¬ c i = true) : ga v c (i + 1) = ga v c i := by
  show (if c i = true then _ else _) = _
  rw [if_neg h]
theorem ga_ct {v : Nat → Int64} {c : Nat → Bool} : ∀ i, (ga v c i).1 = fb_ct c i
  | 0 => rfl
  | i + 1 => by
    by_cases h : c i = true
    · rw [ga_t h, ct_t h, ga_ct i]
    · rw [ga_f h, ct_f h, ga_ct i]
theorem ga_cong {v v' : Nat → Int64} {c c' : Nat → Bool} : ∀ i, (∀ p, p < i → c p = c' p) → (∀ p, p < i → c p = true → v p = v' p) → ga v c i = ga v' c' i
  | 0, _, _ => rfl
  | i + 1, h1, h2 => by
    have ih := ga_cong i (fun p hp => h1 p (by omega)) (fun p hp => h2 p (by omega))
    by_cases h : c i = true
    · rw [ga_t h, ga_t (by rw [← h1 i (by omega)]; exact h), ih, h2 i (by omega) h]
    · rw [ga_f h, ga_f (by rw [← h1 i (by omega)]; exact h), ih]
theorem ga_asc {v : Nat → Int64} {c : Nat → Bool} : ∀ i, asc (ga v c i).2 (ga v c i).1
  | 0 => fun i j _ hj => by have : (ga v c 0).1 = 0 := rfl; omega
  | i + 1 => by
    by_cases h : c i = true
    · rw [ga_t h]; exact insF_asc (ga_asc i)
    · rw [ga_f h]; exact ga_asc i
theorem ga_cle {v : Nat → Int64} {c : Nat → Bool} (z : Int) : ∀ i, fb_ct (cle (ga v c i).2 z) (ga v c i).1 = fb_ct (fun p => c p && decide ((v p).toInt ≤ z)) i
  | 0 => rfl
  | i + 1 => by
    by_cases h : c i = true
    · have e := insF_cle (v := v i) (ga_asc (v := v) (c := c) i) z
      rw [ga_t h]
      show fb_ct (cle (insF (ga v c i).2 (v i) (ga v c i).1) z) ((ga v c i).1 + 1) = _
      rw [e, ga_cle z i]
      by_cases hz : (v i).toInt ≤ z
      · rw [if_pos hz, ct_t (p := fun p => c p && decide ((v p).toInt ≤ z)) (by simp [h, hz])]
      · rw [if_neg hz, ct_f (p := fun p => c p && decide ((v p).toInt ≤ z)) (by simp [hz])]; rfl
    · rw [ga_f h, ga_cle z i, ct_f (p := fun p => c p && decide ((v p).toInt ≤ z)) (by simp [h])]
theorem ga_bnd {v : Nat → Int64} {c : Nat → Bool} : ∀ i, (∀ p, p < i → c p = true → bnd (v p)) → ∀ j, j < (ga v c i).1 → bnd ((ga v c i).2 j)
  | 0, _, j, hj => by have : (ga v c 0).1 = 0 := rfl; omega
  | i + 1, h, j, hj => by
    have ih := ga_bnd i (fun p hp => h p (by omega))
    by_cases hc : c i = true
    · rw [ga_t hc] at hj ⊢
      exact insF_bnd (h i (by omega) hc) _ _ ih j (by have hj : j < (ga v c i).1 + 1 := hj; omega)
    · rw [ga_f hc] at hj ⊢
      exact ih j hj
/-! counts and places -/
theorem asc_ge {f : Nat → Int64} {m j : Nat} {z : Int} (ha : asc f m) (hj : j < m) (hz : (f j).toInt ≤ z) : j + 1 ≤ fb_ct (cle f z) m := by
  have s := fb_ct_split (cle f z) (j + 1) (m - (j + 1))
  rw [show j + 1 + (m - (j + 1)) = m from by omega] at s
  have e : fb_ct (cle f z) (j + 1) = j + 1 := fb_ct_all.mpr (fun k hk => by
    have := ha k j (by omega) hj
    exact decide_eq_true (by omega))
  omega
theorem asc_le {f : Nat → Int64} {m j : Nat} {z : Int} (ha : asc f m) (hj : j < m) (hc : j + 1 ≤ fb_ct (cle f z) m) : (f j).toInt ≤ z := by
  by_cases h : (f j).toInt ≤ z
  · exact h
  · exfalso
    have s := fb_ct_split (cle f z) j (m - j)
    rw [show j + (m - j) = m from by omega] at s
    have e1 := fb_ct_le (cle f z) j
    have e2 : fb_ct (fun k => cle f z (j + k)) (m - j) = 0 := fb_ct_zero.mpr (fun k hk => by
      have := ha j (j + k) (by omega) (by omega)
      exact decide_eq_false (by omega))
    omega
theorem ct_up (b : Nat → Bool) (n : Nat) : fb_ct b n ≤ fb_ct b (n + 1) := by
  by_cases h : b n = true
  · rw [ct_t h]; omega
  · rw [ct_f h]; exact Nat.le_refl _
theorem ct_or {a b d : Nat → Bool} : ∀ n, (∀ p, p < n → a p = true → b p = true ∨ d p = true) → fb_ct a n ≤ fb_ct b n + fb_ct d n
  | 0, _ => Nat.le_refl _
  | n + 1, h => by
    have ih := ct_or n (fun p hp => h p (by omega))
    by_cases ha : a n = true
    · rw [ct_t ha]
      rcases h n (by omega) ha with hb | hd
      · rw [ct_t hb]
        by_cases hd : d n = true
        · rw [ct_t hd]; omega
        · rw [ct_f hd]; omega
      · rw [ct_t hd]
        by_cases hb : b n = true
        · rw [ct_t hb]; omega
        · rw [ct_f hb]; omega
    · rw [ct_f ha]
      have u1 := ct_up b n
      have u2 := ct_up d n
      omega
theorem ct_mono {a b : Nat → Bool} {n : Nat} (h : ∀ p, p < n → a p = true → b p = true) : fb_ct a n ≤ fb_ct b n := by
  have h1 := ct_or (a := a) (b := b) (d := fun _ => false) n (fun p hp ha => Or.inl (h p hp ha))
  have h2 : fb_ct (fun _ => false) n = 0 := fb_ct_zero.mpr (fun _ _ => rfl)
  omega
/-- what is left over lies above what at most t of the numbers are below -/
theorem ga_lo {v : Nat → Int64} {c : Nat → Bool} {n t j : Nat} {lo : Int} (hb : fb_ct (fun p => c p && decide ((v p).toInt < lo)) n ≤ t) (hj : j < (ga v c n).1) (ht : t ≤ j) : lo ≤ ((ga v c n).2 j).toInt := by
  by_cases h : lo ≤ ((ga v c n).2 j).toInt
  · exact h
  · exfalso
    have h1 := asc_ge (ga_asc n) hj (Int.le_refl _)
    rw [ga_cle] at h1
    have h2 := ct_mono (n := n) (a := fun p => c p && decide ((v p).toInt ≤ ((ga v c n).2 j).toInt)) (b := fun p => c p && decide ((v p).toInt < lo)) (fun p hp ha => by
      simp only [Bool.and_eq_true, decide_eq_true_eq] at ha ⊢
      exact ⟨ha.1, by omega⟩)
    omega
theorem ga_hi {v : Nat → Int64} {c : Nat → Bool} {n t j : Nat} {hi : Int} (hb : fb_ct (fun p => c p && decide (hi < (v p).toInt)) n ≤ t) (hj : j + t < (ga v c n).1) : ((ga v c n).2 j).toInt ≤ hi := by
  refine asc_le (ga_asc n) (by omega) ?_
  rw [ga_cle]
  have h1 := ct_or (n := n) (a := c) (b := fun p => c p && decide ((v p).toInt ≤ hi)) (d := fun p => c p && decide (hi < (v p).toInt)) (fun p hp ha => by
    by_cases h : (v p).toInt ≤ hi
    · left; simp [ha, h]
    · right; simp [ha]; omega)
  have h2 := ga_ct (v := v) (c := c) n
  omega
/-- two rows that differ in at most u places -/
theorem ga_shift {v v' : Nat → Int64} {c : Nat → Bool} {n u i : Nat} (hb : fb_ct (fun p => c p && decide (¬ v p = v' p)) n ≤ u) (hi : i + u < (ga v c n).1) : ((ga v c n).2 i).toInt ≤ ((ga v' c n).2 (i + u)).toInt := by
  have e1 := ga_ct (v := v) (c := c) n
  have e2 := ga_ct (v := v') (c := c) n
  refine asc_le (ga_asc n) (by omega) ?_
  rw [ga_cle]
  have h1 := asc_ge (z := ((ga v' c n).2 (i + u)).toInt) (ga_asc (v := v') (c := c) n) (show i + u < (ga v' c n).1 by omega) (Int.le_refl _)
  rw [ga_cle] at h1
  have h2 := ct_or (n := n) (a := fun p => c p && decide ((v' p).toInt ≤ ((ga v' c n).2 (i + u)).toInt)) (b := fun p => c p && decide ((v p).toInt ≤ ((ga v' c n).2 (i + u)).toInt)) (d := fun p => c p && decide (¬ v p = v' p)) (fun p hp ha => by
    simp only [Bool.and_eq_true, decide_eq_true_eq] at ha ⊢
    by_cases h : v p = v' p
    · left; exact ⟨ha.1, by rw [h]; exact ha.2⟩
    · right; exact ⟨ha.1, h⟩)
  omega
