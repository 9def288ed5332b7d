/-! widths: class and reference -/
theorem ex_in {f : Nat → Int64} {c : Nat → Bool} {gr : Bool} : ∀ n, ((ex f c gr n).2 = false ∧ (∀ p, p < n → c p = false) ∧ (ex f c gr n).1 = 0) ∨ ((ex f c gr n).2 = true ∧ (∃ p, p < n ∧ c p = true ∧ (ex f c gr n).1 = f p) ∧ ∀ p, p < n → c p = true → (gr = true → (f p).toInt ≤ (ex f c gr n).1.toInt) ∧ (gr = false → (ex f c gr n).1.toInt ≤ (f p).toInt))
  | 0 => Or.inl ⟨rfl, fun p h => absurd h (Nat.not_lt_zero p), rfl⟩
  | n + 1 => by
    have ih := ex_in (f := f) (c := c) (gr := gr) n
    by_cases q : c n = true
    · have e : ex f c gr (n + 1) = (if (ex f c gr n).2 = false then f n else if gr = true then (if (ex f c gr n).1 < f n then f n else (ex f c gr n).1) else (if f n < (ex f c gr n).1 then f n else (ex f c gr n).1), true) := by
        show (if c n = true then _ else _) = _
        rw [if_pos q]
      rw [e]
      refine Or.inr ⟨rfl, ?_⟩
      rcases ih with ⟨h1, h2, -⟩ | ⟨h1, ⟨p0, h2, h3, h4⟩, h5⟩
      · simp only [h1, if_true]
        refine ⟨⟨n, by omega, q, rfl⟩, fun p hp hc => ?_⟩
        by_cases hpn : p = n
        · subst hpn; exact ⟨fun _ => Int.le_refl _, fun _ => Int.le_refl _⟩
        · rw [h2 p (by omega)] at hc; cases hc
      · simp only [h1, Bool.true_eq_false, if_false]
        cases gr with
        | true =>
          simp only [if_true]
          by_cases hl : (ex f c true n).1 < f n
          · rw [if_pos hl]
            rw [fa_lt64] at hl
            refine ⟨⟨n, by omega, q, rfl⟩, fun p hp hc => ⟨fun _ => ?_, (fun z => by cases z)⟩⟩
            by_cases hpn : p = n
            · subst hpn; exact Int.le_refl _
            · have := (h5 p (by omega) hc).1 rfl; omega
          · rw [if_neg hl]
            have hl2 : ¬ (ex f c true n).1.toInt < (f n).toInt := fun z => hl ((fa_lt64 _ _).mpr z)
            refine ⟨⟨p0, by omega, h3, h4⟩, fun p hp hc => ⟨fun _ => ?_, (fun z => by cases z)⟩⟩
            by_cases hpn : p = n
            · subst hpn; omega
            · exact (h5 p (by omega) hc).1 rfl
        | false =>
          simp only [Bool.false_eq_true, if_false]
          by_cases hl : f n < (ex f c false n).1
          · rw [if_pos hl]
            rw [fa_lt64] at hl
            refine ⟨⟨n, by omega, q, rfl⟩, fun p hp hc => ⟨(fun z => by cases z), fun _ => ?_⟩⟩
            by_cases hpn : p = n
            · subst hpn; exact Int.le_refl _
            · have := (h5 p (by omega) hc).2 rfl; omega
          · rw [if_neg hl]
            have hl2 : ¬ (f n).toInt < (ex f c false n).1.toInt := fun z => hl ((fa_lt64 _ _).mpr z)
            refine ⟨⟨p0, by omega, h3, h4⟩, fun p hp hc => ⟨(fun z => by cases z), fun _ => ?_⟩⟩
            by_cases hpn : p = n
            · subst hpn; omega
            · exact (h5 p (by omega) hc).2 rfl
    · have e : ex f c gr (n + 1) = ex f c gr n := by
        show (if c n = true then _ else _) = _
        rw [if_neg q]
      have qf : c n = false := by cases h : c n <;> simp_all
      rw [e]
      rcases ih with ⟨h1, h2, h3⟩ | ⟨h1, ⟨p0, h2, h3, h4⟩, h5⟩
      · refine Or.inl ⟨h1, fun p hp => ?_, h3⟩
        by_cases hpn : p = n
        · subst hpn; exact qf
        · exact h2 p (by omega)
      · refine Or.inr ⟨h1, ⟨p0, by omega, h3, h4⟩, fun p hp hc => ?_⟩
        by_cases hpn : p = n
        · subst hpn; rw [qf] at hc; cases hc
        · exact h5 p (by omega) hc
/-- a width: from above by all differences, and one of them, or 0 -/
def wQ (σ : St) (n k : Nat) (m : Int64) : Prop := 0 ≤ m.toInt ∧ (m.toInt = 0 ∨ ∃ s a b, s < 2 ∧ a < n ∧ b < n ∧ cor σ a = true ∧ cor σ b = true ∧ m.toInt = (val σ k a s).toInt - (val σ k b s).toInt)
def wC (σ : St) (n k : Nat) (m : Int64) : Prop := ∀ s a b, s < 2 → a < n → b < n → cor σ a = true → cor σ b = true → (val σ k a s).toInt - (val σ k b s).toInt ≤ m.toInt
theorem w_one {σ : St} {n k : Nat} {m m' : Int64} (h1 : wQ σ n k m) (h2 : wC σ n k m) (h3 : wQ σ n k m') (h4 : wC σ n k m') : m = m' := by
  rw [fa_eq64]
  have l1 : m.toInt ≤ m'.toInt := by
    rcases h1.2 with e | ⟨s, a, b, hs, ha, hb, ca, cb, e⟩
    · rw [e]; exact h3.1
    · rw [e]; exact h4 s a b hs ha hb ca cb
  have l2 : m'.toInt ≤ m.toInt := by
    rcases h3.2 with e | ⟨s, a, b, hs, ha, hb, ca, cb, e⟩
    · rw [e]; exact h1.1
    · rw [e]; exact h2 s a b hs ha hb ca cb
  omega
/-- the values of correct nodes, with their bounds -/
def vB (σ : St) (n k : Nat) : Prop := ∀ p s, p < n → s < 2 → cor σ p = true → bnd (val σ k p s)
theorem RV.b {σ τ : St} {n r k : Nat} (V : RV σ τ n r) (hk : k ≤ r) : vB σ n k := fun p s hp hs hc => (V.2.2.2 k p s hk hp hs (cor_t.mp hc)).2
theorem sub_b {x y : Int64} (hx : bnd x) (hy : bnd y) : (x - y).toInt = x.toInt - y.toInt := by
  obtain ⟨h1, h2⟩ := hx
  obtain ⟨h3, h4⟩ := hy
  exact fb_subL (by omega) (by omega)
theorem w_le {σ : St} {n k : Nat} {m : Int64} (B : vB σ n k) (h : wQ σ n k m) : m.toInt ≤ 14414400000 := by
  rcases h.2 with e | ⟨s, a, b, hs, ha, hb, ca, cb, e⟩
  · omega
  · have h1 := B a s ha hs ca
    have h2 := B b s hb hs cb
    unfold bnd at h1 h2
    omega
theorem J_maxL (a b : Int64) : ∃ c, fJ9_max_f86c9 a b = some c ∧ a.toInt ≤ c.toInt ∧ b.toInt ≤ c.toInt ∧ (c = a ∨ c = b) := by
  unfold fJ9_max_f86c9
  by_cases h : a < b
  · rw [if_pos h]; rw [fa_lt64] at h; exact ⟨b, rfl, by omega, by omega, Or.inr rfl⟩
  · rw [if_neg h]
    have h2 : ¬ a.toInt < b.toInt := fun z => h ((fa_lt64 _ _).mpr z)
    exact ⟨a, rfl, by omega, by omega, Or.inl rfl⟩
theorem X_width {σ : St} {n N k : Nat} (hN : 2000 ≤ N) (hn : gI σ 0 = nI n) (h10 : n ≤ 10) (hk : k ≤ 60) (B : vB σ n k) : ∃ m, fX2_widthAfter N σ (nI k) = some (m, σ) ∧ wQ σ n k m ∧ wC σ n k m := by
  unfold fX2_widthAfter
  rw [X_correctSet hN hn h10]
  simp only [bd2, lt1, bd0, X_ext hN h10 hk, sd_0, sd_1]
  rw [show decide (¬ (1 : Int32) = 0) = true from by decide, show decide (¬ True) = false from by decide]
  generalize h1 : ex (fun p => val σ k p 0) (cor σ) true n = a1
  generalize h2 : ex (fun p => val σ k p 0) (cor σ) false n = a2
  generalize h3 : ex (fun p => val σ k p 1) (cor σ) true n = a3
  generalize h4 : ex (fun p => val σ k p 1) (cor σ) false n = a4
  have i1 := ex_in (f := fun p => val σ k p 0) (c := cor σ) (gr := true) n
  have i2 := ex_in (f := fun p => val σ k p 0) (c := cor σ) (gr := false) n
  have i3 := ex_in (f := fun p => val σ k p 1) (c := cor σ) (gr := true) n
  have i4 := ex_in (f := fun p => val σ k p 1) (c := cor σ) (gr := false) n
  rw [h1] at i1; rw [h2] at i2; rw [h3] at i3; rw [h4] at i4
  obtain ⟨m, hm, m1, m2, m3⟩ := J_maxL (a1.1 - a2.1) (a3.1 - a4.1)
  refine ⟨m, by rw [hm], ?_⟩
  by_cases hx : ∃ p, p < n ∧ cor σ p = true
  · obtain ⟨p, hp, hc⟩ := hx
    have j1 := i1.resolve_left (fun z => by have := z.2.1 p hp; rw [hc] at this; cases this)
    have j2 := i2.resolve_left (fun z => by have := z.2.1 p hp; rw [hc] at this; cases this)
    have j3 := i3.resolve_left (fun z => by have := z.2.1 p hp; rw [hc] at this; cases this)
    have j4 := i4.resolve_left (fun z => by have := z.2.1 p hp; rw [hc] at this; cases this)
    obtain ⟨-, ⟨p1, u1, u2, u3⟩, u4⟩ := j1
    obtain ⟨-, ⟨p2, v1, v2, v3⟩, v4⟩ := j2
    obtain ⟨-, ⟨p3, w1, w2, w3⟩, w4⟩ := j3
    obtain ⟨-, ⟨p4, x1, x2, x3⟩, x4⟩ := j4
    have s1 : (a1.1 - a2.1).toInt = a1.1.toInt - a2.1.toInt := by
      rw [u3, v3]; exact sub_b (B p1 0 u1 (by omega) u2) (B p2 0 v1 (by omega) v2)
    have s2 : (a3.1 - a4.1).toInt = a3.1.toInt - a4.1.toInt := by
      rw [w3, x3]; exact sub_b (B p3 1 w1 (by omega) w2) (B p4 1 x1 (by omega) x2)
    have t1 := (u4 p hp hc).1 rfl
    have t2 := (v4 p hp hc).2 rfl
    have t3 := (w4 p hp hc).1 rfl
    have t4 := (x4 p hp hc).2 rfl
    refine ⟨⟨by omega, Or.inr ?_⟩, fun s a b hs ha hb ca cb => ?_⟩
    · rcases m3 with rfl | rfl
      · exact ⟨0, p1, p2, by omega, u1, v1, u2, v2, by rw [s1, u3, v3]⟩
      · exact ⟨1, p3, p4, by omega, w1, x1, w2, x2, by rw [s2, w3, x3]⟩
    · rcases (show s = 0 ∨ s = 1 by omega) with rfl | rfl
      · have y1 := (u4 a ha ca).1 rfl
        have y2 := (v4 b hb cb).2 rfl
        omega
      · have y1 := (w4 a ha ca).1 rfl
        have y2 := (x4 b hb cb).2 rfl
        omega
  · have z1 : a1.1 = 0 := by
      rcases i1 with z | ⟨-, ⟨p, hp, hc, -⟩, -⟩
      · exact z.2.2
      · exact absurd ⟨p, hp, hc⟩ hx
    have z2 : a2.1 = 0 := by
      rcases i2 with z | ⟨-, ⟨p, hp, hc, -⟩, -⟩
      · exact z.2.2
      · exact absurd ⟨p, hp, hc⟩ hx
    have z3 : a3.1 = 0 := by
      rcases i3 with z | ⟨-, ⟨p, hp, hc, -⟩, -⟩
      · exact z.2.2
      · exact absurd ⟨p, hp, hc⟩ hx
    have z4 : a4.1 = 0 := by
      rcases i4 with z | ⟨-, ⟨p, hp, hc, -⟩, -⟩
      · exact z.2.2
      · exact absurd ⟨p, hp, hc⟩ hx
    rw [z1, z2, z3, z4] at m3
    have hm0 : m = 0 := by rcases m3 with rfl | rfl <;> rfl
    subst hm0
    exact ⟨⟨by decide, Or.inl rfl⟩, fun s a b hs ha hb ca cb => absurd ⟨a, ha, ca⟩ hx⟩
theorem M_width_in {σ τ : St} {n t g rule len N r k s a : Nat} {q : St → Int32 → Int64 → Int32 → Int32 → Option (Int64 × St)} (R : RP σ τ n t g rule len) (V : RV σ τ n r) (hk : k ≤ r) (hs : s < 2) (ha : a < n) : ∀ (j i fuel : Nat) (m : Int64), i + j = n → j < fuel → wQ σ n k m →
    ∃ m', wQ σ n k m' ∧ m.toInt ≤ m'.toInt ∧ (∀ b, i ≤ b → b < n → cor σ a = true → cor σ b = true → (val σ k a s).toInt - (val σ k b s).toInt ≤ m'.toInt) ∧ fX3_widthOf_26 N q fuel τ (nI k) m (nI s) (nI a) (nI i) = q τ (nI k) m' (nI s) (nI a) := by
  have h10 := R.n10
  have h60 := V.2.2.1
  intro j
  induction j with
  | zero =>
    intro i fuel m hi hf hm
    obtain ⟨f, rfl⟩ : ∃ f, fuel = f + 1 := ⟨fuel - 1, by omega⟩
    have hi : i = n := by omega
    subst hi
    refine ⟨m, hm, Int.le_refl _, fun b h1 h2 => by omega, ?_⟩
    show fX3_widthOf_26b N q _ τ (nI k) m (nI s) (nI a) (nI i) = _
    unfold fX3_widthOf_26b
    rw [R.mn, if_pos (nI_le (Nat.le_refl _) (by omega))]
  | succ j ih =>
    intro i fuel m hi hf hm
    obtain ⟨f, rfl⟩ : ∃ f, fuel = f + 1 := ⟨fuel - 1, by omega⟩
    have h0 : (0 : Int64) ≤ m := by rw [fa_le64]; exact hm.1
    have e : fX3_widthOf_26 N q (f + 1) τ (nI k) m (nI s) (nI a) (nI i) = fX3_widthOf_26b N q (fX3_widthOf_26 N q f) τ (nI k) m (nI s) (nI a) (nI i) := rfl
    unfold fX3_widthOf_26b at e
    rw [R.mn, if_neg (nI_nge (by omega) (by omega)), M_isCorrect R ha] at e
    simp only [bd2, lt1, nI_1] at e
    have skip : (cor σ a = true → cor σ i = true → False) → fX3_widthOf_26 N q (f + 1) τ (nI k) m (nI s) (nI a) (nI i) = fX3_widthOf_26 N q f τ (nI k) m (nI s) (nI a) (nI (i + 1)) → ∃ m', wQ σ n k m' ∧ m.toInt ≤ m'.toInt ∧ (∀ b, i ≤ b → b < n → cor σ a = true → cor σ b = true → (val σ k a s).toInt - (val σ k b s).toInt ≤ m'.toInt) ∧ fX3_widthOf_26 N q (f + 1) τ (nI k) m (nI s) (nI a) (nI i) = q τ (nI k) m' (nI s) (nI a) := by
      intro hno he
      obtain ⟨m', g1, g2, g3, g4⟩ := ih (i + 1) f m (by omega) (by omega) hm
      refine ⟨m', g1, g2, fun b hb1 hb2 ca cb => ?_, he.trans g4⟩
      by_cases hbi : b = i
      · subst hbi; exact (hno ca cb).elim
      · exact g3 b (by omega) hb2 ca cb
    by_cases ca : cor σ a = true
    · rw [if_pos ca, if_neg z10, M_isCorrect R (by omega)] at e
      simp only [] at e
      by_cases ci : cor σ i = true
      · rw [if_pos ci, if_neg z10, M_end (by omega)] at e
        simp only [] at e
        rw [M_end (by omega)] at e
        simp only [] at e
        rw [(V.2.2.2 k a s hk ha hs (cor_t.mp ca)).1, (V.2.2.2 k i s hk (by omega) hs (cor_t.mp ci)).1] at e
        have hd := sub_b ((V.2.2.2 k a s hk ha hs (cor_t.mp ca)).2) ((V.2.2.2 k i s hk (by omega) hs (cor_t.mp ci)).2)
        by_cases hl : val σ k a s - val σ k i s ≤ m
        · rw [if_pos hl] at e
          obtain ⟨m', g1, g2, g3, g4⟩ := ih (i + 1) f m (by omega) (by omega) hm
          refine ⟨m', g1, g2, fun b hb1 hb2 ca cb => ?_, e.trans g4⟩
          by_cases hbi : b = i
          · subst hbi; rw [fa_le64, hd] at hl; omega
          · exact g3 b (by omega) hb2 ca cb
        · rw [if_neg hl] at e
          have hl2 : m.toInt < (val σ k a s - val σ k i s).toInt := (fa_lt64 _ _).mp (nle_lt hl)
          obtain ⟨m', g1, g2, g3, g4⟩ := ih (i + 1) f (val σ k a s - val σ k i s) (by omega) (by omega) ⟨by have := hm.1; omega, Or.inr ⟨s, a, i, hs, ha, by omega, ca, ci, hd⟩⟩
          refine ⟨m', g1, by omega, fun b hb1 hb2 ca cb => ?_, e.trans g4⟩
          by_cases hbi : b = i
          · subst hbi; omega
          · exact g3 b (by omega) hb2 ca cb
      · rw [if_neg ci, if_pos rfl, if_pos h0] at e
        exact skip (fun _ h => ci h) e
    · rw [if_neg ca, if_pos rfl, if_pos h0] at e
      exact skip (fun h _ => ca h) e
theorem M_width_mid {σ τ : St} {n t g rule len N r k s : Nat} (hN : 2000 ≤ N) {q : St → Int32 → Int64 → Int32 → Option (Int64 × St)} (R : RP σ τ n t g rule len) (V : RV σ τ n r) (hk : k ≤ r) (hs : s < 2) : ∀ (j i fuel : Nat) (m : Int64), i + j = n → j < fuel → wQ σ n k m →
    ∃ m', wQ σ n k m' ∧ m.toInt ≤ m'.toInt ∧ (∀ a b, i ≤ a → a < n → b < n → cor σ a = true → cor σ b = true → (val σ k a s).toInt - (val σ k b s).toInt ≤ m'.toInt) ∧ fX3_widthOf_14 N q fuel τ (nI k) m (nI s) (nI i) = q τ (nI k) m' (nI s) := by
  have h10 := R.n10
  intro j
  induction j with
  | zero =>
    intro i fuel m hi hf hm
    obtain ⟨f, rfl⟩ : ∃ f, fuel = f + 1 := ⟨fuel - 1, by omega⟩
    have hi : i = n := by omega
    subst hi
    refine ⟨m, hm, Int.le_refl _, fun a b h1 h2 => by omega, ?_⟩
    show fX3_widthOf_14b N q _ τ (nI k) m (nI s) (nI i) = _
    unfold fX3_widthOf_14b
    rw [R.mn, if_pos (nI_le (Nat.le_refl _) (by omega))]
  | succ j ih =>
    intro i fuel m hi hf hm
    obtain ⟨f, rfl⟩ : ∃ f, fuel = f + 1 := ⟨fuel - 1, by omega⟩
    have e : fX3_widthOf_14 N q (f + 1) τ (nI k) m (nI s) (nI i) = fX3_widthOf_14b N q (fX3_widthOf_14 N q f) τ (nI k) m (nI s) (nI i) := rfl
    unfold fX3_widthOf_14b at e
    rw [R.mn, if_neg (nI_nge (by omega) (by omega))] at e
    obtain ⟨m1, f1, f2, f3, f4⟩ := M_width_in (N := N) (q := fun σ75 x71 x72 x73 x74 => lt1 (x74 + (1 : Int32)) fun x77 => fX3_widthOf_14 N q f σ75 x71 x72 x73 x77) R V hk hs (a := i) (by omega) n 0 N m (by omega) (by omega) hm
    have e := e.trans f4
    simp only [lt1, nI_1] at e
    obtain ⟨m', g1, g2, g3, g4⟩ := ih (i + 1) f m1 (by omega) (by omega) f1
    refine ⟨m', g1, by omega, fun a b h1 h2 h3 ca cb => ?_, e.trans g4⟩
    by_cases hai : a = i
    · subst hai; have := f3 b (Nat.zero_le b) h3 ca cb; omega
    · exact g3 a b (by omega) h2 h3 ca cb
theorem M_width {σ τ : St} {n t g rule len N r k : Nat} (hN : 2000 ≤ N) (R : RP σ τ n t g rule len) (V : RV σ τ n r) (hk : k ≤ r) : ∃ m, fX3_widthOf N τ (nI k) = some (m, τ) ∧ wQ σ n k m ∧ wC σ n k m := by
  have h10 := R.n10
  unfold fX3_widthOf
  obtain ⟨N1, rfl⟩ : ∃ f, N = f + 3 := ⟨N - 3, by omega⟩
  have step : ∀ (q : St → Int64 → Option (Int64 × St)) (f s : Nat) (m : Int64), s < 2 → wQ σ n k m → ∃ m', wQ σ n k m' ∧ m.toInt ≤ m'.toInt ∧ (∀ a b, a < n → b < n → cor σ a = true → cor σ b = true → (val σ k a s).toInt - (val σ k b s).toInt ≤ m'.toInt) ∧ fX3_widthOf_5 (N1 + 3) q (f + 1) τ (nI k) m (nI s) = fX3_widthOf_5 (N1 + 3) q f τ (nI k) m' (nI (s + 1)) := by
    intro q f s m hs hm
    have e : fX3_widthOf_5 (N1 + 3) q (f + 1) τ (nI k) m (nI s) = fX3_widthOf_5b (N1 + 3) q (fX3_widthOf_5 (N1 + 3) q f) τ (nI k) m (nI s) := rfl
    unfold fX3_widthOf_5b at e
    rw [if_neg (cL_nle 2 (by omega) (by omega))] at e
    obtain ⟨m1, f1, f2, f3, f4⟩ := M_width_mid (N := N1 + 3) hN (q := fun σ82 x79 x80 x81 => lt1 (x81 + (1 : Int32)) fun x84 => fX3_widthOf_5 (N1 + 3) q f σ82 x79 x80 x84) R V hk hs n 0 (N1 + 3) m (by omega) (by omega) hm
    have e := e.trans f4
    simp only [lt1, nI_1] at e
    exact ⟨m1, f1, f2, fun a b => f3 a b (Nat.zero_le a), e⟩
  obtain ⟨m1, a1, a2, a3, a4⟩ := step (fun σ87 x86 => some (x86, σ87)) (N1 + 2) 0 0 (by omega) ⟨by decide, Or.inl rfl⟩
  obtain ⟨m2, b1, b2, b3, b4⟩ := step (fun σ87 x86 => some (x86, σ87)) (N1 + 1) 1 m1 (by omega) a1
  refine ⟨m2, ?_, b1, fun s a b hs ha hb ca cb => ?_⟩
  · refine Eq.trans a4 (Eq.trans b4 ?_)
    show fX3_widthOf_5b (N1 + 3) _ _ τ (nI k) m2 (nI 2) = _
    unfold fX3_widthOf_5b
    rw [if_pos (cL_le 2 (Nat.le_refl _) (by omega))]
  · rcases (show s = 0 ∨ s = 1 by omega) with rfl | rfl
    · have := a3 a b ha hb ca cb; omega
    · exact b3 a b ha hb ca cb
/-- both sides have the same width -/
theorem width_eq {σ τ : St} {n t g rule len N r k : Nat} (hN : 2000 ≤ N) (R : RP σ τ n t g rule len) (V : RV σ τ n r) (hk : k ≤ r) : ∃ m, fX2_widthAfter N σ (nI k) = some (m, σ) ∧ fX3_widthOf N τ (nI k) = some (m, τ) ∧ 0 ≤ m.toInt ∧ m.toInt ≤ 14414400000 := by
  have h60 := V.2.2.1
  obtain ⟨m, h1, h2, h3⟩ := X_width hN R.xn R.n10 (by omega) (V.b hk)
  obtain ⟨m', h4, h5, h6⟩ := M_width hN R V hk
  obtain rfl := w_one h2 h3 h5 h6
  exact ⟨m, h1, h4, h2.1, w_le (V.b hk) h2⟩
