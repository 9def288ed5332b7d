/-! the law: low, units, widths -/
theorem L_low (a : Int32) {n : Nat} (h0 : 0 < n) (hn : n < 2147483648) : ∃ j : Nat, j < n ∧ fL_low a (nI n) = some (nI j) := by
  obtain ⟨j, hj, e⟩ := pk_andE a (m := 2147483647) 31 (by decide)
  refine ⟨j % n, Nat.mod_lt _ h0, ?_⟩
  unfold fL_low
  rw [if_neg (cR_ne 0 (by omega) (by omega) (by omega)), e, pk_rem (by omega) h0 (by omega)]
/-- a side's flag -/
def fl (s : Nat) : Int32 := if s = 1 then 1 else 0
theorem sd_fl {s : Nat} (h : s < 2) : sd (fl s) = s := by
  rcases (show s = 0 ∨ s = 1 by omega) with rfl | rfl <;> decide
/-- a value that is told, in units; or none -/
def vv (σ : St) (k p s : Nat) : Int64 := if cor σ p = true then val σ k p s else -9223372036854775808
theorem L_val {σ : St} {n t g rule len r N p k s : Nat} (hN : 2000 ≤ N) (I : Iv σ n t g rule len r) (hp : p < n) (hk : k ≤ r) (hs : s < 2) : ∃ x y, fX2_value N σ (nI p) (nI k) (fl s) 0 = some (x, σ) ∧ fX2_value N σ (nI p) (nI k) (fl s) 1 = some (y, σ) ∧ fL_units x y (lN g) = some (vv σ k p s) := by
  unfold vv
  by_cases hc : cor σ p = true
  · have hb := bnd_u (I.bv k p s hk hp hs hc)
    have h0 := X_value (hi := fl s) (z := 0) hN I hp hk hc
    have h1 := X_value (hi := fl s) (z := 1) hN I hp hk hc
    rw [sd_fl hs] at h0 h1
    exact ⟨_, _, h0, h1, by rw [if_pos hc]; exact (frac_u I.g1 I.g7 hb.1 hb.2).1⟩
  · exact ⟨_, _, X_value0 I hp hc, X_value0 I hp hc, by rw [if_neg hc]; exact u_no _ _⟩
theorem no_lo {x : Int64} (h : -20000000000 ≤ x.toInt) : ¬ x ≤ (-9000000000000000000 : Int64) := fun z => by
  rw [fa_le64] at z
  have : (-9000000000000000000 : Int64).toInt = -9000000000000000000 := rfl
  omega
theorem nv_lo : (-9223372036854775808 : Int64) ≤ -9000000000000000000 := by decide
theorem lw_step {σ : St} {n t g rule len r N k s a i : Nat} {m : Int64} {q173 : St → Int32 → Int32 → Int32 → Int64 → Int32 → Int32 → Option (Int64 × St)} {q30 : St → Int32 → Int32 → Int32 → Int64 → Int32 → Int32 → Int32 → Option (Int64 × St)} (hN : 2000 ≤ N) (I : Iv σ n t g rule len r) (hk : k ≤ r) (hs : s < 2) (ha : a < n) (hi : i < n) : fL_width_30b N q173 q30 σ (nI n) (nI k) (nI g) m (nI s) (nI a) (nI i) = q30 σ (nI n) (nI k) (nI g) (if cor σ a = true ∧ cor σ i = true ∧ ¬ val σ k a s - val σ k i s ≤ m then val σ k a s - val σ k i s else m) (nI s) (nI a) (nI (i + 1)) := by
  have h10 := I.n10
  have hg7 := I.g7
  obtain ⟨x1, y1, e1, e2, e3⟩ := L_val hN I ha hk hs
  obtain ⟨x2, y2, f1, f2, f3⟩ := L_val hN I hi hk hs
  have h115 : fL_width_115 N q30 σ (nI n) (nI k) (nI g) m (nI s) (nI a) (nI i) (vv σ k a s) (fl s) (nI k) (nI i) x2 = q30 σ (nI n) (nI k) (nI g) (if cor σ a = true ∧ cor σ i = true ∧ ¬ val σ k a s - val σ k i s ≤ m then val σ k a s - val σ k i s else m) (nI s) (nI a) (nI (i + 1)) := by
    unfold fL_width_115 fL_none
    rw [f2, bd2_e, nI_l (by omega), f3, bd0_e, bd0_e, bd0_e, lt1_e, lt1_e, lt1_e, nI_1]
    by_cases ca : cor σ a = true
    · have hb := bnd_u (I.bv k a s hk ha hs ca)
      rw [show vv σ k a s = val σ k a s from if_pos ca, if_neg (no_lo hb.1)]
      by_cases ci : cor σ i = true
      · have hb' := bnd_u (I.bv k i s hk hi hs ci)
        rw [show vv σ k i s = val σ k i s from if_pos ci, if_neg (no_lo hb'.1)]
        by_cases hl : val σ k a s - val σ k i s ≤ m
        · rw [if_pos hl, if_neg (fun z => z.2.2 hl)]
        · rw [if_neg hl, if_pos ⟨ca, ci, hl⟩]
      · rw [show vv σ k i s = -9223372036854775808 from if_neg ci, if_pos nv_lo, if_neg (fun z => ci z.2.1)]
    · rw [show vv σ k a s = -9223372036854775808 from if_neg ca, if_pos nv_lo, if_neg (fun z => ca z.1)]
  unfold fL_width_30b
  rw [if_neg (nI_nge hi (by omega))]
  rcases (show s = 0 ∨ s = 1 by omega) with rfl | rfl
  · have c0 : ¬ nI 0 = (1 : Int32) := by decide
    rw [if_neg c0]
    unfold fL_width_51
    rw [show fX2_value N σ (nI a) (nI k) 0 0 = _ from e1, bd2_e, if_neg c0]
    unfold fL_width_70
    rw [show fX2_value N σ (nI a) (nI k) 0 1 = _ from e2, bd2_e, nI_l (by omega), e3, bd0_e, if_neg c0]
    unfold fL_width_96
    rw [show fX2_value N σ (nI i) (nI k) 0 0 = _ from f1, bd2_e, if_neg c0]
    exact h115
  · have c1 : nI 1 = (1 : Int32) := rfl
    rw [if_pos c1]
    unfold fL_width_51
    rw [show fX2_value N σ (nI a) (nI k) 1 0 = _ from e1, bd2_e, if_pos c1]
    unfold fL_width_70
    rw [show fX2_value N σ (nI a) (nI k) 1 1 = _ from e2, bd2_e, nI_l (by omega), e3, bd0_e, if_pos c1]
    unfold fL_width_96
    rw [show fX2_value N σ (nI i) (nI k) 1 0 = _ from f1, bd2_e, if_pos c1]
    exact h115
theorem lw_in {σ : St} {n t g rule len r N k s a : Nat} {q173 : St → Int32 → Int32 → Int32 → Int64 → Int32 → Int32 → Option (Int64 × St)} (hN : 2000 ≤ N) (I : Iv σ n t g rule len r) (hk : k ≤ r) (hs : s < 2) (ha : a < n) : ∀ (j i fuel : Nat) (m : Int64), i + j = n → j < fuel → wQ σ n k m →
    ∃ m', wQ σ n k m' ∧ m.toInt ≤ m'.toInt ∧ (∀ b, i ≤ b → b < n → cor σ a = true → cor σ b = true → (val σ k a s).toInt - (val σ k b s).toInt ≤ m'.toInt) ∧ fL_width_30 N q173 fuel σ (nI n) (nI k) (nI g) m (nI s) (nI a) (nI i) = q173 σ (nI n) (nI k) (nI g) m' (nI s) (nI a) := by
  have h10 := I.n10
  intro j
  induction j with
  | zero =>
    intro i fuel m hi hf hm
    obtain ⟨f, rfl⟩ : ∃ f, fuel = f + 1 := ⟨fuel - 1, by omega⟩
    refine ⟨m, hm, Int.le_refl _, fun b h1 h2 => by omega, ?_⟩
    show fL_width_30b N q173 _ σ (nI n) (nI k) (nI g) m (nI s) (nI a) (nI i) = _
    unfold fL_width_30b
    rw [if_pos (nI_le (by omega) (by omega))]
  | succ j ih =>
    intro i fuel m hi hf hm
    obtain ⟨f, rfl⟩ : ∃ f, fuel = f + 1 := ⟨fuel - 1, by omega⟩
    have e := lw_step (m := m) (q173 := q173) (q30 := fL_width_30 N q173 f) hN I hk hs ha (show i < n by omega)
    by_cases hc : cor σ a = true ∧ cor σ i = true ∧ ¬ val σ k a s - val σ k i s ≤ m
    · obtain ⟨ca, ci, hl⟩ := hc
      have hd := sub_b (I.bv k a s hk ha hs ca) (I.bv k i s hk (by omega) hs ci)
      have hl2 : m.toInt < (val σ k a s - val σ k i s).toInt := (fa_lt64 _ _).mp (nle_lt hl)
      rw [if_pos ⟨ca, ci, hl⟩] at e
      obtain ⟨m', g1, g2, g3, g4⟩ := ih (i + 1) f (val σ k a s - val σ k i s) (by omega) (by omega) ⟨by have := hm.1; omega, Or.inr ⟨s, a, i, hs, ha, by omega, ca, ci, hd⟩⟩
      refine ⟨m', g1, by omega, fun b hb1 hb2 ca' cb => ?_, e.trans g4⟩
      by_cases hbi : b = i
      · subst hbi; omega
      · exact g3 b (by omega) hb2 ca' cb
    · rw [if_neg hc] at e
      obtain ⟨m', g1, g2, g3, g4⟩ := ih (i + 1) f m (by omega) (by omega) hm
      refine ⟨m', g1, g2, fun b hb1 hb2 ca cb => ?_, e.trans g4⟩
      by_cases hbi : b = i
      · subst hbi
        have hd := sub_b (I.bv k a s hk ha hs ca) (I.bv k b s hk hb2 hs cb)
        have hl : val σ k a s - val σ k b s ≤ m := Classical.byContradiction (fun z => hc ⟨ca, cb, z⟩)
        rw [fa_le64, hd] at hl
        omega
      · exact g3 b (by omega) hb2 ca cb
theorem lw_mid {σ : St} {n t g rule len r N k s : Nat} {q179 : St → Int32 → Int32 → Int32 → Int64 → Int32 → Option (Int64 × St)} (hN : 2000 ≤ N) (I : Iv σ n t g rule len r) (hk : k ≤ r) (hs : s < 2) : ∀ (j i fuel : Nat) (m : Int64), i + j = n → j < fuel → wQ σ n k m →
    ∃ m', wQ σ n k m' ∧ m.toInt ≤ m'.toInt ∧ (∀ a b, i ≤ a → a < n → b < n → cor σ a = true → cor σ b = true → (val σ k a s).toInt - (val σ k b s).toInt ≤ m'.toInt) ∧ fL_width_21 N q179 fuel σ (nI n) (nI k) (nI g) m (nI s) (nI i) = q179 σ (nI n) (nI k) (nI g) m' (nI s) := by
  have h10 := I.n10
  intro j
  induction j with
  | zero =>
    intro i fuel m hi hf hm
    obtain ⟨f, rfl⟩ : ∃ f, fuel = f + 1 := ⟨fuel - 1, by omega⟩
    refine ⟨m, hm, Int.le_refl _, fun a b h1 h2 => by omega, ?_⟩
    show fL_width_21b N q179 _ σ (nI n) (nI k) (nI g) m (nI s) (nI i) = _
    unfold fL_width_21b
    rw [if_pos (nI_le (by omega) (by omega))]
  | succ j ih =>
    intro i fuel m hi hf hm
    obtain ⟨f, rfl⟩ : ∃ f, fuel = f + 1 := ⟨fuel - 1, by omega⟩
    have e : fL_width_21 N q179 (f + 1) σ (nI n) (nI k) (nI g) m (nI s) (nI i) = fL_width_21b N q179 (fL_width_21 N q179 f) σ (nI n) (nI k) (nI g) m (nI s) (nI i) := rfl
    unfold fL_width_21b at e
    rw [if_neg (nI_nge (by omega) (by omega))] at e
    obtain ⟨m1, f1, f2, f3, f4⟩ := lw_in (q173 := fun σ149 x143 x144 x145 x146 x147 x148 => lt1 (x148 + (1 : Int32)) fun x151 => fL_width_21 N q179 f σ149 x143 x144 x145 x146 x147 x151) hN I hk hs (a := i) (by omega) n 0 N m (by omega) (by omega) hm
    have e := e.trans f4
    rw [lt1_e, nI_1] at e
    obtain ⟨m', g1, g2, g3, g4⟩ := ih (i + 1) f m1 (by omega) (by omega) f1
    refine ⟨m', g1, by omega, fun a b h1 h2 h3 ca cb => ?_, e.trans g4⟩
    by_cases hai : a = i
    · subst hai; have := f3 b (Nat.zero_le b) h3 ca cb; omega
    · exact g3 a b (by omega) h2 h3 ca cb
theorem L_width {σ : St} {n t g rule len r N k : Nat} (hN : 2000 ≤ N) (I : Iv σ n t g rule len r) (hk : k ≤ r) : ∃ m, fL_width N σ (nI n) (nI k) = some (m, σ) ∧ Wd σ n k m ∧ 0 ≤ m.toInt ∧ m.toInt ≤ 14414400000 := by
  have h10 := I.n10
  obtain ⟨N1, rfl⟩ : ∃ f, N = f + 3 := ⟨N - 3, by omega⟩
  have step : ∀ (q : St → Int64 → Option (Int64 × St)) (f s : Nat) (m : Int64), s < 2 → wQ σ n k m → ∃ m', wQ σ n k m' ∧ m.toInt ≤ m'.toInt ∧ (∀ a b, a < n → b < n → cor σ a = true → cor σ b = true → (val σ k a s).toInt - (val σ k b s).toInt ≤ m'.toInt) ∧ fL_width_12 (N1 + 3) q (f + 1) σ (nI n) (nI k) (nI g) m (nI s) = fL_width_12 (N1 + 3) q f σ (nI n) (nI k) (nI g) m' (nI (s + 1)) := by
    intro q f s m hs hm
    have e : fL_width_12 (N1 + 3) q (f + 1) σ (nI n) (nI k) (nI g) m (nI s) = fL_width_12b (N1 + 3) q (fL_width_12 (N1 + 3) q f) σ (nI n) (nI k) (nI g) m (nI s) := rfl
    unfold fL_width_12b at e
    rw [if_neg (cL_nle 2 hs (by omega))] at e
    obtain ⟨m', g1, g2, g3, g4⟩ := lw_mid (q179 := fun σ158 x153 x154 x155 x156 x157 => lt1 (x157 + (1 : Int32)) fun x160 => fL_width_12 (N1 + 3) q f σ158 x153 x154 x155 x156 x160) hN I hk hs n 0 (N1 + 3) m (by omega) (by omega) hm
    have e := e.trans g4
    rw [lt1_e, nI_1] at e
    exact ⟨m', g1, g2, fun a b h1 h2 ca cb => g3 a b (Nat.zero_le a) h1 h2 ca cb, e⟩
  have h0 : wQ σ n k 0 := ⟨by decide, Or.inl rfl⟩
  obtain ⟨m1, a1, a2, a3, a4⟩ := step (fun σ163 x162 => some (x162, σ163)) (N1 + 2) 0 0 (by omega) h0
  obtain ⟨m2, b1, b2, b3, b4⟩ := step (fun σ163 x162 => some (x162, σ163)) (N1 + 1) 1 m1 (by omega) a1
  have hW : Wd σ n k m2 := ⟨b1, fun s a b hs ha hb ca cb => by
    rcases (show s = 0 ∨ s = 1 by omega) with rfl | rfl
    · have := a3 a b ha hb ca cb; omega
    · exact b3 a b ha hb ca cb⟩
  refine ⟨m2, ?_, hW, b1.1, w_le (I.vB hk) b1⟩
  unfold fL_width
  rw [(X_counts hN I).2.1, bd2_e]
  refine Eq.trans a4 (Eq.trans b4 ?_)
  show fL_width_12b (N1 + 3) _ _ σ (nI n) (nI k) (nI g) m2 (nI 2) = _
  unfold fL_width_12b
  rw [if_pos (cL_le 2 (Nat.le_refl _) (by omega))]
