/-! what is sent -/
/-- names, unfolded by equations (and not by conversion) -/
theorem lt1_e {α γ : Type} (a : α) (f : α → Option γ) : lt1 a f = f a := Eq.trans rfl rfl
theorem bd2_e {α β γ : Type} (a : α) (b : β) (f : α → β → Option γ) : bd2 (some (a, b)) f = f a b := Eq.trans rfl rfl
theorem bd0_e {α γ : Type} (a : α) (f : α → Option γ) : bd0 (some a) f = f a := Eq.trans rfl rfl
theorem J_maxI (a b : Int32) : fJ9_max_7cf53 a b = some (if a < b then b else a) := by
  unfold fJ9_max_7cf53
  by_cases h : a < b
  · rw [if_pos h, if_pos h]
  · rw [if_neg h, if_neg h]
/-- the end of what a faulty node sends -/
theorem tail_eq {σ τ : St} {n t g rule len N : Nat} (R : RP σ τ n t g rule len) (x : Int64) : ∃ v, bnd v ∧ fX2_sentEnd_124 N σ x = some (v, σ) ∧ fX3_sent_232 N τ x = some (v, τ) ∧ (∀ k : St, gI k 2 = gI σ 2 → (lt1 ((10000 : Int64) * ((gI k 2).toInt64)) fun x19 => bd0 (fJ9_min_f86c9 x19 x) fun r22 => bd0 (fJ9_max_f86c9 (-x19) r22) fun r24 => some (r24, k)) = some (v, k)) := by
  obtain ⟨b1, b2, b3, b4, b5, b6, b7, b8, b9⟩ := R.B
  obtain ⟨v, hv, ⟨r, e1, e2⟩, e3⟩ := clamp_eq b9 x
  have hx : (10000 : Int64) * (gI σ 2).toInt64 = lN (10000 * g) := by rw [b6, nI_l (by omega), show (10000 : Int64) = lN 10000 from rfl, lN_mul]
  have hm : (10000 : Int64) * gJ τ 0 = lN (10000 * g) := by rw [b7, show (10000 : Int64) = lN 10000 from rfl, lN_mul]
  refine ⟨v, hv, ?_, ?_, fun k hk => ?_⟩
  · unfold fX2_sentEnd_124
    simp only [lt1, hx, e1, bd0, e2]
  · unfold fX3_sent_232
    simp only [lt1, hm]
    rw [← e3]
    by_cases h1 : -lN (10000 * g) ≤ x
    · rw [if_pos h1, if_pos h1]
      by_cases h2 : x ≤ lN (10000 * g)
      · rw [if_pos h2, if_pos h2]
      · rw [if_neg h2, if_neg h2]
    · rw [if_neg h1, if_neg h1]
  · simp only [lt1, hk, hx, e1, bd0, e2]
theorem nI_ne {a b : Nat} (h : a ≠ b) (ha : a < 2147483648) (hb : b < 2147483648) : ¬ nI a = nI b := fun q => h (nI_j ha hb q)
/-- the class, up to the switch -/
theorem sent_X {σ τ : St} {n t g rule len N p q st : Nat} {hi : Int32} (R : RP σ τ n t g rule len) (hp : p < n) (hst : gF σ 2 p = nI st) : fX2_sentEnd N σ (nI p) (nI q) hi = (if (nI st) = (1 : Int32) then
      bd2 (fX0_end σ 6 (nI p) (nI q) hi) fun r18 σ17 => lt1 ((10000 : Int64) * ((gI σ17 2).toInt64)) fun x19 => bd0 (fJ9_min_f86c9 x19 r18) fun r22 => bd0 (fJ9_max_f86c9 (-x19) r22) fun r24 => some (r24, σ17)
      else if (nI st) = (2 : Int32) then
        if (nI q - nI q / (2 : Int32) * (2 : Int32)) = (0 : Int32) then
          bd2 (fX2_correctSet N σ) fun r50 σ49 => bd2 (fX0_extremeEnd N σ49 3 (gI σ 3) r50 (0 : Int32) (0 : Int32)) fun r53 σ52 => if (nI p < 0 ∨ 10 ≤ (nI p).toNatClampNeg) then none else fX2_sentEnd_124 N σ52 (r53 - (gG σ52 4 (nI p).toNatClampNeg))
        else
          bd2 (fX2_correctSet N σ) fun r33 σ32 => bd2 (fX0_extremeEnd N σ32 3 (gI σ 3) r33 (1 : Int32) (1 : Int32)) fun r36 σ35 => if (nI p < 0 ∨ 10 ≤ (nI p).toNatClampNeg) then none else fX2_sentEnd_124 N σ35 (r36 + (gG σ35 4 (nI p).toNatClampNeg))
      else if (nI st) = (3 : Int32) then
        bd2 (fX0_end σ 3 (gI σ 3) (nI q) hi) fun r61 σ60 => if (nI p < 0 ∨ 10 ≤ (nI p).toNatClampNeg) then none else lt1 (r61 + (gG σ60 4 (nI p).toNatClampNeg)) fun x64 => lt1 ((10000 : Int64) * ((gI σ60 2).toInt64)) fun x66 => bd0 (fJ9_min_f86c9 x66 x64) fun r69 => bd0 (fJ9_max_f86c9 (-x66) r69) fun r71 => some (r71, σ60)
      else if (nI st) = (4 : Int32) then
        bd2 (fX0_end σ 3 (gI σ 3) (nI q) hi) fun r77 σ76 => lt1 ((10000 : Int64) * ((gI σ76 2).toInt64)) fun x78 => bd0 (fJ9_min_f86c9 x78 r77) fun r81 => bd0 (fJ9_max_f86c9 (-x78) r81) fun r83 => some (r83, σ76)
      else if (nI st) = (5 : Int32) then
        bd2 (fX0_end σ 3 (0 : Int32) (nI p) hi) fun r89 σ88 => if (nI p < 0 ∨ 10 ≤ (nI p).toNatClampNeg) then none else lt1 (r89 + (((gI σ88 3).toInt64) * (gG σ88 4 (nI p).toNatClampNeg))) fun x92 => lt1 ((10000 : Int64) * ((gI σ88 2).toInt64)) fun x94 => bd0 (fJ9_min_f86c9 x94 x92) fun r97 => bd0 (fJ9_max_f86c9 (-x94) r97) fun r99 => some (r99, σ88)
      else
        bd2 (fX2_delayOf σ (nI p) (nI q)) fun r102 σ101 => bd0 (fJ9_max_7cf53 (0 : Int32) ((gI σ 3) - r102)) fun r104 => bd2 (fX0_end σ101 3 r104 (nI p) hi) fun r107 σ106 => some (r107, σ106)) := by
    have h10 := R.n10
    unfold fX2_sentEnd
    rw [X_isNode R.xn hp h10]
    simp only [bd2]
    rw [if_neg z10, if_neg (nI_in (by omega) (by omega)), nI_clamp (by omega), hst]
/-- the reference: its own, or another node -/
theorem sent_M {σ τ : St} {n t g rule len N r p q st d : Nat} {hi : Int32} (hN : 2000 ≤ N) (R : RP σ τ n t g rule len) (V : RV σ τ n r) (hp : p < n) (hq : q < n) (hd3 : d ≤ 3) (hdv : gF σ 1 (10 * p + q) = nI d) (hst5 : st ≤ 5) (hst : gF σ 2 p = nI st) : fX3_sent N τ (nI p) (nI q) (nI (sd hi)) = (if p = q then some (gG τ 4 (20 * r + 2 * q + sd hi), τ) else if st = 0 then some (gG τ 4 (20 * (r - d) + 2 * p + sd hi), τ) else
      if st = 1 then fX3_sent_232 N τ (lie σ p q (sd hi)) else if st = 2 then (if (nI q - nI q / (2 : Int32) * (2 : Int32)) = (0 : Int32) then fX3_sent_232 N τ ((ex (fun p => val σ r p 0) (cor σ) false n).1 - gG σ 4 p) else fX3_sent_232 N τ ((ex (fun p => val σ r p 1) (cor σ) true n).1 + gG σ 4 p))
      else if st = 3 then fX3_sent_232 N τ (gG τ 4 (20 * r + 2 * q + sd hi) + gG σ 4 p) else if st = 4 then fX3_sent_232 N τ (gG τ 4 (20 * r + 2 * q + sd hi)) else fX3_sent_232 N τ (inp σ p (sd hi) + (nI r).toInt64 * gG σ 4 p)) := by
    have h10 := R.n10
    have h60 := V.2.2.1
    have hs := sd_lt hi
    unfold fX3_sent
    by_cases hpq : p = q
    · subst hpq
      rw [if_pos rfl, V.2.1, M_end (by omega), if_pos rfl]
      simp only [bd2_e]
    · rw [if_neg (nI_ne hpq (by omega) (by omega)), if_neg hpq, ix01, if_neg (nI_in (by omega) (by omega)), nI_clamp (by omega), R.md _ (by omega), hdv]
      simp only [lt1_e]
      rw [if_neg (nI_in (by omega) (by omega)), nI_clamp (by omega), R.ms p (by omega), hst, V.2.1]
      by_cases h0 : st = 0
      · subst h0
        rw [if_pos (cR_eq 0 rfl), if_pos rfl]
        by_cases hl : r ≤ d
        · rw [if_pos (nI_le hl (by omega)), show (0 : Int32) = nI 0 from rfl, M_end (by omega), show r - d = 0 from by omega]
          simp only [bd2_e]
        · rw [if_neg (nI_nge (by omega) (by omega)), pk_sub (by omega), M_end (by omega)]
          simp only [bd2_e]
      · have hma := R.ma p (by omega) (by rw [hst]; exact cR_ne 0 h0 (by omega) (by omega))
        rw [if_neg (cR_ne 0 h0 (by omega) (by omega)), if_neg h0, ix2, if_neg (nI_in (by omega) (by omega)), if_neg (nI_in' (by omega) (by omega)), nI_clamp (by omega), M_inp R (by omega) hs, hma]
        by_cases h1 : st = 1
        · subst h1
          rw [if_pos (cR_eq 1 rfl), if_pos rfl]
          have hl := R.ml (10 * p + q) (by omega)
          unfold lie
          by_cases hz : sd hi = 0
          · rw [hz, if_pos (cR_eq 0 rfl), if_neg (nI_in' (by omega) (by omega)), if_pos rfl, hl.1]; rfl
          · rw [if_neg (cR_ne 0 hz (by omega) (by omega)), if_neg (nI_in' (by omega) (by omega)), if_neg hz, hl.2]; rfl
        · rw [if_neg (cR_ne 1 h1 (by omega) (by omega)), if_neg h1]
          by_cases h2 : st = 2
          · subst h2
            rw [if_pos (cR_eq 2 rfl), if_pos rfl]
            by_cases hev : (nI q - nI q / (2 : Int32) * (2 : Int32)) = (0 : Int32)
            · rw [if_pos hev, if_pos hev, show fX3_outermost N τ (nI r) (0 : Int32) = _ from M_out (s := 0) hN R V (Nat.le_refl _) (by omega)]
              simp only [bd2_e]
              rw [if_neg (nI_in' (by omega) (by omega)), hma, show decide ((0 : Nat) = 1) = false from rfl]
              rfl
            · rw [if_neg hev, if_neg hev, show fX3_outermost N τ (nI r) (1 : Int32) = _ from M_out (s := 1) hN R V (Nat.le_refl _) (by omega)]
              simp only [bd2_e]
              rw [if_neg (nI_in' (by omega) (by omega)), hma, show decide True = true from rfl]
              rfl
          · rw [if_neg (cR_ne 2 h2 (by omega) (by omega)), if_neg h2]
            by_cases h3 : st = 3
            · subst h3
              rw [if_pos (cR_eq 3 rfl), if_pos rfl, M_end (by omega)]
              simp only [bd2_e]
              rw [if_neg (nI_in' (by omega) (by omega)), hma]
            · rw [if_neg (cR_ne 3 h3 (by omega) (by omega)), if_neg h3]
              by_cases h4 : st = 4
              · subst h4
                rw [if_pos (cR_eq 4 rfl), if_pos rfl, M_end (by omega)]
                simp only [bd2_e]
              · rw [if_neg (cR_ne 4 h4 (by omega) (by omega)), if_neg h4]
/-- what node p sends to node q: the reference answers; for a correct q the class answers the same -/
theorem sent_eq {σ τ : St} {n t g rule len N r p q : Nat} {hi : Int32} (hN : 2000 ≤ N) (R : RP σ τ n t g rule len) (V : RV σ τ n r) (hp : p < n) (hq : q < n) (hd : ¬ gF σ 1 (10 * p + q) = -1) :
    ∃ v, fX3_sent N τ (nI p) (nI q) (nI (sd hi)) = some (v, τ) ∧ (cor σ q = true → fX2_sentEnd N σ (nI p) (nI q) hi = some (v, σ) ∧ bnd v) := by
  have h10 := R.n10
  have h60 := V.2.2.1
  have hs := sd_lt hi
  obtain ⟨d, hd3, hdv⟩ := (R.d3 (10 * p + q) (by omega)).resolve_left hd
  obtain ⟨st, hst5, hst⟩ := R.s5 p (by omega)
  have eX := sent_X (N := N) (q := q) (hi := hi) R hp hst
  have eM := sent_M (hi := hi) hN R V hp hq hd3 hdv hst5 hst
  rw [eM, eX]
  by_cases hpq : p = q
  · subst hpq
    refine ⟨_, if_pos rfl, fun hc => ?_⟩
    have h0 : st = 0 := by
      have := cor_t.mp hc
      rw [hst] at this
      exact nI_j (by omega) (by omega) this
    subst h0
    have hd0 : d = 0 := by
      have := R.dd p (by omega)
      rw [hdv] at this
      exact nI_j (by omega) (by omega) this
    subst hd0
    have hv := V.2.2.2 r p (sd hi) (Nat.le_refl _) hp hs (cor_t.mp hc)
    rw [if_neg (by decide), if_neg (by decide), if_neg (by decide), if_neg (by decide), if_neg (by decide), X_delayOf (by omega) (by omega), V.1, hdv]
    simp only [bd2_e, J_maxI, bd0_e]
    have hm : (if (0 : Int32) < nI r - nI 0 then nI r - nI 0 else 0) = nI r := by
      rw [pk_sub (by omega)]
      by_cases hr0 : r = 0
      · subst hr0; rfl
      · rw [if_pos (cL_lt 0 (by omega) (by omega))]; rfl
    rw [hm, X_end _ (by omega), hv.1]
    exact ⟨rfl, hv.2⟩
  · rw [if_neg hpq]
    by_cases h0 : st = 0
    · subst h0
      refine ⟨_, if_pos rfl, fun hc => ?_⟩
      have hcp : cor σ p = true := cor_t.mpr hst
      have hv := V.2.2.2 (r - d) p (sd hi) (by omega) hp hs (cor_t.mp hcp)
      rw [if_neg (by decide), if_neg (by decide), if_neg (by decide), if_neg (by decide), if_neg (by decide), X_delayOf (by omega) (by omega), V.1, hdv]
      simp only [bd2_e, J_maxI, bd0_e]
      have hm : (if (0 : Int32) < nI r - nI d then nI r - nI d else 0) = nI (r - d) := by
        by_cases hl : d < r
        · rw [pk_sub (by omega), if_pos (cL_lt 0 (by omega) (by omega))]
        · have h1 : r - d = 0 := by omega
          have h2 : ¬ (0 : Int32) < nI r - nI d := fun z => by
            rw [fa_lt, pk_sub_toInt (by omega) (by omega)] at z
            have : (0 : Int32).toInt = 0 := rfl
            omega
          rw [if_neg h2, h1]; rfl
      rw [hm, X_end _ (by omega), hv.1]
      exact ⟨rfl, hv.2⟩
    · rw [if_neg h0]
      by_cases h1 : st = 1
      · subst h1
        obtain ⟨v, hv, -, e2, e3⟩ := tail_eq (N := N) R (lie σ p q (sd hi))
        refine ⟨v, by rw [if_pos rfl]; exact e2, fun hc => ⟨?_, hv⟩⟩
        rw [if_pos (cR_eq 1 rfl), X_lie _ (by omega)]
        simp only [bd2_e]
        exact e3 σ rfl
      · rw [if_neg h1]
        have c1 : ¬ nI st = (1 : Int32) := cR_ne 1 h1 (by omega) (by omega)
        by_cases h2 : st = 2
        · subst h2
          rw [if_pos rfl]
          by_cases hev : (nI q - nI q / (2 : Int32) * (2 : Int32)) = (0 : Int32)
          · obtain ⟨v, hv, e1, e2, -⟩ := tail_eq (N := N) R ((ex (fun p => val σ r p 0) (cor σ) false n).1 - gG σ 4 p)
            refine ⟨v, by rw [if_pos hev]; exact e2, fun hc => ⟨?_, hv⟩⟩
            rw [if_neg c1, if_pos (cR_eq 2 rfl), if_pos hev, X_correctSet hN R.xn h10, V.1]
            simp only [bd2_e]
            rw [X_ext hN h10 h60, bd2_e]
            rw [if_neg (nI_in (by omega) (by omega)), nI_clamp (by omega), sd_0, show decide (¬ (0 : Int32) = 0) = false from by decide]
            exact e1
          · obtain ⟨v, hv, e1, e2, -⟩ := tail_eq (N := N) R ((ex (fun p => val σ r p 1) (cor σ) true n).1 + gG σ 4 p)
            refine ⟨v, by rw [if_neg hev]; exact e2, fun hc => ⟨?_, hv⟩⟩
            rw [if_neg c1, if_pos (cR_eq 2 rfl), if_neg hev, X_correctSet hN R.xn h10, V.1]
            simp only [bd2_e]
            rw [X_ext hN h10 h60, bd2_e]
            rw [if_neg (nI_in (by omega) (by omega)), nI_clamp (by omega), sd_1, show decide (¬ (1 : Int32) = 0) = true from by decide]
            exact e1
        · rw [if_neg h2]
          have c2 : ¬ nI st = (2 : Int32) := cR_ne 2 h2 (by omega) (by omega)
          by_cases h3 : st = 3
          · subst h3
            obtain ⟨v, hv, -, e2, e3⟩ := tail_eq (N := N) R (gG τ 4 (20 * r + 2 * q + sd hi) + gG σ 4 p)
            refine ⟨v, by rw [if_pos rfl]; exact e2, fun hc => ⟨?_, hv⟩⟩
            have hvq := V.2.2.2 r q (sd hi) (Nat.le_refl _) hq hs (cor_t.mp hc)
            rw [if_neg c1, if_neg c2, if_pos (cR_eq 3 rfl), V.1, X_end _ (by omega)]
            simp only [bd2_e]
            rw [if_neg (nI_in (by omega) (by omega)), nI_clamp (by omega), ← hvq.1, lt1_e]
            exact e3 σ rfl
          · rw [if_neg h3]
            have c3 : ¬ nI st = (3 : Int32) := cR_ne 3 h3 (by omega) (by omega)
            by_cases h4 : st = 4
            · subst h4
              obtain ⟨v, hv, -, e2, e3⟩ := tail_eq (N := N) R (gG τ 4 (20 * r + 2 * q + sd hi))
              refine ⟨v, by rw [if_pos rfl]; exact e2, fun hc => ⟨?_, hv⟩⟩
              have hvq := V.2.2.2 r q (sd hi) (Nat.le_refl _) hq hs (cor_t.mp hc)
              rw [if_neg c1, if_neg c2, if_neg c3, if_pos (cR_eq 4 rfl), V.1, X_end _ (by omega)]
              simp only [bd2_e]
              rw [← hvq.1]
              exact e3 σ rfl
            · rw [if_neg h4]
              have c4 : ¬ nI st = (4 : Int32) := cR_ne 4 h4 (by omega) (by omega)
              have h5 : st = 5 := by omega
              subst h5
              obtain ⟨v, hv, -, e2, e3⟩ := tail_eq (N := N) R (inp σ p (sd hi) + (nI r).toInt64 * gG σ 4 p)
              refine ⟨v, e2, fun hc => ⟨?_, hv⟩⟩
              rw [if_neg c1, if_neg c2, if_neg c3, if_neg c4, if_pos (cR_eq 5 rfl), show fX0_end σ 3 (0 : Int32) (nI p) hi = _ from X_end (k := 0) hi (by omega)]
              simp only [bd2_e]
              rw [if_neg (nI_in (by omega) (by omega)), nI_clamp (by omega), V.1, val_0, lt1_e]
              exact e3 σ rfl
/-! inserting -/
/-- the value v goes into its place among the first p -/
def insF (f : Nat → Int64) (v : Int64) : Nat → (Nat → Int64)
  | 0 => vp_updL f 0 v
  | p + 1 => if f p ≤ v then vp_updL f (p + 1) v else insF (vp_updL f (p + 1) (f p)) v p
theorem insF_cong {v : Int64} : ∀ (p : Nat) (f f' : Nat → Int64), (∀ j, j < p → f j = f' j) → ∀ j, j ≤ p → insF f v p j = insF f' v p j
  | 0, f, f', _, j, hj => by
    have : j = 0 := by omega
    subst this
    unfold insF
    rw [pk_uLs, pk_uLs]
  | p + 1, f, f', h, j, hj => by
    unfold insF
    rw [h p (by omega)]
    by_cases hl : f' p ≤ v
    · rw [if_pos hl, if_pos hl]
      by_cases e : j = p + 1
      · subst e; rw [pk_uLs, pk_uLs]
      · rw [pk_uLn e, pk_uLn e, h j (by omega)]
    · rw [if_neg hl, if_neg hl]
      by_cases e : j = p + 1
      · subst e
        -- the place that was filled stays
        have stay : ∀ (p' : Nat) (a b : Nat → Int64) (i : Nat), p' < i → a i = b i → insF a v p' i = insF b v p' i := by
          intro p'
          induction p' with
          | zero =>
            intro a b i hi hab
            unfold insF
            rw [pk_uLn (by omega), pk_uLn (by omega), hab]
          | succ p' ih =>
            intro a b i hi hab
            unfold insF
            by_cases h1 : a p' ≤ v <;> by_cases h2 : b p' ≤ v
            · rw [if_pos h1, if_pos h2, pk_uLn (by omega), pk_uLn (by omega), hab]
            · rw [if_pos h1, if_neg h2, pk_uLn (by omega)]
              have h3 := ih (vp_updL b (p' + 1) (b p')) a i (by omega) (by rw [pk_uLn (by omega), hab])
              have h4 : insF a v p' i = a i := by
                have aux : ∀ (p'' : Nat) (a : Nat → Int64) (i : Nat), p'' < i → insF a v p'' i = a i := by
                  intro p''
                  induction p'' with
                  | zero => intro a i hi; unfold insF; rw [pk_uLn (by omega)]
                  | succ p'' ih2 =>
                    intro a i hi
                    unfold insF
                    by_cases h : a p'' ≤ v
                    · rw [if_pos h, pk_uLn (by omega)]
                    · rw [if_neg h, ih2 _ i (by omega), pk_uLn (by omega)]
                exact aux p' a i (by omega)
              rw [h3, h4]
            · rw [if_neg h1, if_pos h2, pk_uLn (by omega)]
              have h3 := ih (vp_updL a (p' + 1) (a p')) b i (by omega) (by rw [pk_uLn (by omega), hab])
              have h4 : insF b v p' i = b i := by
                have aux : ∀ (p'' : Nat) (a : Nat → Int64) (i : Nat), p'' < i → insF a v p'' i = a i := by
                  intro p''
                  induction p'' with
                  | zero => intro a i hi; unfold insF; rw [pk_uLn (by omega)]
                  | succ p'' ih2 =>
                    intro a i hi
                    unfold insF
                    by_cases h : a p'' ≤ v
                    · rw [if_pos h, pk_uLn (by omega)]
                    · rw [if_neg h, ih2 _ i (by omega), pk_uLn (by omega)]
                exact aux p' b i (by omega)
              rw [h3, h4]
            · rw [if_neg h1, if_neg h2]
              exact ih _ _ i (by omega) (by rw [pk_uLn (by omega), pk_uLn (by omega), hab])
        exact stay p _ _ (p + 1) (by omega) (by rw [pk_uLs, pk_uLs])
      · exact insF_cong p _ _ (fun i hi => by rw [pk_uLn (by omega), pk_uLn (by omega), h i (by omega)]) j (by omega)
theorem insF_bnd {v : Int64} (hv : bnd v) : ∀ (p : Nat) (f : Nat → Int64), (∀ j, j < p → bnd (f j)) → ∀ j, j ≤ p → bnd (insF f v p j)
  | 0, f, _, j, hj => by
    have : j = 0 := by omega
    subst this
    unfold insF
    rw [pk_uLs]; exact hv
  | p + 1, f, h, j, hj => by
    unfold insF
    by_cases hl : f p ≤ v
    · rw [if_pos hl]
      by_cases e : j = p + 1
      · subst e; rw [pk_uLs]; exact hv
      · rw [pk_uLn e]; exact h j (by omega)
    · rw [if_neg hl]
      by_cases e : j = p + 1
      · subst e
        have aux : ∀ (p'' : Nat) (a : Nat → Int64) (i : Nat), p'' < i → insF a v p'' i = a i := by
          intro p''
          induction p'' with
          | zero => intro a i hi; unfold insF; rw [pk_uLn (by omega)]
          | succ p'' ih2 =>
            intro a i hi
            unfold insF
            by_cases h : a p'' ≤ v
            · rw [if_pos h, pk_uLn (by omega)]
            · rw [if_neg h, ih2 _ i (by omega), pk_uLn (by omega)]
        rw [aux p _ (p + 1) (by omega), pk_uLs]
        exact h p (by omega)
      · exact insF_bnd hv p _ (fun i hi => by rw [pk_uLn (by omega)]; exact h i (by omega)) j (by omega)
theorem sG_sG (σ : St) (a : Nat) (f f' : Nat → Int64) : sG (sG σ a f) a f' = sG σ a f' := by
  unfold sG
  refine Prod.ext rfl (Prod.ext rfl (Prod.ext rfl ?_))
  funext b
  by_cases h : b = a
  · simp [h]
  · simp [h]
theorem sG_self (σ : St) (a : Nat) : sG σ a (gG σ a) = σ := by
  unfold sG
  refine Prod.ext rfl (Prod.ext rfl (Prod.ext rfl ?_))
  funext b
  by_cases h : b = a
  · subst h; simp [gG]
  · simp [h]
theorem X_ins {σ : St} {N : Nat} {v : Int64} {q : St → Int64 → Int32 → Option St} : ∀ (p fuel : Nat) (f : Nat → Int64), p < 10 → p < fuel → ∃ (f' : Nat → Int64) (p' : Nat), p' ≤ p ∧ vp_updL f' p' v = insF f v p ∧ fX2_insertAscending_19 N q fuel (sG σ 5 f) v (nI p) = q (sG σ 5 f') v (nI p') := by
  intro p
  induction p with
  | zero =>
    intro fuel f hp hf
    obtain ⟨k, rfl⟩ : ∃ k, fuel = k + 1 := ⟨fuel - 1, by omega⟩
    refine ⟨f, 0, Nat.le_refl _, rfl, ?_⟩
    show fX2_insertAscending_19b N q _ (sG σ 5 f) v (nI 0) = _
    unfold fX2_insertAscending_19b
    rw [if_pos (cR_le 0 (Nat.le_refl _) (by omega))]
  | succ p ih =>
    intro fuel f hp hf
    obtain ⟨k, rfl⟩ : ∃ k, fuel = k + 1 := ⟨fuel - 1, by omega⟩
    have e : fX2_insertAscending_19 N q (k + 1) (sG σ 5 f) v (nI (p + 1)) = fX2_insertAscending_19b N q (fX2_insertAscending_19 N q k) (sG σ 5 f) v (nI (p + 1)) := rfl
    unfold fX2_insertAscending_19b at e
    rw [if_neg (cR_nle 0 (by omega) (by omega)), nI_pred, if_neg (nI_in (by omega) (by omega)), if_neg (nI_in (by omega) (by omega)), if_neg (nI_in (by omega) (by omega)), nI_clamp (by omega), nI_clamp (by omega), show gG (sG σ 5 f) 5 = f from rfl] at e
    by_cases hl : f p ≤ v
    · rw [if_pos hl] at e
      exact ⟨f, p + 1, Nat.le_refl _, by unfold insF; rw [if_pos hl], e⟩
    · rw [if_neg hl] at e
      simp only [lt1, sG_sG] at e
      rw [pk_m1] at e
      obtain ⟨f', p', h1, h2, h3⟩ := ih k (vp_updL f (p + 1) (f p)) (by omega) (by omega)
      exact ⟨f', p', by omega, by rw [h2, insF, if_neg hl], e.trans h3⟩
theorem X_insert {σ : St} {N m : Nat} {v : Int64} (hN : 2000 ≤ N) (f : Nat → Int64) (hm : m < 10) : fX2_insertAscending N (sG σ 5 f) v (nI m) = some (sG σ 5 (insF f v m)) := by
  unfold fX2_insertAscending
  rw [if_neg (nI_pos (by omega)), if_pos (cR_lt 10 hm (by omega))]
  obtain ⟨f', p', h1, h2, h3⟩ := X_ins (σ := σ) (N := N) (v := v) (q := fun σ32 x30 x31 => if (x31 < 0 ∨ 10 ≤ (x31).toNatClampNeg) then none else lt1 (sG σ32 5 (vp_updL (gG σ32 5) (x31).toNatClampNeg x30)) fun σ36 => some σ36) m N f hm (by omega)
  refine Eq.trans h3 ?_
  simp only [lt1, sG_sG]
  rw [if_neg (nI_in (by omega) (by omega)), nI_clamp (by omega), show gG (sG σ 5 f') 5 = f' from rfl, h2]
theorem M_ins {τ : St} {N : Nat} {v : Int64} {x27 x28 x29 : Int32} {q : St → Int32 → Int32 → Int32 → Int64 → Int32 → Option St} : ∀ (p fuel : Nat) (f : Nat → Int64), p < 10 → p < fuel → ∃ (f' : Nat → Int64) (p' : Nat), p' ≤ p ∧ vp_updL f' p' v = insF f v p ∧ fX3_gather_39 N q fuel (sG τ 5 f) x27 x28 x29 v (nI p) = q (sG τ 5 f') x27 x28 x29 v (nI p') := by
  intro p
  induction p with
  | zero =>
    intro fuel f hp hf
    obtain ⟨k, rfl⟩ : ∃ k, fuel = k + 1 := ⟨fuel - 1, by omega⟩
    refine ⟨f, 0, Nat.le_refl _, rfl, ?_⟩
    show fX3_gather_39b N q _ (sG τ 5 f) x27 x28 x29 v (nI 0) = _
    unfold fX3_gather_39b
    rw [if_pos (cR_le 0 (Nat.le_refl _) (by omega))]
  | succ p ih =>
    intro fuel f hp hf
    obtain ⟨k, rfl⟩ : ∃ k, fuel = k + 1 := ⟨fuel - 1, by omega⟩
    have e : fX3_gather_39 N q (k + 1) (sG τ 5 f) x27 x28 x29 v (nI (p + 1)) = fX3_gather_39b N q (fX3_gather_39 N q k) (sG τ 5 f) x27 x28 x29 v (nI (p + 1)) := rfl
    unfold fX3_gather_39b at e
    rw [if_neg (cR_nle 0 (by omega) (by omega)), nI_pred, if_neg (nI_in (by omega) (by omega)), if_neg (nI_in (by omega) (by omega)), if_neg (nI_in (by omega) (by omega)), nI_clamp (by omega), nI_clamp (by omega), show gG (sG τ 5 f) 5 = f from rfl] at e
    by_cases hl : f p ≤ v
    · rw [if_pos hl] at e
      exact ⟨f, p + 1, Nat.le_refl _, by unfold insF; rw [if_pos hl], e⟩
    · rw [if_neg hl] at e
      simp only [lt1, sG_sG] at e
      rw [pk_m1] at e
      obtain ⟨f', p', h1, h2, h3⟩ := ih k (vp_updL f (p + 1) (f p)) (by omega) (by omega)
      exact ⟨f', p', by omega, by rw [h2, insF, if_neg hl], e.trans h3⟩
