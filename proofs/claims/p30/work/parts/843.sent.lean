/-! cutting, rounding down -/
theorem clamp_eq {g : Nat} (hg : g ≤ 720720) (x : Int64) : ∃ v, bnd v ∧ (∃ r, fJ9_min_f86c9 (lN (10000 * g)) x = some r ∧ fJ9_max_f86c9 (-lN (10000 * g)) r = some v) ∧ (if -lN (10000 * g) ≤ x then (if x ≤ lN (10000 * g) then x else lN (10000 * g)) else -lN (10000 * g)) = v := by
  have hL : (lN (10000 * g)).toInt = 10000 * (g : Int) := by rw [pk_lT (by omega)]; omega
  have hN : (-lN (10000 * g)).toInt = -(10000 * (g : Int)) := by rw [Int64.toInt_neg, hL, fb_bmodL (by omega) (by omega)]
  unfold fJ9_min_f86c9 fJ9_max_f86c9
  by_cases h1 : -lN (10000 * g) ≤ x
  · have h1' := (fa_le64 _ _).mp h1
    rw [hN] at h1'
    by_cases h2 : x ≤ lN (10000 * g)
    · have h2' := (fa_le64 _ _).mp h2
      rw [hL] at h2'
      refine ⟨x, bnd_g hg h1' h2', ?_, by rw [if_pos h1, if_pos h2]⟩
      by_cases h3 : x < lN (10000 * g)
      · refine ⟨x, by rw [if_pos h3], ?_⟩
        by_cases h4 : -lN (10000 * g) < x
        · rw [if_pos h4]
        · rw [if_neg h4]
          have h5 : x = -lN (10000 * g) := by
            rw [fa_eq64]
            have := mt (fa_lt64 _ _).mpr h4
            omega
          rw [h5]
      · have h5 : x = lN (10000 * g) := by
          rw [fa_eq64]
          have := mt (fa_lt64 _ _).mpr h3
          omega
        refine ⟨lN (10000 * g), by rw [if_neg h3], ?_⟩
        by_cases h4 : -lN (10000 * g) < lN (10000 * g)
        · rw [if_pos h4, h5]
        · rw [if_neg h4]
          have h6 : -lN (10000 * g) = lN (10000 * g) := by
            rw [fa_eq64]
            have := mt (fa_lt64 _ _).mpr h4
            omega
          rw [h6, h5]
    · have h2' := mt (fa_le64 x (lN (10000 * g))).mpr h2
      rw [hL] at h2'
      refine ⟨lN (10000 * g), bnd_g hg (by omega) (by omega), ?_, by rw [if_pos h1, if_neg h2]⟩
      refine ⟨lN (10000 * g), by rw [if_neg (fun z => by have := (fa_lt64 _ _).mp z; omega)], ?_⟩
      by_cases h4 : -lN (10000 * g) < lN (10000 * g)
      · rw [if_pos h4]
      · rw [if_neg h4]
        have h6 : -lN (10000 * g) = lN (10000 * g) := by
          rw [fa_eq64]
          have := mt (fa_lt64 _ _).mpr h4
          omega
        rw [h6]
  · have h1' := mt (fa_le64 (-lN (10000 * g)) x).mpr h1
    rw [hN] at h1'
    refine ⟨-lN (10000 * g), bnd_g hg (by omega) (by omega), ?_, by rw [if_neg h1]⟩
    refine ⟨x, by rw [if_pos (by rw [fa_lt64]; omega)], by rw [if_neg (fun z => by have := (fa_lt64 _ _).mp z; omega)]⟩
theorem down_eq {a : Int64} {b : Nat} (hb0 : 0 < b) (hb : b ≤ 1000) : ∃ v, fJ9_floorDiv_f86c9 a (lN b) = some v ∧ fL_down a (lN b) = some v ∧ v.toInt = a.toInt / (b : Int) := by
  have hbT : (lN b).toInt = (b : Int) := pk_lT (by omega)
  have hr := fb_rngL a
  have hq : (a / lN b).toInt = a.toInt.tdiv (b : Int) := by
    rw [Int64.toInt_div, hbT]
    have h2 := Int.natAbs_tdiv_le_natAbs a.toInt (b : Int)
    have h3 : a.toInt < 0 → a.toInt.tdiv (b : Int) ≤ 0 := fun h => by
      have h5 := Int.tdiv_nonneg (a := -a.toInt) (b := (b : Int)) (by omega) (by omega)
      rw [Int.neg_tdiv] at h5
      omega
    exact fb_bmodL (by omega) (by omega)
  have hm := Int.tmod_add_mul_tdiv a.toInt (b : Int)
  have hlt : (a.toInt.tmod (b : Int)).natAbs < b := by
    have := tmod_bounds (a := a.toInt) (M := (b : Int)) (by omega)
    omega
  have hprod : (b : Int) * a.toInt.tdiv (b : Int) = a.toInt - a.toInt.tmod (b : Int) := by omega
  have hmul : (a / lN b * lN b).toInt = a.toInt - a.toInt.tmod (b : Int) := by
    have hz : (a / lN b).toInt * (lN b).toInt = a.toInt - a.toInt.tmod (b : Int) := by rw [hq, hbT, Int.mul_comm]; exact hprod
    rcases Int.le_total 0 a.toInt with h | h
    · have h3 := Int.tmod_nonneg (a := a.toInt) (b : Int) h
      have h4 : a.toInt.tmod (b : Int) ≤ a.toInt := by
        have h5 := Int.tdiv_nonneg (a := a.toInt) (b := (b : Int)) h (by omega)
        have h6 := Int.mul_nonneg (show (0 : Int) ≤ b by omega) h5
        omega
      rw [fb_mulL (by rw [hz]; omega) (by rw [hz]; omega), hz]
    · have h3 : a.toInt.tmod (b : Int) ≤ 0 := by
        have h7 := Int.tmod_nonneg (a := -a.toInt) (b : Int) (by omega)
        rw [Int.neg_tmod] at h7
        omega
      have h4 : a.toInt ≤ a.toInt.tmod (b : Int) := by
        have h5 := Int.tdiv_nonneg (a := -a.toInt) (b := (b : Int)) (by omega) (by omega)
        rw [Int.neg_tdiv] at h5
        have h6 := Int.mul_nonneg (show (0 : Int) ≤ b by omega) h5
        rw [Int.mul_neg] at h6
        omega
      rw [fb_mulL (by rw [hz]; omega) (by rw [hz]; omega), hz]
  have hne : ¬ lN b = (0 : Int64) := dR_ne 0 (by omega) (by omega) (by omega)
  have h1T : (1 : Int64).toInt = 1 := rfl
  -- the floor by cases
  by_cases hc : 0 ≤ a.toInt.tmod (b : Int)
  · -- the quotient is the floor
    refine ⟨a / lN b, ?_, ?_, ?_⟩
    · unfold fJ9_floorDiv_f86c9
      rw [if_neg hne]
      simp only [lt1]
      by_cases hx : (0 : Int64) ≤ a ^^^ lN b
      · rw [if_pos hx]
      · rw [if_neg hx]
        have ha : ¬ 0 ≤ a.toInt := fun z => hx ((xor_sign (by omega)).mpr z)
        have h3 : a.toInt.tmod (b : Int) ≤ 0 := by
          have h7 := Int.tmod_nonneg (a := -a.toInt) (b : Int) (by omega)
          rw [Int.neg_tmod] at h7
          omega
        rw [if_pos (by rw [fa_eq64, hmul]; omega)]
    · unfold fL_down
      rw [if_neg hne]
      simp only [lt1]
      rw [if_pos (by rw [fa_le64, hmul]; omega)]
    · rw [hq]
      refine (Int.ediv_eq_iff_of_pos (by omega) |>.mpr ?_).symm
      rw [Int.mul_comm]
      constructor <;> omega
  · have ha : ¬ 0 ≤ a.toInt := fun z => hc (Int.tmod_nonneg _ z)
    have hqb : -9223372036854775807 ≤ (a / lN b).toInt := by
      rw [hq]
      have h5 := Int.tdiv_nonneg (a := -a.toInt) (b := (b : Int)) (by omega) (by omega)
      rw [Int.neg_tdiv] at h5
      by_cases hb1 : b = 1
      · subst hb1
        have : a.toInt.tmod ((1 : Nat) : Int) = 0 := Int.tmod_one a.toInt
        omega
      · have h8 : (2 : Int) * (-a.toInt.tdiv (b : Int)) ≤ (b : Int) * (-a.toInt.tdiv (b : Int)) := Int.mul_le_mul_of_nonneg_right (by omega) h5
        rw [Int.mul_neg, Int.mul_neg] at h8
        omega
    refine ⟨a / lN b - 1, ?_, ?_, ?_⟩
    · unfold fJ9_floorDiv_f86c9
      rw [if_neg hne]
      simp only [lt1]
      rw [if_neg (fun z => ha ((xor_sign (by omega)).mp z)), if_neg (fun z => by rw [fa_eq64, hmul] at z; omega)]
    · unfold fL_down
      rw [if_neg hne]
      simp only [lt1]
      rw [if_neg (fun z => by rw [fa_le64, hmul] at z; omega)]
    · have hr2 := fb_rngL (a / lN b)
      rw [fb_subL (by omega) (by omega), hq, h1T]
      refine (Int.ediv_eq_iff_of_pos (by omega) |>.mpr ?_).symm
      rw [Int.mul_comm, Int.mul_sub]
      constructor <;> omega
def clp (g : Nat) (x : Int64) : Int64 := if -lN (10000 * g) ≤ x then (if x ≤ lN (10000 * g) then x else lN (10000 * g)) else -lN (10000 * g)
theorem clp_bnd {g : Nat} (hg : g ≤ 720720) (x : Int64) : bnd (clp g x) := by
  obtain ⟨v, hv, -, e⟩ := clamp_eq hg x
  unfold clp; rw [e]; exact hv
theorem X_clp {g : Nat} (hg : g ≤ 720720) (x : Int64) {σ : St} (h : gI σ 2 = nI g) : (lt1 ((10000 : Int64) * ((gI σ 2).toInt64)) fun x19 => bd0 (fJ9_min_f86c9 x19 x) fun r22 => bd0 (fJ9_max_f86c9 (-x19) r22) fun r24 => some (r24, σ)) = some (clp g x, σ) := by
  obtain ⟨v, hv, ⟨r, e1, e2⟩, e3⟩ := clamp_eq hg x
  have hx : (10000 : Int64) * (gI σ 2).toInt64 = lN (10000 * g) := by rw [h, nI_l (by omega), show (10000 : Int64) = lN 10000 from rfl, lN_mul]
  rw [lt1_e, hx, e1, bd0_e, e2, bd0_e]
  unfold clp; rw [e3]
theorem X_tail {g N : Nat} (hg : g ≤ 720720) (x : Int64) {σ : St} (h : gI σ 2 = nI g) : fX2_sentEnd_124 N σ x = some (clp g x, σ) := by
  unfold fX2_sentEnd_124
  exact X_clp hg x h
/-- what node p sends to node q in round r -/
def sv (σ : St) (n g r p q s : Nat) : Int64 :=
  if gF σ 2 p = 0 then val σ (r - (gF σ 1 (10 * p + q)).toInt.toNat) p s
  else if gF σ 2 p = 1 then clp g (lie σ p q s)
  else if gF σ 2 p = 2 then (if nI q - nI q / (2 : Int32) * (2 : Int32) = 0 then clp g ((ex (fun p => val σ r p 0) (cor σ) false n).1 - gG σ 4 p) else clp g ((ex (fun p => val σ r p 1) (cor σ) true n).1 + gG σ 4 p))
  else if gF σ 2 p = 3 then clp g (val σ r q s + gG σ 4 p)
  else if gF σ 2 p = 4 then clp g (val σ r q s)
  else clp g (inp σ p s + (nI r).toInt64 * gG σ 4 p)
theorem sent_X {σ : St} {n N p q st : Nat} {hi : Int32} (hn : gI σ 0 = nI n) (h10 : n ≤ 10) (hp : p < n) (hst : gF σ 2 p = nI st) : fX2_sentEnd N σ (nI p) (nI q) hi = (if (nI st) = (1 : Int32) then
      bd2 (fX0_end σ 6 (nI p) (nI q) hi) fun r18 σ17 => lt1 ((10000 : Int64) * ((gI σ17 2).toInt64)) fun x19 => bd0 (fJ9_min_f86c9 x19 r18) fun r22 => bd0 (fJ9_max_f86c9 (-x19) r22) fun r24 => some (r24, σ17)
      else if (nI st) = (2 : Int32) then
        if (nI q - nI q / (2 : Int32) * (2 : Int32)) = (0 : Int32) then
          bd2 (fX2_correctSet N σ) fun r50 σ49 => bd2 (fX0_extremeEnd N σ49 3 (gI σ 3) r50 (0 : Int32) (0 : Int32)) fun r53 σ52 => if (nI p < 0 ∨ 10 ≤ (nI p).toNatClampNeg) then none else fX2_sentEnd_124 N σ52 (r53 - (gG σ52 4 (nI p).toNatClampNeg))
        else
          bd2 (fX2_correctSet N σ) fun r33 σ32 => bd2 (fX0_extremeEnd N σ32 3 (gI σ 3) r33 (1 : Int32) (1 : Int32)) fun r36 σ35 => if (nI p < 0 ∨ 10 ≤ (nI p).toNatClampNeg) then none else fX2_sentEnd_124 N σ35 (r36 + (gG σ35 4 (nI p).toNatClampNeg))
      else if (nI st) = (3 : Int32) then
        bd2 (fX0_end σ 3 (gI σ 3) (nI q) hi) fun r61 σ60 => if (nI p < 0 ∨ 10 ≤ (nI p).toNatClampNeg) then none else lt1 (r61 + (gG σ60 4 (nI p).toNatClampNeg)) fun x64 => lt1 ((10000 : Int64) * ((gI σ60 2).toInt64)) fun x66 => bd0 (fJ9_min_f86c9 x66 x64) fun r69 => bd0 (fJ9_max_f86c9 (-x66) r69) fun r71 => some (r71, σ60)
      else if (nI st) = (4 : Int32) then
        bd2 (fX0_end σ 3 (gI σ 3) (nI q) hi) fun r77 σ76 => lt1 ((10000 : Int64) * ((gI σ76 2).toInt64)) fun x78 => bd0 (fJ9_min_f86c9 x78 r77) fun r81 => bd0 (fJ9_max_f86c9 (-x78) r81) fun r83 => some (r83, σ76)
      else if (nI st) = (5 : Int32) then
        bd2 (fX0_end σ 3 (0 : Int32) (nI p) hi) fun r89 σ88 => if (nI p < 0 ∨ 10 ≤ (nI p).toNatClampNeg) then none else lt1 (r89 + (((gI σ88 3).toInt64) * (gG σ88 4 (nI p).toNatClampNeg))) fun x92 => lt1 ((10000 : Int64) * ((gI σ88 2).toInt64)) fun x94 => bd0 (fJ9_min_f86c9 x94 x92) fun r97 => bd0 (fJ9_max_f86c9 (-x94) r97) fun r99 => some (r99, σ88)
      else
        bd2 (fX2_delayOf σ (nI p) (nI q)) fun r102 σ101 => bd0 (fJ9_max_7cf53 (0 : Int32) ((gI σ 3) - r102)) fun r104 => bd2 (fX0_end σ101 3 r104 (nI p) hi) fun r107 σ106 => some (r107, σ106)) := by
    unfold fX2_sentEnd
    rw [X_isNode hn hp h10]
    simp only [bd2]
    rw [if_neg z10, if_neg (nI_in (by omega) (by omega)), nI_clamp (by omega), hst]
theorem X_sent {σ : St} {n t g rule len r p q N : Nat} {hi : Int32} (hN : 2000 ≤ N) (I : Iv σ n t g rule len r) (hp : p < n) (hq : q < n) (hcq : cor σ q = true) (hd : ¬ gF σ 1 (10 * p + q) = -1) : fX2_sentEnd N σ (nI p) (nI q) hi = some (sv σ n g r p q (sd hi), σ) ∧ bnd (sv σ n g r p q (sd hi)) := by
  have h10 := I.n10
  have h60 := I.r60
  have hs := sd_lt hi
  have hg7 := I.g7
  obtain ⟨d, hd3, hdv⟩ := (I.d3 (10 * p + q) (by omega)).resolve_left hd
  obtain ⟨st, hst5, hst⟩ := I.s5 p (by omega)
  rw [sent_X (N := N) (q := q) (hi := hi) I.xn h10 hp hst]
  unfold sv
  rw [hst]
  by_cases h0 : st = 0
  · subst h0
    have hcp : cor σ p = true := cor_t.mpr hst
    rw [if_pos (show nI 0 = 0 from rfl), hdv, nI_toInt (by omega), show ((d : Int)).toNat = d from by omega]
    have hv := I.bv (r - d) p (sd hi) (by omega) hp hs hcp
    rw [if_neg (by decide), if_neg (by decide), if_neg (by decide), if_neg (by decide), if_neg (by decide), X_delayOf (by omega) (by omega), I.xr, hdv, bd2_e, J_maxI, bd0_e]
    have hm : (if (0 : Int32) < nI r - nI d then nI r - nI d else 0) = nI (r - d) := by
      by_cases hl : d < r
      · rw [pk_sub (by omega), if_pos (cL_lt 0 (by omega) (by omega))]
      · have h1 : r - d = 0 := by omega
        have h2 : ¬ (0 : Int32) < nI r - nI d := fun z => by
          rw [fa_lt, pk_sub_toInt (by omega) (by omega)] at z
          have : (0 : Int32).toInt = 0 := rfl
          omega
        rw [if_neg h2, h1]; rfl
    rw [hm, X_end _ (by omega), bd2_e]
    exact ⟨rfl, hv⟩
  · have c0 : ¬ nI st = (0 : Int32) := cR_ne 0 h0 (by omega) (by omega)
    rw [if_neg c0]
    by_cases h1 : st = 1
    · subst h1
      rw [if_pos (show nI 1 = 1 from rfl), if_pos (show nI 1 = 1 from rfl), X_lie _ (by omega), bd2_e, X_clp hg7 _ I.xg]
      exact ⟨rfl, clp_bnd hg7 _⟩
    · have c1 : ¬ nI st = (1 : Int32) := cR_ne 1 h1 (by omega) (by omega)
      rw [if_neg c1, if_neg c1]
      by_cases h2 : st = 2
      · subst h2
        rw [if_pos (show nI 2 = 2 from rfl), if_pos (show nI 2 = 2 from rfl)]
        by_cases hev : (nI q - nI q / (2 : Int32) * (2 : Int32)) = (0 : Int32)
        · rw [if_pos hev, if_pos hev, X_correctSet hN I.xn h10, I.xr, bd2_e, X_ext hN h10 h60, bd2_e, if_neg (nI_in (by omega) (by omega)), nI_clamp (by omega), sd_0, show decide (¬ (0 : Int32) = 0) = false from by decide, X_tail hg7 _ I.xg]
          exact ⟨rfl, clp_bnd hg7 _⟩
        · rw [if_neg hev, if_neg hev, X_correctSet hN I.xn h10, I.xr, bd2_e, X_ext hN h10 h60, bd2_e, if_neg (nI_in (by omega) (by omega)), nI_clamp (by omega), sd_1, show decide (¬ (1 : Int32) = 0) = true from by decide, X_tail hg7 _ I.xg]
          exact ⟨rfl, clp_bnd hg7 _⟩
      · have c2 : ¬ nI st = (2 : Int32) := cR_ne 2 h2 (by omega) (by omega)
        rw [if_neg c2, if_neg c2]
        by_cases h3 : st = 3
        · subst h3
          rw [if_pos (show nI 3 = 3 from rfl), if_pos (show nI 3 = 3 from rfl), I.xr, X_end _ (by omega), bd2_e, if_neg (nI_in (by omega) (by omega)), nI_clamp (by omega), lt1_e, X_clp hg7 _ I.xg]
          exact ⟨rfl, clp_bnd hg7 _⟩
        · have c3 : ¬ nI st = (3 : Int32) := cR_ne 3 h3 (by omega) (by omega)
          rw [if_neg c3, if_neg c3]
          by_cases h4 : st = 4
          · subst h4
            rw [if_pos (show nI 4 = 4 from rfl), if_pos (show nI 4 = 4 from rfl), I.xr, X_end _ (by omega), bd2_e, X_clp hg7 _ I.xg]
            exact ⟨rfl, clp_bnd hg7 _⟩
          · have c4 : ¬ nI st = (4 : Int32) := cR_ne 4 h4 (by omega) (by omega)
            have h5 : st = 5 := by omega
            subst h5
            rw [if_neg c4, if_neg c4, if_pos (show nI 5 = 5 from rfl), show fX0_end σ 3 (0 : Int32) (nI p) hi = _ from X_end (k := 0) hi (by omega), bd2_e, if_neg (nI_in (by omega) (by omega)), nI_clamp (by omega), I.xr, val_0, lt1_e, X_clp hg7 _ I.xg]
            exact ⟨rfl, clp_bnd hg7 _⟩
theorem lie_co {n r : Nat} {σ σ' : St} (h : Co n r σ σ') (p q s : Nat) : lie σ' p q s = lie σ p q s := by
  unfold lie; rw [h.2.2.1 2 (Or.inl rfl), h.2.2.1 3 (Or.inr (Or.inl rfl))]
theorem inp_co {n r : Nat} {σ σ' : St} (h : Co n r σ σ') {p : Nat} (hp : p < 10) (s : Nat) : inp σ' p s = inp σ p s := by
  unfold inp; rw [(h.2.2.2.1 p hp).1, (h.2.2.2.1 p hp).2]
theorem sv_co {n g r p q s : Nat} {σ σ' : St} (h : Co n r σ σ') (hp : p < n) (h10 : n ≤ 10) (hq : q < n) (hs : s < 2) (hcq : cor σ q = true) : sv σ' n g r p q s = sv σ n g r p q s := by
  unfold sv
  rw [h.2.1 2, h.2.1 1, h.2.2.1 4 (Or.inr (Or.inr rfl)), lie_co h, inp_co h (by omega), h.2.2.2.2 r q s (Nat.le_refl _) hq hs hcq]
  have e0 : ex (fun p => val σ' r p 0) (cor σ') false n = ex (fun p => val σ r p 0) (cor σ) false n := ex_cong n (fun p _ => h.cor p) (fun p hp hc => h.2.2.2.2 r p 0 (Nat.le_refl _) hp (by omega) (by rw [← h.cor]; exact hc))
  have e1 : ex (fun p => val σ' r p 1) (cor σ') true n = ex (fun p => val σ r p 1) (cor σ) true n := ex_cong n (fun p _ => h.cor p) (fun p hp hc => h.2.2.2.2 r p 1 (Nat.le_refl _) hp (by omega) (by rw [← h.cor]; exact hc))
  rw [e0, e1]
  by_cases h0 : gF σ 2 p = 0
  · rw [if_pos h0, if_pos h0]
    exact h.2.2.2.2 _ p s (by omega) hp hs (cor_t.mpr h0)
  · rw [if_neg h0, if_neg h0]
/-- a correct node sends what it had -/
theorem sv_cor {σ : St} {n g r p q s d : Nat} (hc : cor σ p = true) (hd : gF σ 1 (10 * p + q) = nI d) (h3 : d ≤ 3) : sv σ n g r p q s = val σ (r - d) p s := by
  unfold sv
  rw [if_pos (cor_t.mp hc), hd, nI_toInt (by omega), show ((d : Int)).toNat = d from by omega]
