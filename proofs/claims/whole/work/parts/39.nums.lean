/-! cutting to the bounds; dividing and rounding down -/
theorem bnd_g {g : Nat} {x : Int64} (hg : g ≤ 720720) (h1 : -(10000 * (g : Int)) ≤ x.toInt) (h2 : x.toInt ≤ 10000 * (g : Int)) : bnd x := by
  unfold bnd; omega
/-- both sides cut alike -/
theorem clamp_eq {g : Nat} (hg : g ≤ 720720) (x : Int64) : ∃ v, bnd v ∧ (∃ r, fJ9_min_f86c9 (lN (10000 * g)) x = some r ∧ fJ9_max_f86c9 (-lN (10000 * g)) r = some v) ∧ (if -lN (10000 * g) ≤ x then (if x ≤ lN (10000 * g) then x else lN (10000 * g)) else -lN (10000 * g)) = v := by
  have hL : (lN (10000 * g)).toInt = 10000 * (g : Int) := by rw [pk_lT (by omega)]; omega
  have hN : (-lN (10000 * g)).toInt = -(10000 * (g : Int)) := by rw [Int64.toInt_neg, hL, fb_bmodL (by omega) (by omega)]
  unfold fJ9_min_f86c9 fJ9_max_f86c9
  by_cases h1 : -lN (10000 * g) ≤ x
  · have h1' := (fa_le64 _ _).mp h1
    rw [hN] at h1'
    by_cases h2 : x ≤ lN (10000 * g)
    · have h2' := (fa_le64 _ _).mp h2
      rw [hL] at h2'
      refine ⟨x, bnd_g hg h1' h2', ?_, by rw [if_pos h1, if_pos h2]⟩
      by_cases h3 : x < lN (10000 * g)
      · refine ⟨x, by rw [if_pos h3], ?_⟩
        by_cases h4 : -lN (10000 * g) < x
        · rw [if_pos h4]
        · rw [if_neg h4]
          have h5 : x = -lN (10000 * g) := by
            rw [fa_eq64]
            have := mt (fa_lt64 _ _).mpr h4
            omega
          rw [h5]
      · have h5 : x = lN (10000 * g) := by
          rw [fa_eq64]
          have := mt (fa_lt64 _ _).mpr h3
          omega
        refine ⟨lN (10000 * g), by rw [if_neg h3], ?_⟩
        by_cases h4 : -lN (10000 * g) < lN (10000 * g)
        · rw [if_pos h4, h5]
        · rw [if_neg h4]
          have h6 : -lN (10000 * g) = lN (10000 * g) := by
            rw [fa_eq64]
            have := mt (fa_lt64 _ _).mpr h4
            omega
          rw [h6, h5]
    · have h2' := mt (fa_le64 x (lN (10000 * g))).mpr h2
      rw [hL] at h2'
      refine ⟨lN (10000 * g), bnd_g hg (by omega) (by omega), ?_, by rw [if_pos h1, if_neg h2]⟩
      refine ⟨lN (10000 * g), by rw [if_neg (fun z => by have := (fa_lt64 _ _).mp z; omega)], ?_⟩
      by_cases h4 : -lN (10000 * g) < lN (10000 * g)
      · rw [if_pos h4]
      · rw [if_neg h4]
        have h6 : -lN (10000 * g) = lN (10000 * g) := by
          rw [fa_eq64]
          have := mt (fa_lt64 _ _).mpr h4
          omega
        rw [h6]
  · have h1' := mt (fa_le64 (-lN (10000 * g)) x).mpr h1
    rw [hN] at h1'
    refine ⟨-lN (10000 * g), bnd_g hg (by omega) (by omega), ?_, by rw [if_neg h1]⟩
    refine ⟨x, by rw [if_pos (by rw [fa_lt64]; omega)], by rw [if_neg (fun z => by have := (fa_lt64 _ _).mp z; omega)]⟩
theorem xor_sign {a b : Int64} (hb : 0 ≤ b.toInt) : (0 : Int64) ≤ a ^^^ b ↔ 0 ≤ a.toInt := by
  rw [fa_le64]
  have h0 : (0 : Int64).toInt = 0 := rfl
  have h1 : (a ^^^ b).toBitVec.msb = (a.toBitVec.msb ^^ b.toBitVec.msb) := by
    rw [Int64.toBitVec_xor, BitVec.msb_xor]
  have e1 : (a ^^^ b).toBitVec.msb = decide ((a ^^^ b).toInt < 0) := BitVec.msb_eq_toInt
  have e2 : a.toBitVec.msb = decide (a.toInt < 0) := BitVec.msb_eq_toInt
  have e3 : b.toBitVec.msb = decide (b.toInt < 0) := BitVec.msb_eq_toInt
  rw [e1, e2, e3, decide_eq_false (show ¬ b.toInt < 0 by omega), Bool.xor_false] at h1
  have h2 : (a ^^^ b).toInt < 0 ↔ a.toInt < 0 := by
    constructor
    · intro h; rw [decide_eq_true h] at h1; exact of_decide_eq_true h1.symm
    · intro h; rw [decide_eq_true h] at h1; exact of_decide_eq_true h1
  rw [h0]
  omega
/-- rounding down, on both sides -/
theorem down_eq {a : Int64} {b : Nat} (hb0 : 0 < b) (hb : b ≤ 1000) : ∃ v, fJ9_floorDiv_f86c9 a (lN b) = some v ∧ fX3_down a (lN b) = some v ∧ v.toInt = a.toInt / (b : Int) := by
  have hbT : (lN b).toInt = (b : Int) := pk_lT (by omega)
  have hr := fb_rngL a
  have hq : (a / lN b).toInt = a.toInt.tdiv (b : Int) := by
    rw [Int64.toInt_div, hbT]
    have h2 := Int.natAbs_tdiv_le_natAbs a.toInt (b : Int)
    have h3 : a.toInt < 0 → a.toInt.tdiv (b : Int) ≤ 0 := fun h => by
      have h5 := Int.tdiv_nonneg (a := -a.toInt) (b := (b : Int)) (by omega) (by omega)
      rw [Int.neg_tdiv] at h5
      omega
    exact fb_bmodL (by omega) (by omega)
  have hm := Int.tmod_add_mul_tdiv a.toInt (b : Int)
  have hlt : (a.toInt.tmod (b : Int)).natAbs < b := by
    have := tmod_bounds (a := a.toInt) (M := (b : Int)) (by omega)
    omega
  have hprod : (b : Int) * a.toInt.tdiv (b : Int) = a.toInt - a.toInt.tmod (b : Int) := by omega
  have hmul : (a / lN b * lN b).toInt = a.toInt - a.toInt.tmod (b : Int) := by
    have hz : (a / lN b).toInt * (lN b).toInt = a.toInt - a.toInt.tmod (b : Int) := by rw [hq, hbT, Int.mul_comm]; exact hprod
    rcases Int.le_total 0 a.toInt with h | h
    · have h3 := Int.tmod_nonneg (a := a.toInt) (b : Int) h
      have h4 : a.toInt.tmod (b : Int) ≤ a.toInt := by
        have h5 := Int.tdiv_nonneg (a := a.toInt) (b := (b : Int)) h (by omega)
        have h6 := Int.mul_nonneg (show (0 : Int) ≤ b by omega) h5
        omega
      rw [fb_mulL (by rw [hz]; omega) (by rw [hz]; omega), hz]
    · have h3 : a.toInt.tmod (b : Int) ≤ 0 := by
        have h7 := Int.tmod_nonneg (a := -a.toInt) (b : Int) (by omega)
        rw [Int.neg_tmod] at h7
        omega
      have h4 : a.toInt ≤ a.toInt.tmod (b : Int) := by
        have h5 := Int.tdiv_nonneg (a := -a.toInt) (b := (b : Int)) (by omega) (by omega)
        rw [Int.neg_tdiv] at h5
        have h6 := Int.mul_nonneg (show (0 : Int) ≤ b by omega) h5
        rw [Int.mul_neg] at h6
        omega
      rw [fb_mulL (by rw [hz]; omega) (by rw [hz]; omega), hz]
  have hne : ¬ lN b = (0 : Int64) := dR_ne 0 (by omega) (by omega) (by omega)
  have h1T : (1 : Int64).toInt = 1 := rfl
  -- the floor by cases
  by_cases hc : 0 ≤ a.toInt.tmod (b : Int)
  · -- the quotient is the floor
    refine ⟨a / lN b, ?_, ?_, ?_⟩
    · unfold fJ9_floorDiv_f86c9
      rw [if_neg hne]
      simp only [lt1]
      by_cases hx : (0 : Int64) ≤ a ^^^ lN b
      · rw [if_pos hx]
      · rw [if_neg hx]
        have ha : ¬ 0 ≤ a.toInt := fun z => hx ((xor_sign (by omega)).mpr z)
        have h3 : a.toInt.tmod (b : Int) ≤ 0 := by
          have h7 := Int.tmod_nonneg (a := -a.toInt) (b : Int) (by omega)
          rw [Int.neg_tmod] at h7
          omega
        rw [if_pos (by rw [fa_eq64, hmul]; omega)]
    · unfold fX3_down
      rw [if_neg hne]
      simp only [lt1]
      rw [if_pos (by rw [fa_le64, hmul]; omega)]
    · rw [hq]
      refine (Int.ediv_eq_iff_of_pos (by omega) |>.mpr ?_).symm
      rw [Int.mul_comm]
      constructor <;> omega
  · have ha : ¬ 0 ≤ a.toInt := fun z => hc (Int.tmod_nonneg _ z)
    have hqb : -9223372036854775807 ≤ (a / lN b).toInt := by
      rw [hq]
      have h5 := Int.tdiv_nonneg (a := -a.toInt) (b := (b : Int)) (by omega) (by omega)
      rw [Int.neg_tdiv] at h5
      by_cases hb1 : b = 1
      · subst hb1
        have : a.toInt.tmod ((1 : Nat) : Int) = 0 := Int.tmod_one a.toInt
        omega
      · have h8 : (2 : Int) * (-a.toInt.tdiv (b : Int)) ≤ (b : Int) * (-a.toInt.tdiv (b : Int)) := Int.mul_le_mul_of_nonneg_right (by omega) h5
        rw [Int.mul_neg, Int.mul_neg] at h8
        omega
    refine ⟨a / lN b - 1, ?_, ?_, ?_⟩
    · unfold fJ9_floorDiv_f86c9
      rw [if_neg hne]
      simp only [lt1]
      rw [if_neg (fun z => ha ((xor_sign (by omega)).mp z)), if_neg (fun z => by rw [fa_eq64, hmul] at z; omega)]
    · unfold fX3_down
      rw [if_neg hne]
      simp only [lt1]
      rw [if_neg (fun z => by rw [fa_le64, hmul] at z; omega)]
    · have hr2 := fb_rngL (a / lN b)
      rw [fb_subL (by omega) (by omega), hq, h1T]
      refine (Int.ediv_eq_iff_of_pos (by omega) |>.mpr ?_).symm
      rw [Int.mul_comm, Int.mul_sub]
      constructor <;> omega
/-- a mean of c numbers within the bounds lies within them -/
theorem down_bnd {a v : Int64} {c : Nat} (hc : 0 < c) (h : v.toInt = a.toInt / (c : Int)) (h1 : -(7207200000 * (c : Int)) ≤ a.toInt) (h2 : a.toInt ≤ 7207200000 * (c : Int)) : bnd v := by
  unfold bnd
  rw [h]
  exact ⟨Int.le_ediv_of_mul_le (by omega) (by omega), Int.ediv_le_of_le_mul (by omega) h2⟩
