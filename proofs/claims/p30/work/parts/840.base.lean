/-! small facts of Int32, Int64 over Nat -/
theorem li0 : (0 : Int32) = nI 0 := rfl
theorem li1 : (1 : Int32) = nI 1 := rfl
theorem li2 : (2 : Int32) = nI 2 := rfl
theorem li3 : (3 : Int32) = nI 3 := rfl
theorem li10 : (10 : Int32) = nI 10 := rfl
theorem li20 : (20 : Int32) = nI 20 := rfl
theorem ll0 : (0 : Int64) = lN 0 := rfl
theorem ll1 : (1 : Int64) = lN 1 := rfl
theorem ix10 (a b : Nat) : nI a * (10 : Int32) + nI b = nI (a * 10 + b) := by rw [li10, pk_mul, nI_add]
theorem ix01 (a b : Nat) : (10 : Int32) * nI a + nI b = nI (10 * a + b) := by rw [li10, pk_mul, nI_add]
theorem ix2 (a b : Nat) : (2 : Int32) * nI a + nI b = nI (2 * a + b) := by rw [li2, pk_mul, nI_add]
theorem ix20 (r p s : Nat) : (20 : Int32) * nI r + (2 : Int32) * nI p + nI s = nI (20 * r + 2 * p + s) := by rw [li20, li2, pk_mul, pk_mul, nI_add, nI_add]
theorem ix21 (r p s : Nat) : (20 : Int32) * nI r + (20 : Int32) + (2 : Int32) * nI p + nI s = nI (20 * (r + 1) + 2 * p + s) := by
  rw [li20, li2, pk_mul, pk_mul, nI_add, nI_add, nI_add]; rfl
theorem nI_j {a b : Nat} (ha : a < 2147483648) (hb : b < 2147483648) (h : nI a = nI b) : a = b := (nI_eq ha hb).mp h
/-- a node's number, or not -/
theorem nodeC (a : Int32) {n : Nat} (hn : n < 2147483648) : (∃ p : Nat, p < n ∧ a = nI p) ∨ (a < 0 ∨ nI n ≤ a) := by
  rcases pk_ix a hn with h | h | h
  · exact Or.inr (Or.inl h)
  · exact Or.inr (Or.inr h)
  · exact Or.inl h
/-- the states' parts behind a change of others -/
theorem gI_sI (σ : St) (k j : Nat) (v : Int32) : gI (sI σ k v) j = if j = k then v else gI σ j := rfl
theorem gJ_sI (σ : St) (k j : Nat) (v : Int32) : gJ (sI σ k v) j = gJ σ j := rfl
theorem gF_sI (σ : St) (k j : Nat) (v : Int32) : gF (sI σ k v) j = gF σ j := rfl
theorem gG_sI (σ : St) (k j : Nat) (v : Int32) : gG (sI σ k v) j = gG σ j := rfl
theorem gI_sJ (σ : St) (k j : Nat) (v : Int64) : gI (sJ σ k v) j = gI σ j := rfl
theorem gJ_sJ (σ : St) (k j : Nat) (v : Int64) : gJ (sJ σ k v) j = if j = k then v else gJ σ j := rfl
theorem gF_sJ (σ : St) (k j : Nat) (v : Int64) : gF (sJ σ k v) j = gF σ j := rfl
theorem gG_sJ (σ : St) (k j : Nat) (v : Int64) : gG (sJ σ k v) j = gG σ j := rfl
theorem gI_sF (σ : St) (k j : Nat) (v : Nat → Int32) : gI (sF σ k v) j = gI σ j := rfl
theorem gJ_sF (σ : St) (k j : Nat) (v : Nat → Int32) : gJ (sF σ k v) j = gJ σ j := rfl
theorem gF_sF (σ : St) (k j : Nat) (v : Nat → Int32) : gF (sF σ k v) j = if j = k then v else gF σ j := rfl
theorem gG_sF (σ : St) (k j : Nat) (v : Nat → Int32) : gG (sF σ k v) j = gG σ j := rfl
theorem gI_sG (σ : St) (k j : Nat) (v : Nat → Int64) : gI (sG σ k v) j = gI σ j := rfl
theorem gJ_sG (σ : St) (k j : Nat) (v : Nat → Int64) : gJ (sG σ k v) j = gJ σ j := rfl
theorem gF_sG (σ : St) (k j : Nat) (v : Nat → Int64) : gF (sG σ k v) j = gF σ j := rfl
theorem gG_sG (σ : St) (k j : Nat) (v : Nat → Int64) : gG (sG σ k v) j = if j = k then v else gG σ j := rfl
/-- tests of a range -/
theorem isW (a b c : Int32) : fX2_isWithin a b c = some (if b ≤ a ∧ a ≤ c then 1 else 0) := by
  unfold fX2_isWithin
  by_cases h1 : a < b
  · rw [if_pos h1, if_neg (fun h => by rw [fa_lt] at h1; have := (fa_le _ _).mp h.1; omega)]
  · rw [if_neg h1]
    by_cases h2 : c < a
    · rw [if_pos h2, if_neg (fun h => by rw [fa_lt] at h2; have := (fa_le _ _).mp h.2; omega)]
    · rw [if_neg h2, if_pos ⟨fa_of_nlt h1, fa_of_nlt h2⟩]
theorem isW_c (a b c : Int32) : (fX2_isWithin a b c = some 1 ∧ b.toInt ≤ a.toInt ∧ a.toInt ≤ c.toInt) ∨ (fX2_isWithin a b c = some 0 ∧ ¬ (b.toInt ≤ a.toInt ∧ a.toInt ≤ c.toInt)) := by
  rw [isW]
  by_cases h : b ≤ a ∧ a ≤ c
  · rw [if_pos h]; exact Or.inl ⟨rfl, (fa_le _ _).mp h.1, (fa_le _ _).mp h.2⟩
  · rw [if_neg h]; exact Or.inr ⟨rfl, fun q => h ⟨(fa_le _ _).mpr q.1, (fa_le _ _).mpr q.2⟩⟩
theorem of_rng {a : Int32} {lo hi : Nat} (h1 : (lo : Int) ≤ a.toInt) (h2 : a.toInt ≤ (hi : Int)) (hh : hi < 2147483648) : ∃ k : Nat, lo ≤ k ∧ k ≤ hi ∧ a = nI k := by
  refine ⟨a.toInt.toNat, by omega, by omega, ?_⟩
  rw [fa_eq, nI_toInt (by omega)]; omega
/-- comparisons with a number that is written out -/
theorem cL_le (k : Nat) {a : Nat} (h : k ≤ a) (ha : a < 2147483648) : (OfNat.ofNat k : Int32) ≤ nI a := nI_le h ha
theorem cL_nle (k : Nat) {a : Nat} (h : a < k) (hk : k < 2147483648) : ¬ (OfNat.ofNat k : Int32) ≤ nI a := nI_ge h hk
theorem cR_le (k : Nat) {a : Nat} (h : a ≤ k) (hk : k < 2147483648) : nI a ≤ (OfNat.ofNat k : Int32) := nI_le h hk
theorem cR_nle (k : Nat) {a : Nat} (h : k < a) (ha : a < 2147483648) : ¬ nI a ≤ (OfNat.ofNat k : Int32) := nI_ge h ha
theorem cL_lt (k : Nat) {a : Nat} (h : k < a) (ha : a < 2147483648) : (OfNat.ofNat k : Int32) < nI a := nI_lt h ha
theorem cL_nlt (k : Nat) {a : Nat} (h : a ≤ k) (hk : k < 2147483648) : ¬ (OfNat.ofNat k : Int32) < nI a := nI_nlt h hk
theorem cR_lt (k : Nat) {a : Nat} (h : a < k) (hk : k < 2147483648) : nI a < (OfNat.ofNat k : Int32) := nI_lt h hk
theorem cR_nlt (k : Nat) {a : Nat} (h : k ≤ a) (ha : a < 2147483648) : ¬ nI a < (OfNat.ofNat k : Int32) := nI_nlt h ha
theorem cR_ne (k : Nat) {a : Nat} (h : a ≠ k) (ha : a < 2147483648) (hk : k < 2147483648) : ¬ nI a = (OfNat.ofNat k : Int32) := fun q => h ((nI_eq ha hk).mp q)
theorem cR_eq (k : Nat) {a : Nat} (h : a = k) : nI a = (OfNat.ofNat k : Int32) := by subst h; rfl
theorem nI_nge {a b : Nat} (h : a < b) (hb : b < 2147483648) : ¬ nI b ≤ nI a := nI_ge h hb
theorem dL_le (k : Nat) {a : Nat} (h : k ≤ a) (ha : a < 9223372036854775808) : (OfNat.ofNat k : Int64) ≤ lN a := (pk_lLE (by omega) ha).mpr h
theorem dL_nle (k : Nat) {a : Nat} (h : a < k) (hk : k < 9223372036854775808) : ¬ (OfNat.ofNat k : Int64) ≤ lN a := fun q => by have := (pk_lLE hk (by omega)).mp q; omega
theorem dR_le (k : Nat) {a : Nat} (h : a ≤ k) (hk : k < 9223372036854775808) : lN a ≤ (OfNat.ofNat k : Int64) := (pk_lLE (by omega) hk).mpr h
theorem dR_nle (k : Nat) {a : Nat} (h : k < a) (ha : a < 9223372036854775808) : ¬ lN a ≤ (OfNat.ofNat k : Int64) := fun q => by have := (pk_lLE ha (by omega)).mp q; omega
theorem dR_ne (k : Nat) {a : Nat} (h : a ≠ k) (ha : a < 9223372036854775808) (hk : k < 9223372036854775808) : ¬ lN a = (OfNat.ofNat k : Int64) := fun q => h ((pk_lEQ ha hk).mp q)
theorem dR_eq (k : Nat) {a : Nat} (h : a = k) : lN a = (OfNat.ofNat k : Int64) := by subst h; rfl
theorem z10 : ¬ (1 : Int32) = 0 := by decide
theorem nI_in' {c N : Nat} (h : c < N) (hN : N < 2147483648) : ¬ (nI c < 0 ∨ N ≤ c) := fun q => by
  rcases q with q | q
  · exact nI_pos (by omega) q
  · omega
