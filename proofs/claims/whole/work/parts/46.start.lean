/-! starting anew -/
theorem sG4 (σ : St) (a b : Nat) (f f' h h' : Nat → Int64) : sG (sG (sG (sG σ a f) b f') a h) b h' = sG (sG σ a h) b h' := by
  unfold sG
  refine Prod.ext rfl (Prod.ext rfl (Prod.ext rfl ?_))
  funext c
  by_cases h1 : c = b
  · simp [h1]
  · by_cases h2 : c = a
    · simp [h2]
    · simp [h1, h2]
theorem sF_sF (σ : St) (a : Nat) (f h : Nat → Int32) : sF (sF σ a f) a h = sF σ a h := by
  unfold sF
  refine Prod.ext rfl (Prod.ext rfl (Prod.ext ?_ rfl))
  funext c
  by_cases h1 : c = a
  · simp [h1]
  · simp [h1]
theorem sF_self (σ : St) (a : Nat) : sF σ a (gF σ a) = σ := by
  unfold sF
  refine Prod.ext rfl (Prod.ext rfl (Prod.ext ?_ rfl))
  funext c
  by_cases h1 : c = a
  · subst h1; simp [gF]
  · simp [h1]
theorem gG_01 (σ : St) {a b : Nat} (f f' : Nat → Int64) (h : a ≠ b) : gG (sG (sG σ a f) b f') a = f := by
  rw [gG_sG, if_neg h, gG_sG, if_pos rfl]
theorem X_putL {σ : St} {k p : Nat} (v0 v1 : Int64) (h : 10 * k + p < 100) : fX0_put σ 6 (nI k) (nI p) v0 v1 = some (sG (sG σ 2 (vp_updL (gG σ 2) (10 * k + p) v0)) 3 (vp_updL (gG σ 3) (10 * k + p) v1)) := by
  unfold fX0_put
  rw [if_neg (show ¬ isT 6 = false from by decide), lt1_e, ix10, show k * 10 + p = 10 * k + p from by omega, if_neg (nI_pos (by omega)), if_neg (show ¬ isL (6 + 1) = false from by decide), if_neg (show ¬ Int32.ofNat (ln (6 + 1)) ≤ nI (10 * k + p) from nI_ge (b := 100) h (by omega)), if_neg (show ¬ isL (6 + 2) = false from by decide), if_pos (show nI (10 * k + p) < Int32.ofNat (ln (6 + 2)) from nI_lt (b := 100) h (by omega)), if_neg (nI_in (N := ln (6 + 1)) h (by decide)), lt1_e, if_neg (nI_in (N := ln (6 + 2)) h (by decide)), nI_clamp (by omega), lt1_e]
  rfl
/-- zeros from a place on, the rest as it was -/
def zr (f f0 : Nat → Int64) (a i : Nat) : Prop := (∀ k, k < a → f k = f0 k) ∧ ∀ k, a ≤ k → k < a + i → f k = 0
theorem zr_s {f f0 : Nat → Int64} {a i : Nat} (h : zr f f0 a i) : zr (vp_updL f (a + i) 0) f0 a (i + 1) := by
  refine ⟨fun k hk => by rw [pk_uLn (by omega)]; exact h.1 k hk, fun k h1 h2 => ?_⟩
  by_cases e : k = a + i
  · subst e; exact pk_uLs
  · rw [pk_uLn e]; exact h.2 k h1 (by omega)
theorem zr_0 (f : Nat → Int64) (a : Nat) : zr f f a 0 := ⟨fun _ _ => rfl, fun k h1 h2 => by omega⟩
theorem clr_loop {σ : St} {N b r k0 a0 a1 : Nat} (hne : a0 ≠ a1) (f0 f1 : Nat → Int64) {q24 : St → Option St} (hb : k0 = 10 * r) (hput : ∀ σ i, i < 10 → fX0_put σ b (nI r) (nI i) 0 0 = some (sG (sG σ a0 (vp_updL (gG σ a0) (10 * r + i) 0)) a1 (vp_updL (gG σ a1) (10 * r + i) 0))) : ∀ (k i fuel : Nat) (f f' : Nat → Int64), zr f f0 k0 i → zr f' f1 k0 i → i + k = 10 → k < fuel → ∃ h h', zr h f0 k0 10 ∧ zr h' f1 k0 10 ∧ fX0_clearRow_2 N b q24 fuel (sG (sG σ a0 f) a1 f') (nI r) (nI i) = q24 (sG (sG σ a0 h) a1 h') := by
  intro k
  induction k with
  | zero =>
    intro i fuel f f' z z' hi hf
    obtain ⟨a, rfl⟩ : ∃ k, fuel = k + 1 := ⟨fuel - 1, by omega⟩
    have hi : i = 10 := by omega
    subst hi
    refine ⟨f, f', z, z', ?_⟩
    show fX0_clearRow_2b N b q24 _ _ (nI r) (nI 10) = _
    unfold fX0_clearRow_2b
    rw [if_pos (cL_le 10 (Nat.le_refl _) (by omega))]
  | succ k ih =>
    intro i fuel f f' z z' hi hf
    obtain ⟨a, rfl⟩ : ∃ k, fuel = k + 1 := ⟨fuel - 1, by omega⟩
    have e : fX0_clearRow_2 N b q24 (a + 1) (sG (sG σ a0 f) a1 f') (nI r) (nI i) = fX0_clearRow_2b N b q24 (fX0_clearRow_2 N b q24 a) (sG (sG σ a0 f) a1 f') (nI r) (nI i) := rfl
    unfold fX0_clearRow_2b at e
    rw [if_neg (cL_nle 10 (by omega) (by omega)), hput _ i (by omega), bd0_e, lt1_e, nI_1, sG4, gG_01 σ f f' hne, show gG (sG (sG σ a0 f) a1 f') a1 = f' from by rw [gG_sG, if_pos rfl], ← hb] at e
    obtain ⟨h, h', g1, g2, g3⟩ := ih (i + 1) a _ _ (zr_s z) (zr_s z') (by omega) (by omega)
    exact ⟨h, h', g1, g2, e.trans g3⟩
theorem clr3 {σ : St} {N : Nat} (hN : 2000 ≤ N) : ∃ h h', (∀ p, p < 10 → h p = 0 ∧ h' p = 0) ∧ fX0_clearRow N σ 3 0 = some (sG (sG σ 0 h) 1 h') := by
  obtain ⟨h, h', g1, g2, g3⟩ := clr_loop (σ := σ) (N := N) (b := 3) (r := 0) (k0 := 0) (a0 := 0) (a1 := 1) (by decide) (gG σ 0) (gG σ 1) (q24 := fun σ15 => some σ15) rfl (fun σ i hi => X_put 0 0 (by omega)) 10 0 N (gG σ 0) (gG σ 1) (zr_0 _ _) (zr_0 _ _) (by omega) (by omega)
  refine ⟨h, h', fun p hp => ⟨g1.2 p (by omega) (by omega), g2.2 p (by omega) (by omega)⟩, ?_⟩
  unfold fX0_clearRow
  rw [if_neg (show ¬ isT 3 = false from by decide)]
  have e : sG (sG σ 0 (gG σ 0)) 1 (gG σ 1) = σ := by rw [sG_self, sG_self]
  rw [e] at g3
  exact g3
theorem clr6 {σ : St} {N r : Nat} (hN : 2000 ≤ N) (hr : r < 10) : ∃ h h', zr h (gG σ 2) (10 * r) 10 ∧ zr h' (gG σ 3) (10 * r) 10 ∧ fX0_clearRow N σ 6 (nI r) = some (sG (sG σ 2 h) 3 h') := by
  obtain ⟨h, h', g1, g2, g3⟩ := clr_loop (σ := σ) (N := N) (b := 6) (r := r) (k0 := 10 * r) (a0 := 2) (a1 := 3) (by decide) (gG σ 2) (gG σ 3) (q24 := fun σ15 => some σ15) rfl (fun σ i hi => X_putL 0 0 (by omega)) 10 0 N (gG σ 2) (gG σ 3) (zr_0 _ _) (zr_0 _ _) (by omega) (by omega)
  refine ⟨h, h', g1, g2, ?_⟩
  unfold fX0_clearRow
  rw [if_neg (show ¬ isT 6 = false from by decide)]
  have e : sG (sG σ 2 (gG σ 2)) 3 (gG σ 3) = σ := by rw [sG_self, sG_self]
  rw [e] at g3
  exact g3
/-- zeros up to a place -/
def zf (f : Nat → Int32) (i : Nat) : Prop := ∀ k, k < i → f k = 0
def zg (f : Nat → Int64) (i : Nat) : Prop := ∀ k, k < i → f k = 0
theorem zf_s {f : Nat → Int32} {i : Nat} (h : zf f i) : zf (upd f i 0) (i + 1) := fun k hk => by
  by_cases e : k = i
  · subst e; exact pk_us
  · rw [pk_un e]; exact h k (by omega)
theorem zg_s {f : Nat → Int64} {i : Nat} (h : zg f i) : zg (vp_updL f i 0) (i + 1) := fun k hk => by
  by_cases e : k = i
  · subst e; exact pk_uLs
  · rw [pk_uLn e]; exact h k (by omega)
theorem zf_0 (f : Nat → Int32) : zf f 0 := fun k hk => by omega
theorem zg_0 (f : Nat → Int64) : zg f 0 := fun k hk => by omega
theorem zg_row {f h : Nat → Int64} {i : Nat} (z : zg f (10 * i)) (g : zr h f (10 * i) 10) : zg h (10 * (i + 1)) := fun k hk => by
  by_cases e : k < 10 * i
  · rw [g.1 k e]; exact z k e
  · exact g.2 k (by omega) (by omega)
theorem an_36 {σ : St} {N : Nat} (hN : 2000 ≤ N) {q66 : St → Option St} : ∀ (k i fuel : Nat) (s : Nat → Int32) (f f' : Nat → Int64), zf s i → zg f (10 * i) → zg f' (10 * i) → i + k = 10 → k < fuel → ∃ s' h h', zf s' 10 ∧ zg h 100 ∧ zg h' 100 ∧ fX2_startAnew_36 N q66 fuel (sG (sG (sF σ 2 s) 2 f) 3 f') (nI i) = q66 (sG (sG (sF σ 2 s') 2 h) 3 h') := by
  intro k
  induction k with
  | zero =>
    intro i fuel s f f' z1 z2 z3 hi hf
    obtain ⟨a, rfl⟩ : ∃ k, fuel = k + 1 := ⟨fuel - 1, by omega⟩
    have hi : i = 10 := by omega
    subst hi
    refine ⟨s, f, f', z1, z2, z3, ?_⟩
    show fX2_startAnew_36b N q66 _ _ (nI 10) = _
    unfold fX2_startAnew_36b
    rw [if_pos (cL_le 10 (Nat.le_refl _) (by omega))]
  | succ k ih =>
    intro i fuel s f f' z1 z2 z3 hi hf
    obtain ⟨a, rfl⟩ : ∃ k, fuel = k + 1 := ⟨fuel - 1, by omega⟩
    have e : fX2_startAnew_36 N q66 (a + 1) (sG (sG (sF σ 2 s) 2 f) 3 f') (nI i) = fX2_startAnew_36b N q66 (fX2_startAnew_36 N q66 a) (sG (sG (sF σ 2 s) 2 f) 3 f') (nI i) := rfl
    unfold fX2_startAnew_36b at e
    obtain ⟨h, h', g1, g2, g3⟩ := clr6 (σ := sF (sG (sG (sF σ 2 s) 2 f) 3 f') 2 (upd s i 0)) (N := N) (r := i) hN (by omega)
    rw [if_neg (cL_nle 10 (by omega) (by omega)), if_neg (nI_in (by omega) (by omega)), nI_clamp (by omega), lt1_e, show gF (sG (sG (sF σ 2 s) 2 f) 3 f') 2 = s from rfl, g3, bd0_e, lt1_e, nI_1] at e
    have en : sG (sG (sF (sG (sG (sF σ 2 s) 2 f) 3 f') 2 (upd s i 0)) 2 h) 3 h' = sG (sG (sF σ 2 (upd s i 0)) 2 h) 3 h' := by
      have e1 : sF (sG (sG (sF σ 2 s) 2 f) 3 f') 2 (upd s i 0) = sG (sG (sF (sF σ 2 s) 2 (upd s i 0)) 2 f) 3 f' := rfl
      rw [e1, sF_sF, sG4]
    rw [en] at e
    obtain ⟨s2, h2, h2', k1, k2, k3, k4⟩ := ih (i + 1) a (upd s i 0) h h' (zf_s z1) (zg_row z2 g1) (zg_row z3 g2) (by omega) (by omega)
    exact ⟨s2, h2, h2', k1, k2, k3, e.trans k4⟩
theorem an_69 {σ : St} {N : Nat} {q93 : St → Option St} : ∀ (k i fuel : Nat) (s : Nat → Int32), zf s i → i + k = 100 → k < fuel → ∃ s', zf s' 100 ∧ fX2_startAnew_69 N q93 fuel (sF σ 1 s) (nI i) = q93 (sF σ 1 s') := by
  intro k
  induction k with
  | zero =>
    intro i fuel s z hi hf
    obtain ⟨a, rfl⟩ : ∃ k, fuel = k + 1 := ⟨fuel - 1, by omega⟩
    have hi : i = 100 := by omega
    subst hi
    refine ⟨s, z, ?_⟩
    show fX2_startAnew_69b N q93 _ _ (nI 100) = _
    unfold fX2_startAnew_69b
    rw [if_pos (cL_le 100 (Nat.le_refl _) (by omega))]
  | succ k ih =>
    intro i fuel s z hi hf
    obtain ⟨a, rfl⟩ : ∃ k, fuel = k + 1 := ⟨fuel - 1, by omega⟩
    have e : fX2_startAnew_69 N q93 (a + 1) (sF σ 1 s) (nI i) = fX2_startAnew_69b N q93 (fX2_startAnew_69 N q93 a) (sF σ 1 s) (nI i) := rfl
    unfold fX2_startAnew_69b at e
    rw [if_neg (cL_nle 100 (by omega) (by omega)), if_neg (nI_in (by omega) (by omega)), nI_clamp (by omega), lt1_e, lt1_e, nI_1, sF_sF, show gF (sF σ 1 s) 1 = s from rfl] at e
    obtain ⟨s2, k1, k2⟩ := ih (i + 1) a (upd s i 0) (zf_s z) (by omega) (by omega)
    exact ⟨s2, k1, e.trans k2⟩
theorem X_startAnew {σ : St} {N : Nat} (hN : 2000 ≤ N) (a1 a2 a3 : Int32) : ∃ (h h' : Nat → Int64) (s : Nat → Int32) (f f' : Nat → Int64) (d : Nat → Int32), zg h 10 ∧ zg h' 10 ∧ zf s 10 ∧ zg f 100 ∧ zg f' 100 ∧ zf d 100 ∧ fX2_startAnew N σ a1 a2 a3 = some (sF (sG (sG (sF (sG (sG (sI (sI (sI (sI (sI σ 0 a1) 1 a2) 2 a3) 3 0) 4 0) 0 h) 1 h') 2 s) 2 f) 3 f') 1 d) := by
  unfold fX2_startAnew
  rw [lt1_e, lt1_e, lt1_e, lt1_e, lt1_e]
  generalize sI (sI (sI (sI (sI σ 0 a1) 1 a2) 2 a3) 3 0) 4 0 = σ0
  obtain ⟨h, h', c1, c2⟩ := clr3 (σ := σ0) hN
  rw [c2, bd0_e]
  generalize hs1 : sG (sG σ0 0 h) 1 h' = σ1
  obtain ⟨s, f, f', d1, d2, d3, d4⟩ := an_36 (σ := σ1) (q66 := fun σ31 => fX2_startAnew_69 N (fun σ45 => some σ45) N σ31 (0 : Int32)) hN 10 0 N (gF σ1 2) (gG σ1 2) (gG σ1 3) (zf_0 _) (zg_0 _) (zg_0 _) (by omega) (by omega)
  rw [sF_self, sG_self, sG_self] at d4
  obtain ⟨d, e1, e2⟩ := an_69 (σ := sG (sG (sF σ1 2 s) 2 f) 3 f') (N := N) (q93 := fun σ45 => some σ45) 100 0 N (gF (sG (sG (sF σ1 2 s) 2 f) 3 f') 1) (zf_0 _) (by omega) (by omega)
  rw [sF_self] at e2
  exact ⟨h, h', s, f, f', d, fun k hk => (c1 k hk).1, fun k hk => (c1 k hk).2, d1, d2, d3, e1, by rw [hs1]; exact d4.trans e2⟩
/-! the reference begins -/
theorem bg_29 {τ : St} {N : Nat} {q58 : St → Option St} : ∀ (k i fuel : Nat) (f f' : Nat → Int64), zg f i → zg f' i → i + k = 20 → k < fuel → ∃ h h', zg h 20 ∧ zg h' 20 ∧ fX3_begin_29 N q58 fuel (sG (sG τ 0 f) 4 f') (nI i) = q58 (sG (sG τ 0 h) 4 h') := by
  intro k
  induction k with
  | zero =>
    intro i fuel f f' z z' hi hf
    obtain ⟨a, rfl⟩ : ∃ k, fuel = k + 1 := ⟨fuel - 1, by omega⟩
    have hi : i = 20 := by omega
    subst hi
    refine ⟨f, f', z, z', ?_⟩
    show fX3_begin_29b N q58 _ _ (nI 20) = _
    unfold fX3_begin_29b
    rw [if_pos (cL_le 20 (Nat.le_refl _) (by omega))]
  | succ k ih =>
    intro i fuel f f' z z' hi hf
    obtain ⟨a, rfl⟩ : ∃ k, fuel = k + 1 := ⟨fuel - 1, by omega⟩
    have e : fX3_begin_29 N q58 (a + 1) (sG (sG τ 0 f) 4 f') (nI i) = fX3_begin_29b N q58 (fX3_begin_29 N q58 a) (sG (sG τ 0 f) 4 f') (nI i) := rfl
    unfold fX3_begin_29b at e
    rw [if_neg (cL_nle 20 (by omega) (by omega)), if_neg (nI_in (by omega) (by omega)), lt1_e, if_neg (nI_in (by omega) (by omega)), nI_clamp (by omega), lt1_e, lt1_e, nI_1, sG4, gG_01 τ f f' (show 0 ≠ 4 by decide), show gG (sG (sG (sG τ 0 f) 4 f') 0 (vp_updL f i 0)) 4 = f' from rfl] at e
    obtain ⟨h, h', g1, g2, g3⟩ := ih (i + 1) a _ _ (zg_s z) (zg_s z') (by omega) (by omega)
    exact ⟨h, h', g1, g2, e.trans g3⟩
theorem bg_61 {τ : St} {N : Nat} {q90 : St → Option St} : ∀ (k i fuel : Nat) (s : Nat → Int32) (f : Nat → Int64), zf s i → zg f i → i + k = 10 → k < fuel → ∃ s' h, zf s' 10 ∧ zg h 10 ∧ fX3_begin_61 N q90 fuel (sG (sF τ 0 s) 1 f) (nI i) = q90 (sG (sF τ 0 s') 1 h) := by
  intro k
  induction k with
  | zero =>
    intro i fuel s f z z' hi hf
    obtain ⟨a, rfl⟩ : ∃ k, fuel = k + 1 := ⟨fuel - 1, by omega⟩
    have hi : i = 10 := by omega
    subst hi
    refine ⟨s, f, z, z', ?_⟩
    show fX3_begin_61b N q90 _ _ (nI 10) = _
    unfold fX3_begin_61b
    rw [if_pos (cL_le 10 (Nat.le_refl _) (by omega))]
  | succ k ih =>
    intro i fuel s f z z' hi hf
    obtain ⟨a, rfl⟩ : ∃ k, fuel = k + 1 := ⟨fuel - 1, by omega⟩
    have e : fX3_begin_61 N q90 (a + 1) (sG (sF τ 0 s) 1 f) (nI i) = fX3_begin_61b N q90 (fX3_begin_61 N q90 a) (sG (sF τ 0 s) 1 f) (nI i) := rfl
    unfold fX3_begin_61b at e
    have en : ∀ (s2 : Nat → Int32) (f2 : Nat → Int64), sG (sF (sG (sF τ 0 s) 1 f) 0 s2) 1 f2 = sG (sF τ 0 s2) 1 f2 := by
      intro s2 f2
      have e1 : sF (sG (sF τ 0 s) 1 f) 0 s2 = sG (sF (sF τ 0 s) 0 s2) 1 f := rfl
      rw [e1, sF_sF, sG_sG]
    rw [if_neg (cL_nle 10 (by omega) (by omega)), if_neg (nI_in (by omega) (by omega)), lt1_e, if_neg (nI_in (by omega) (by omega)), nI_clamp (by omega), lt1_e, lt1_e, nI_1, en, show gF (sG (sF τ 0 s) 1 f) 0 = s from rfl, show gG (sF (sG (sF τ 0 s) 1 f) 0 (upd s i 0)) 1 = f from rfl] at e
    obtain ⟨s2, h, g1, g2, g3⟩ := ih (i + 1) a _ _ (zf_s z) (zg_s z') (by omega) (by omega)
    exact ⟨s2, h, g1, g2, e.trans g3⟩
theorem bg_93 {τ : St} {N : Nat} {q130 : St → Option St} : ∀ (k i fuel : Nat) (d : Nat → Int32) (f f' : Nat → Int64), zf d i → zg f i → zg f' i → i + k = 100 → k < fuel → ∃ d' h h', zf d' 100 ∧ zg h 100 ∧ zg h' 100 ∧ fX3_begin_93 N q130 fuel (sF (sG (sG τ 2 f) 3 f') 1 d) (nI i) = q130 (sF (sG (sG τ 2 h) 3 h') 1 d') := by
  intro k
  induction k with
  | zero =>
    intro i fuel d f f' z z' z'' hi hf
    obtain ⟨a, rfl⟩ : ∃ k, fuel = k + 1 := ⟨fuel - 1, by omega⟩
    have hi : i = 100 := by omega
    subst hi
    refine ⟨d, f, f', z, z', z'', ?_⟩
    show fX3_begin_93b N q130 _ _ (nI 100) = _
    unfold fX3_begin_93b
    rw [if_pos (cL_le 100 (Nat.le_refl _) (by omega))]
  | succ k ih =>
    intro i fuel d f f' z z' z'' hi hf
    obtain ⟨a, rfl⟩ : ∃ k, fuel = k + 1 := ⟨fuel - 1, by omega⟩
    have e : fX3_begin_93 N q130 (a + 1) (sF (sG (sG τ 2 f) 3 f') 1 d) (nI i) = fX3_begin_93b N q130 (fX3_begin_93 N q130 a) (sF (sG (sG τ 2 f) 3 f') 1 d) (nI i) := rfl
    unfold fX3_begin_93b at e
    have en : ∀ (d2 : Nat → Int32) (f2 f2' : Nat → Int64), sF (sG (sG (sF (sG (sG τ 2 f) 3 f') 1 d) 2 f2) 3 f2') 1 d2 = sF (sG (sG τ 2 f2) 3 f2') 1 d2 := by
      intro d2 f2 f2'
      have e1 : sF (sG (sG (sF (sG (sG τ 2 f) 3 f') 1 d) 2 f2) 3 f2') 1 d2 = sF (sF (sG (sG (sG (sG τ 2 f) 3 f') 2 f2) 3 f2') 1 d) 1 d2 := rfl
      rw [e1, sF_sF, sG4]
    rw [if_neg (cL_nle 100 (by omega) (by omega)), if_neg (nI_in (by omega) (by omega)), lt1_e, if_neg (nI_in (by omega) (by omega)), lt1_e, if_neg (nI_in (by omega) (by omega)), nI_clamp (by omega), lt1_e, lt1_e, nI_1, en, show gG (sF (sG (sG τ 2 f) 3 f') 1 d) 2 = f from rfl, show gG (sG (sF (sG (sG τ 2 f) 3 f') 1 d) 2 (vp_updL f i 0)) 3 = f' from rfl, show ∀ x, gF (sG (sG (sF (sG (sG τ 2 f) 3 f') 1 d) 2 (vp_updL f i 0)) 3 x) 1 = d from fun x => rfl] at e
    obtain ⟨d2, h, h', g1, g2, g3, g4⟩ := ih (i + 1) a _ _ _ (zf_s z) (zg_s z') (zg_s z'') (by omega) (by omega)
    exact ⟨d2, h, h', g1, g2, g3, e.trans g4⟩
theorem M_begin {τ : St} {N : Nat} (hN : 2000 ≤ N) (a1 a2 a3 : Int32) : ∃ (h h' : Nat → Int64) (s : Nat → Int32) (f1 f f' : Nat → Int64) (d : Nat → Int32), zg h 20 ∧ zg h' 20 ∧ zf s 10 ∧ zg f1 10 ∧ zg f 100 ∧ zg f' 100 ∧ zf d 100 ∧ fX3_begin N τ a1 a2 a3 = some (sF (sG (sG (sG (sF (sG (sG (sI (sI (sJ (sI (sI τ 0 a1) 1 a2) 0 a3.toInt64) 2 0) 3 0) 0 h) 4 h') 0 s) 1 f1) 2 f) 3 f') 1 d) := by
  unfold fX3_begin
  rw [lt1_e, lt1_e, lt1_e, lt1_e, lt1_e]
  generalize sI (sI (sJ (sI (sI τ 0 a1) 1 a2) 0 a3.toInt64) 2 0) 3 0 = τ0
  obtain ⟨h, h', c1, c2, c3⟩ := bg_29 (τ := τ0) (N := N) (q58 := fun σ31 => fX3_begin_61 N (fun σ49 => fX3_begin_93 N (fun σ71 => some σ71) N σ49 (0 : Int32)) N σ31 (0 : Int32)) 20 0 N (gG τ0 0) (gG τ0 4) (zg_0 _) (zg_0 _) (by omega) (by omega)
  rw [sG_self, sG_self] at c3
  generalize ht1 : sG (sG τ0 0 h) 4 h' = τ1
  rw [ht1] at c3
  obtain ⟨s, f1, d1, d2, d3⟩ := bg_61 (τ := τ1) (N := N) (q90 := fun σ49 => fX3_begin_93 N (fun σ71 => some σ71) N σ49 (0 : Int32)) 10 0 N (gF τ1 0) (gG τ1 1) (zf_0 _) (zg_0 _) (by omega) (by omega)
  rw [sF_self, sG_self] at d3
  generalize ht2 : sG (sF τ1 0 s) 1 f1 = τ2
  rw [ht2] at d3
  obtain ⟨d, f, f', e1, e2, e3, e4⟩ := bg_93 (τ := τ2) (N := N) (q130 := fun σ71 => some σ71) 100 0 N (gF τ2 1) (gG τ2 2) (gG τ2 3) (zf_0 _) (zg_0 _) (zg_0 _) (by omega) (by omega)
  rw [sG_self, sG_self, sF_self] at e4
  exact ⟨h, h', s, f1, f, f', d, c1, c2, d1, d2, e2, e3, e1, by rw [ht1, ht2]; exact c3.trans (d3.trans e4)⟩
theorem bnd_of {x : Int64} (h : x = 0) : bnd x := by subst h; exact ⟨by decide, by decide⟩
/-- both are alike then -/
theorem start_rel {σ τ : St} {N n t g len : Nat} (hN : 2000 ≤ N) (h1 : gI σ 5 = nI len) (h2 : gI τ 4 = nI len) (h3 : len ≤ 40) (h4 : ∀ j, j < 40 → gF τ 2 j = gF σ 0 j) (h5 : ∀ j, j < 40 → vp_nar .char (gF σ 0 j) = gF σ 0 j) (hn2 : 2 ≤ n) (hn : n ≤ 10) (ht : t ≤ 3) (hg1 : 1 ≤ g) (hg : g ≤ 720720) :
    ∃ σ' τ', fX2_startAnew N σ (nI n) (nI t) (nI g) = some σ' ∧ fX3_begin N τ (nI n) (nI t) (nI g) = some τ' ∧ RP σ' τ' n t g 0 len ∧ RV σ' τ' n 0 := by
  obtain ⟨xh, xh', xs, xf, xf', xd, x1, x2, x3, x4, x5, x6, x7⟩ := X_startAnew (σ := σ) hN (nI n) (nI t) (nI g)
  obtain ⟨mh, mh', ms, mf1, mf, mf', md, m1, m2, m3, m4, m5, m6, m7, m8⟩ := M_begin (τ := τ) hN (nI n) (nI t) (nI g)
  refine ⟨_, _, x7, m8, ⟨⟨h1, h2, h3, h4, h5, rfl, nI_l (by omega), hg1, hg⟩, rfl, rfl, hn2, hn, rfl, rfl, ht, rfl, rfl, Nat.zero_le _, ?_, ?_, ?_, ?_, ?_, ?_, ?_, ?_, ?_⟩, rfl, rfl, Nat.zero_le _, ?_⟩
  · intro p hp; exact (m3 p hp).trans (x3 p hp).symm
  · intro p hp; exact ⟨0, Nat.zero_le _, x3 p hp⟩
  · intro k hk; exact (m7 k hk).trans (x6 k hk).symm
  · intro k hk; exact Or.inr ⟨0, Nat.zero_le _, x6 k hk⟩
  · intro p hp; exact x6 _ (by omega)
  · intro p hp hz; exact absurd (x3 p hp) hz
  · intro k hk; exact ⟨(m5 k hk).trans (x4 k hk).symm, (m6 k hk).trans (x5 k hk).symm⟩
  · intro p hp; exact ⟨(m1 _ (by omega)).trans (x1 p hp).symm, (m1 _ (by omega)).trans (x2 p hp).symm, (m2 _ (by omega)).trans (x1 p hp).symm, (m2 _ (by omega)).trans (x2 p hp).symm⟩
  · intro p hp
    exact ⟨bnd_of (x1 p hp), bnd_of (x2 p hp)⟩
  · intro k p s hk hp hs hc
    have hk0 : k = 0 := by omega
    subst hk0
    rcases (show s = 0 ∨ s = 1 by omega) with rfl | rfl
    · exact ⟨(m2 (20 * 0 + 2 * p + 0) (by omega)).trans (x1 (10 * 0 + p) (by omega)).symm, bnd_of (x1 (10 * 0 + p) (by omega))⟩
    · exact ⟨(m2 (20 * 0 + 2 * p + 1) (by omega)).trans (x2 (10 * 0 + p) (by omega)).symm, bnd_of (x2 (10 * 0 + p) (by omega))⟩
