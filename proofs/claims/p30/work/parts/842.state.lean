/-! the state of the class: parameters, rounds, bounds -/
def Iv (σ : St) (n t g rule len r : Nat) : Prop :=
  gI σ 0 = nI n ∧
  2 ≤ n ∧
  n ≤ 10 ∧
  gI σ 1 = nI t ∧
  t ≤ 3 ∧
  gI σ 2 = nI g ∧
  1 ≤ g ∧
  g ≤ 720720 ∧
  gI σ 3 = nI r ∧
  r ≤ 60 ∧
  gI σ 4 = nI rule ∧
  rule ≤ 3 ∧
  gI σ 5 = nI len ∧
  len ≤ 40 ∧
  (∀ j, j < 40 → vp_nar .char (gF σ 0 j) = gF σ 0 j) ∧
  (∀ p, p < 10 → ∃ s : Nat, s ≤ 5 ∧ gF σ 2 p = nI s) ∧
  (∀ k, k < 100 → gF σ 1 k = -1 ∨ ∃ d : Nat, d ≤ 3 ∧ gF σ 1 k = nI d) ∧
  (∀ p, p < 10 → gF σ 1 (10 * p + p) = 0) ∧
  (∀ p, p < 10 → bnd (gG σ 0 p) ∧ bnd (gG σ 1 p)) ∧
  (∀ k p s, k ≤ r → p < n → s < 2 → cor σ p = true → bnd (val σ k p s))
theorem Iv.xn {σ : St} {n t g rule len r : Nat} (h : Iv σ n t g rule len r) : gI σ 0 = nI n := h.1
theorem Iv.n2 {σ : St} {n t g rule len r : Nat} (h : Iv σ n t g rule len r) : 2 ≤ n := h.2.1
theorem Iv.n10 {σ : St} {n t g rule len r : Nat} (h : Iv σ n t g rule len r) : n ≤ 10 := h.2.2.1
theorem Iv.xt {σ : St} {n t g rule len r : Nat} (h : Iv σ n t g rule len r) : gI σ 1 = nI t := h.2.2.2.1
theorem Iv.t3 {σ : St} {n t g rule len r : Nat} (h : Iv σ n t g rule len r) : t ≤ 3 := h.2.2.2.2.1
theorem Iv.xg {σ : St} {n t g rule len r : Nat} (h : Iv σ n t g rule len r) : gI σ 2 = nI g := h.2.2.2.2.2.1
theorem Iv.g1 {σ : St} {n t g rule len r : Nat} (h : Iv σ n t g rule len r) : 1 ≤ g := h.2.2.2.2.2.2.1
theorem Iv.g7 {σ : St} {n t g rule len r : Nat} (h : Iv σ n t g rule len r) : g ≤ 720720 := h.2.2.2.2.2.2.2.1
theorem Iv.xr {σ : St} {n t g rule len r : Nat} (h : Iv σ n t g rule len r) : gI σ 3 = nI r := h.2.2.2.2.2.2.2.2.1
theorem Iv.r60 {σ : St} {n t g rule len r : Nat} (h : Iv σ n t g rule len r) : r ≤ 60 := h.2.2.2.2.2.2.2.2.2.1
theorem Iv.xu {σ : St} {n t g rule len r : Nat} (h : Iv σ n t g rule len r) : gI σ 4 = nI rule := h.2.2.2.2.2.2.2.2.2.2.1
theorem Iv.u3 {σ : St} {n t g rule len r : Nat} (h : Iv σ n t g rule len r) : rule ≤ 3 := h.2.2.2.2.2.2.2.2.2.2.2.1
theorem Iv.xl {σ : St} {n t g rule len r : Nat} (h : Iv σ n t g rule len r) : gI σ 5 = nI len := h.2.2.2.2.2.2.2.2.2.2.2.2.1
theorem Iv.l40 {σ : St} {n t g rule len r : Nat} (h : Iv σ n t g rule len r) : len ≤ 40 := h.2.2.2.2.2.2.2.2.2.2.2.2.2.1
theorem Iv.chr {σ : St} {n t g rule len r : Nat} (h : Iv σ n t g rule len r) : ∀ j, j < 40 → vp_nar .char (gF σ 0 j) = gF σ 0 j := h.2.2.2.2.2.2.2.2.2.2.2.2.2.2.1
theorem Iv.s5 {σ : St} {n t g rule len r : Nat} (h : Iv σ n t g rule len r) : ∀ p, p < 10 → ∃ s : Nat, s ≤ 5 ∧ gF σ 2 p = nI s := h.2.2.2.2.2.2.2.2.2.2.2.2.2.2.2.1
theorem Iv.d3 {σ : St} {n t g rule len r : Nat} (h : Iv σ n t g rule len r) : ∀ k, k < 100 → gF σ 1 k = -1 ∨ ∃ d : Nat, d ≤ 3 ∧ gF σ 1 k = nI d := h.2.2.2.2.2.2.2.2.2.2.2.2.2.2.2.2.1
theorem Iv.dd {σ : St} {n t g rule len r : Nat} (h : Iv σ n t g rule len r) : ∀ p, p < 10 → gF σ 1 (10 * p + p) = 0 := h.2.2.2.2.2.2.2.2.2.2.2.2.2.2.2.2.2.1
theorem Iv.bi {σ : St} {n t g rule len r : Nat} (h : Iv σ n t g rule len r) : ∀ p, p < 10 → bnd (gG σ 0 p) ∧ bnd (gG σ 1 p) := h.2.2.2.2.2.2.2.2.2.2.2.2.2.2.2.2.2.2.1
theorem Iv.bv {σ : St} {n t g rule len r : Nat} (h : Iv σ n t g rule len r) : ∀ k p s, k ≤ r → p < n → s < 2 → cor σ p = true → bnd (val σ k p s) := h.2.2.2.2.2.2.2.2.2.2.2.2.2.2.2.2.2.2.2
/-- alike but for what is scratch: parameters, and the rounds up to r -/
def Co (n r : Nat) (σ σ' : St) : Prop :=
  (∀ j, j < 6 → gI σ' j = gI σ j) ∧ (∀ a, gF σ' a = gF σ a) ∧ (∀ a, a = 2 ∨ a = 3 ∨ a = 4 → gG σ' a = gG σ a) ∧ (∀ p, p < 10 → gG σ' 0 p = gG σ 0 p ∧ gG σ' 1 p = gG σ 1 p) ∧ (∀ k p s, k ≤ r → p < n → s < 2 → cor σ p = true → val σ' k p s = val σ k p s)
theorem Co.rf {n r : Nat} {σ : St} : Co n r σ σ := ⟨fun _ _ => rfl, fun _ => rfl, fun _ _ => rfl, fun _ _ => ⟨rfl, rfl⟩, fun _ _ _ _ _ _ _ => rfl⟩
theorem cor_F {σ σ' : St} (h : gF σ' 2 = gF σ 2) (p : Nat) : cor σ' p = cor σ p := by
  unfold cor; rw [h]
theorem Co.cor {n r : Nat} {σ σ' : St} (h : Co n r σ σ') (p : Nat) : cor σ' p = cor σ p := cor_F (h.2.1 2) p
theorem Co.tr {n r : Nat} {a b c : St} (h : Co n r a b) (k : Co n r b c) : Co n r a c :=
  ⟨fun j hj => (k.1 j hj).trans (h.1 j hj), fun j => (k.2.1 j).trans (h.2.1 j), fun j hj => (k.2.2.1 j hj).trans (h.2.2.1 j hj), fun p hp => ⟨(k.2.2.2.1 p hp).1.trans (h.2.2.2.1 p hp).1, (k.2.2.2.1 p hp).2.trans (h.2.2.2.1 p hp).2⟩, fun r p s hr hp hs hc => (k.2.2.2.2 r p s hr hp hs (by rw [h.cor]; exact hc)).trans (h.2.2.2.2 r p s hr hp hs hc)⟩
theorem Co.sy {n r : Nat} {a b : St} (h : Co n r a b) : Co n r b a :=
  ⟨fun j hj => (h.1 j hj).symm, fun j => (h.2.1 j).symm, fun j hj => (h.2.2.1 j hj).symm, fun p hp => ⟨(h.2.2.2.1 p hp).1.symm, (h.2.2.2.1 p hp).2.symm⟩, fun r p s hr hp hs hc => (h.2.2.2.2 r p s hr hp hs (by rw [← h.cor]; exact hc)).symm⟩
theorem Co.le {n r r' : Nat} {a b : St} (h : Co n r a b) (hr : r' ≤ r) : Co n r' a b := ⟨h.1, h.2.1, h.2.2.1, h.2.2.2.1, fun k p s hk => h.2.2.2.2 k p s (by omega)⟩
theorem Iv.co {σ σ' : St} {n t g rule len r : Nat} (I : Iv σ n t g rule len r) (h : Co n r σ σ') : Iv σ' n t g rule len r := by
  obtain ⟨a1, a2, a3, a4, a5, a6, a7, a8, a9, a10, a11, a12, a13, a14, a15, a16, a17, a18, a19, a20⟩ := I
  refine ⟨(h.1 0 (by omega)).trans a1, a2, a3, (h.1 1 (by omega)).trans a4, a5, (h.1 2 (by omega)).trans a6, a7, a8, (h.1 3 (by omega)).trans a9, a10, (h.1 4 (by omega)).trans a11, a12, (h.1 5 (by omega)).trans a13, a14, ?_, ?_, ?_, ?_, ?_, ?_⟩
  · rw [h.2.1]; exact a15
  · rw [h.2.1]; exact a16
  · rw [h.2.1]; exact a17
  · rw [h.2.1]; exact a18
  · intro p hp; rw [(h.2.2.2.1 p hp).1, (h.2.2.2.1 p hp).2]; exact a19 p hp
  · intro k p s hk hp hs hc
    rw [h.cor] at hc
    rw [h.2.2.2.2 k p s hk hp hs hc]
    exact a20 k p s hk hp hs hc
/-- the scratch row -/
theorem Co.g5 (n r : Nat) (σ : St) (f : Nat → Int64) : Co n r σ (sG σ 5 f) := ⟨fun _ _ => rfl, fun _ => rfl, fun a ha => by rw [gG_sG, if_neg (by omega)], fun _ _ => ⟨rfl, rfl⟩, fun _ _ _ _ _ _ _ => rfl⟩
theorem Iv.vB {σ : St} {n t g rule len r k : Nat} (I : Iv σ n t g rule len r) (hk : k ≤ r) : vB σ n k := fun p s hp hs hc => I.bv k p s hk hp hs hc
theorem Iv.node {σ : St} {n t g rule len r p : Nat} (I : Iv σ n t g rule len r) (hp : p < n) : fX2_isNode σ (nI p) = some (1, σ) := X_isNode I.xn hp I.n10
theorem Iv.corr {σ : St} {n t g rule len r p : Nat} (I : Iv σ n t g rule len r) (hp : p < n) : fX2_isCorrect σ (nI p) = some (if cor σ p = true then 1 else 0, σ) := X_isCorrect I.xn hp I.n10
/-- the width, as a relation -/
def Wd (σ : St) (n k : Nat) (m : Int64) : Prop := wQ σ n k m ∧ wC σ n k m
theorem Wd.one {σ : St} {n k : Nat} {m m' : Int64} (h : Wd σ n k m) (h' : Wd σ n k m') : m = m' := w_one h.1 h.2 h'.1 h'.2
theorem Wd.co {σ σ' : St} {n r k : Nat} {m : Int64} (h : Wd σ n k m) (c : Co n r σ σ') (hk : k ≤ r) : Wd σ' n k m := by
  refine ⟨⟨h.1.1, ?_⟩, ?_⟩
  · rcases h.1.2 with e | ⟨s, a, b, hs, ha, hb, ca, cb, e⟩
    · exact Or.inl e
    · exact Or.inr ⟨s, a, b, hs, ha, hb, by rw [c.cor]; exact ca, by rw [c.cor]; exact cb, by rw [c.2.2.2.2 k a s hk ha hs ca, c.2.2.2.2 k b s hk hb hs cb]; exact e⟩
  · intro s a b hs ha hb ca cb
    rw [c.cor] at ca cb
    rw [c.2.2.2.2 k a s hk ha hs ca, c.2.2.2.2 k b s hk hb hs cb]
    exact h.2 s a b hs ha hb ca cb
theorem Iv.width {σ : St} {n t g rule len r k N : Nat} (hN : 2000 ≤ N) (I : Iv σ n t g rule len r) (hk : k ≤ r) : ∃ m, fX2_widthAfter N σ (nI k) = some (m, σ) ∧ Wd σ n k m ∧ 0 ≤ m.toInt ∧ m.toInt ≤ 14414400000 := by
  have h60 := I.r60
  obtain ⟨m, h1, h2, h3⟩ := X_width (N := N) hN I.xn I.n10 (show k ≤ 60 by omega) (I.vB hk)
  exact ⟨m, h1, ⟨h2, h3⟩, h2.1, w_le (I.vB hk) h2⟩
