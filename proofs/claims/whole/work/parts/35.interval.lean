/-! numbers and intervals of the text -/
theorem ch_lt {σ : St} {len p : Nat} {c : Int32} (hc : (0 : Int32) ≠ c) (h : ch σ len p = c) : p < len := by
  by_cases q : p < len
  · exact q
  · rw [ch_out q] at h; exact absurd h hc
/-- what reading a number comes to: a fault at a place, or a value -/
def nOut (σ τ σ' τ' : St) (len g p0 : Nat) (least : Int64) (X : Option (Int32 × St)) (M : Option (Int64 × St)) : Prop :=
  ∃ (rx : Int32) (vm : Int64) (σ2 τ2 : St), X = some (rx, σ2) ∧ M = some (vm, τ2) ∧ kX σ σ2 ∧ kM τ τ2 ∧ τ2.2.1 = τ'.2.1 ∧
    ((∃ f : Nat, f ≤ 40 ∧ rx = nI f ∧ gI τ2 6 = 0 ∧ gI τ2 5 = nI f) ∨
     (rx = -1 ∧ σ2.2.1 = (sJ σ' 0 vm).2.1 ∧ -(1000 * (g : Int)) ≤ vm.toInt ∧ vm.toInt ≤ 1000 * (g : Int) ∧ ∃ p : Nat, p ≤ len ∧ gI σ2 6 = nI p ∧ ((least ≤ vm ∧ gI τ2 6 = 1 ∧ gI τ2 5 = nI p) ∨ (¬ least ≤ vm ∧ gI τ2 6 = 0 ∧ gI τ2 5 = nI p0))))
theorem nOut_end {σ τ σ' τ' σ1 τ1 : St} {len g p0 p N a b : Nat} {ng : Int32} {least : Int64} (B : tB σ τ len g) (hp : p ≤ len) (hkx : kX σ σ1) (hpx : gI σ1 6 = nI p) (hkm : kM τ τ1) (hpm : gI τ1 5 = nI p) (hgd : gI τ1 6 = 1) (ha : a < 1000000) (hb : b < 1000000) (hng : ng = 0 ∨ ng = 1) (hp0 : p0 ≤ len) (hjx : σ1.2.1 = σ'.2.1) (hjm : τ1.2.1 = τ'.2.1) :
    nOut σ τ σ' τ' len g p0 least (fX1_parseNumber_64 N σ1 (nI g) (nI p0) ng (lN a) (lN b)) (fX3_readNumber_73 N τ1 least (nI p0) ng (lN a) (lN b)) := by
  obtain ⟨rx, vm, σ2, τ2, e1, e2, h1, h2, h3, h4⟩ := number_end (N := N) least B hp hkx hpx hkm hpm hgd ha hb hng hp0
  refine ⟨rx, vm, σ2, τ2, e1, e2, h1, h2, h3.trans hjm, ?_⟩
  have b3 := B.2.2.1
  rcases h4 with ⟨q1, q2, q3⟩ | ⟨q1, q2, q3, q4, q5, q6⟩
  · exact Or.inl ⟨p0, by omega, q1, q2, q3⟩
  · refine Or.inr ⟨q1, ?_, q4, q5, p, hp, q3, q6⟩
    rw [q2]
    unfold sJ
    rw [hjx]
theorem number {σ τ σ' τ' : St} {len g N p0 : Nat} (least : Int64) (hN : 2000 ≤ N) (B : tB σ τ len g) (hp : p0 ≤ len) (hkx : kX σ σ') (hpx : gI σ' 6 = nI p0) (hkm : kM τ τ') (hpm : gI τ' 5 = nI p0) :
    nOut σ τ σ' τ' len g p0 least (fX1_parseNumber N σ' (nI g)) (fX3_readNumber N τ' least) := by
  have b3 := B.2.2.1
  -- behind the sign
  have key : ∀ (p1 : Nat) (ng : Int32) (σ1 τ1 : St), p1 ≤ len → (ng = 0 ∨ ng = 1) → kX σ σ1 → gI σ1 6 = nI p1 → σ1.2.1 = σ'.2.1 → kM τ τ1 → gI τ1 5 = nI p1 → τ1.2.1 = τ'.2.1 →
      nOut σ τ σ' τ' len g p0 least (bd2 (fX1_parseDigits N σ1) fun r10 σ9 =>
        if r10 = (-1 : Int64) then some ((gI σ9 6), σ9) else bd2 (fX1_skip σ9 (47 : Int32)) fun r16 σ15 =>
          if r16 = (0 : Int32) then fX1_parseNumber_64 N σ15 (nI g) (nI p0) ng r10 (1 : Int64) else bd2 (fX1_parseDigits N σ15) fun r46 σ45 =>
            if r46 = (-1 : Int64) then some ((gI σ45 6), σ45) else fX1_parseNumber_64 N σ45 (nI g) (nI p0) ng r10 r46)
        (bd2 (fX3_readDigits N τ1) fun r22 σ21 =>
          if (gI σ21 6) = (0 : Int32) then fX3_readNumber_73 N σ21 least (nI p0) ng r22 (1 : Int64) else bd2 (fX3_isAt σ21 (47 : Int32)) fun r118 σ117 =>
            if r118 = (0 : Int32) then fX3_readNumber_73 N σ117 least (nI p0) ng r22 (1 : Int64) else lt1 (sI σ117 5 ((gI σ117 5) + (1 : Int32))) fun σ122 =>
              bd2 (fX3_readDigits N σ122) fun r126 σ125 => fX3_readNumber_73 N σ125 least (nI p0) ng r22 r126) := by
    intro p1 ng σ1 τ1 h1 hng hx1 hx2 hx3 hm1 hm2 hm3
    obtain ⟨p2, d, v, σ2, τ2, e1, e2, k1, k2, k3, k4, k5, k6, k7, k8⟩ := readDigits hN B h1 hx1 hx2 hm1 hm2
    rw [e1, e2]
    simp only [bd2]
    rcases k8 with ⟨q1, rfl⟩ | ⟨q1, w, hw, rfl, rfl⟩
    · rw [if_pos rfl, if_pos q1]
      unfold fX3_readNumber_73
      rw [if_pos q1, k3]
      exact ⟨_, _, σ2, τ2, rfl, rfl, k1, k4, k5.trans hm3, Or.inl ⟨p2, by omega, rfl, q1, k6⟩⟩
    · have hn1 : ¬ lN w = (-1 : Int64) := fun q => by
        have := congrArg Int64.toInt q
        rw [pk_lT (by omega)] at this
        have h : (-1 : Int64).toInt = -1 := rfl
        omega
      rw [if_neg hn1, q1, if_neg z10, X_skip B k1 k3 k7, M_isAt B k4 k6 k7 (by decide)]
      by_cases hs : ch σ len p2 = 47
      · have hlt := ch_lt (by decide) hs
        simp only [if_pos hs, z10, if_false, lt1]
        rw [k6, nI_1]
        obtain ⟨p3, d3, v3, σ3, τ3, f1, f2, l1, l2, l3, l4, l5, l6, l7, l8⟩ := readDigits (σ' := sI σ2 6 (nI (p2 + 1))) (τ' := sI τ2 5 (nI (p2 + 1))) hN B (p := p2 + 1) (by omega) (k1.i _) rfl (k4.i5 _) rfl
        rw [f1, f2]
        simp only []
        rcases l8 with ⟨q3, rfl⟩ | ⟨q3, w3, hw3, rfl, rfl⟩
        · rw [if_pos rfl]
          unfold fX3_readNumber_73
          rw [if_pos q3, l3]
          exact ⟨_, _, σ3, τ3, rfl, rfl, l1, l4, (l5.trans k5).trans hm3, Or.inl ⟨p3, by omega, rfl, q3, l6⟩⟩
        · have hn3 : ¬ lN w3 = (-1 : Int64) := fun q => by
            have := congrArg Int64.toInt q
            rw [pk_lT (by omega)] at this
            have h : (-1 : Int64).toInt = -1 := rfl
            omega
          rw [if_neg hn3]
          exact nOut_end B l7 l1 l3 l4 l6 q3 hw hw3 hng hp ((l2.trans k2).trans hx3) ((l5.trans k5).trans hm3)
      · simp only [if_neg hs, if_pos]
        exact nOut_end (b := 1) B k7 k1 k3 k4 k6 q1 hw (by omega) hng hp (k2.trans hx3) (k5.trans hm3)
  unfold fX1_parseNumber fX3_readNumber
  simp only [lt1]
  rw [X_skip B hkx hpx hp, M_isAt B hkm hpm hp (by decide), hpx, hpm]
  by_cases hs : ch σ len p0 = 45
  · have hlt := ch_lt (by decide) hs
    have h := key (p0 + 1) 1 (sI σ' 6 (nI (p0 + 1))) (sI τ' 5 (nI (p0 + 1))) (by omega) (Or.inr rfl) (hkx.i _) rfl rfl (hkm.i5 _) rfl rfl
    simp only [if_pos hs, bd2, z10, if_false]
    unfold fX3_readNumber_28
    simp only [lt1, hpm, nI_1]
    exact h
  · have h := key p0 0 σ' (sI τ' 5 (nI p0)) hp (Or.inl rfl) hkx hpx rfl (hkm.i5 _) rfl rfl
    simp only [if_neg hs, bd2, if_pos]
    unfold fX3_readNumber_28
    simp only [lt1, hpm]
    rw [show nI p0 + (0 : Int32) = nI p0 from by rw [li0, nI_add]; rfl]
    exact h
/-- reading the interval: both sides have the same fault, or the same ends -/
def iOut (σ τ : St) (g : Nat) (X : Option (Int32 × St)) (M : Option (Int32 × St)) : Prop :=
  ∃ (rx rm : Int32) (σ2 τ2 : St), X = some (rx, σ2) ∧ M = some (rm, τ2) ∧ kX σ σ2 ∧ kM τ τ2 ∧
    ((∃ f : Nat, f ≤ 40 ∧ rx = nI f ∧ rm = -100 - nI f) ∨
     (rx = -1 ∧ rm = 0 ∧ gJ τ2 1 = gJ σ2 1 ∧ gJ τ2 2 = gJ σ2 2 ∧ -(1000 * (g : Int)) ≤ (gJ σ2 1).toInt ∧ (gJ σ2 1).toInt ≤ 1000 * (g : Int) ∧ -(1000 * (g : Int)) ≤ (gJ σ2 2).toInt ∧ (gJ σ2 2).toInt ≤ 1000 * (g : Int)))
theorem nI_m1 {f : Nat} (h : f ≤ 40) : ¬ nI f = (-1 : Int32) := fun q => by
  have := congrArg Int32.toInt q
  rw [nI_toInt (by omega)] at this
  have h : (-1 : Int32).toInt = -1 := rfl
  omega
theorem interval {σ τ : St} {len g N : Nat} (hN : 2000 ≤ N) (B : tB σ τ len g) : iOut σ τ g (fX1_parse N σ (nI g)) (fX3_readInterval N τ) := by
  have b3 := B.2.2.1
  have b8 := B.2.2.2.2.2.2.2.1
  have b9 := B.2.2.2.2.2.2.2.2
  have b7 : gJ τ 0 = lN g := B.2.2.2.2.2.2.1
  unfold fX1_parse fX3_readInterval
  simp only [lt1]
  have hgm : gJ (sI τ 5 0) 0 = lN g := b7
  rw [hgm]
  obtain ⟨rx, vm, σ2, τ2, e1, e2, k1, k2, k3, k4⟩ := number (σ' := sI σ 6 0) (τ' := sI τ 5 0) ((-1000 : Int64) * lN g) hN B (Nat.zero_le len) (kX.rf.i _) rfl (kM.rf.i5 _) rfl
  rw [e1, e2]
  simp only [bd2]
  rcases k4 with ⟨f, hf, rfl, q2, q3⟩ | ⟨rfl, q2, q3, q4, p, hp, q5, q6⟩
  · rw [if_neg (nI_m1 hf), if_pos (show gI (sJ (sJ τ2 1 vm) 2 (gJ (sJ τ2 1 vm) 1)) 6 = 0 from q2), if_pos (show gI (sJ (sJ τ2 1 vm) 2 (gJ (sJ τ2 1 vm) 1)) 6 = 0 from q2), show gI (sJ (sJ τ2 1 vm) 2 (gJ (sJ τ2 1 vm) 1)) 5 = nI f from q3]
    exact ⟨_, _, σ2, _, rfl, rfl, k1, (k2.j (by decide) _).j (by decide) _, Or.inl ⟨f, hf, rfl, rfl⟩⟩
  · have hle : (-1000 : Int64) * lN g ≤ vm := by
      have hm : (-1000 : Int64).toInt = -1000 := rfl
      have hg : (lN g).toInt = (g : Int) := pk_lT (by omega)
      rw [fa_le64, fb_mulL (by rw [hg, hm]; omega) (by rw [hg, hm]; omega), hg, hm]
      omega
    obtain ⟨q7, q8⟩ : gI τ2 6 = 1 ∧ gI τ2 5 = nI p := by
      rcases q6 with q | q
      · exact q.2
      · exact absurd hle q.1
    have hj0 : gJ σ2 0 = vm := by unfold gJ; rw [q2]; rfl
    rw [if_pos rfl, hj0, show gJ (sJ σ2 1 vm) 0 = vm from hj0, show gJ (sJ τ2 1 vm) 1 = vm from rfl]
    -- the states behind the first number
    generalize hs3 : sJ (sJ σ2 1 vm) 2 vm = σ3
    generalize ht3 : sJ (sJ τ2 1 vm) 2 vm = τ3
    have x1 : kX σ σ3 := by rw [← hs3]; exact (k1.j 1 vm).j 2 vm
    have x2 : gI σ3 6 = nI p := by rw [← hs3]; exact q5
    have x3 : gI σ3 5 = nI len := by rw [x1.1 5 (by decide)]; exact B.1
    have x4 : gJ σ3 1 = vm ∧ gJ σ3 2 = vm := by rw [← hs3]; exact ⟨rfl, rfl⟩
    have y1 : kM τ τ3 := by rw [← ht3]; exact (k2.j (by decide) vm).j (by decide) vm
    have y2 : gI τ3 5 = nI p := by rw [← ht3]; exact q8
    have y3 : gI τ3 6 = 1 := by rw [← ht3]; exact q7
    have y4 : gI τ3 4 = nI len := by rw [y1.1 4 (by decide) (by decide)]; exact B.2.1
    have y5 : gJ τ3 1 = vm ∧ gJ τ3 2 = vm := by rw [← ht3]; exact ⟨rfl, rfl⟩
    rw [x2, x3, y2, y3, y4, if_neg z10, if_neg z10]
    by_cases hpe : p = len
    · subst hpe
      rw [if_pos rfl, if_pos (nI_le (Nat.le_refl _) (by omega))]
      exact ⟨_, _, σ3, τ3, rfl, rfl, x1, y1, Or.inr ⟨rfl, rfl, by rw [x4.1, y5.1], by rw [x4.2, y5.2], by rw [x4.1]; exact q3, by rw [x4.1]; exact q4, by rw [x4.2]; exact q3, by rw [x4.2]; exact q4⟩⟩
    · rw [if_neg (fun q => hpe (nI_j (by omega) (by omega) q)), if_neg (nI_nge (by omega) (by omega)), X_skip B x1 x2 hp]
      -- the two dots
      obtain ⟨N1, rfl⟩ : ∃ n, N = n + 3 := ⟨N - 3, by omega⟩
      have M49 : ∀ (q98 : St → Option (Int32 × St)) (n k p1 : Nat) (τ1 : St), k < 2 → p1 ≤ len → kM τ τ1 → gI τ1 5 = nI p1 → gI τ1 6 = 1 → fX3_readInterval_49 (N1 + 3) q98 (n + 1) τ1 (nI k) = if ch σ len p1 = 46 then fX3_readInterval_49 (N1 + 3) q98 n (sI (sI τ1 6 1) 5 (nI (p1 + 1))) (nI (k + 1)) else fX3_readInterval_49 (N1 + 3) q98 n (sI (sI τ1 6 0) 5 (nI p1)) (nI (k + 1)) := by
        intro q98 n k p1 τ1 hk2 hp1 hk1 hpp hg1
        show fX3_readInterval_49b (N1 + 3) q98 (fX3_readInterval_49 (N1 + 3) q98 n) τ1 (nI k) = _
        unfold fX3_readInterval_49b
        rw [if_neg (cL_nle 2 (by omega) (by omega)), hg1, if_neg z10, M_isAt B hk1 hpp hp1 (by decide)]
        simp only [bd2, lt1]
        by_cases hs : ch σ len p1 = 46
        · rw [if_pos hs, if_pos hs, if_neg (by decide), show gI (sI τ1 6 1) 6 = 1 from rfl, if_neg z10, show gI (sI τ1 6 1) 5 = nI p1 from hpp, nI_1, nI_1]
        · rw [if_neg hs, if_neg hs, if_neg (by decide), show gI (sI τ1 6 0) 6 = 0 from rfl, if_pos rfl, show gI (sI τ1 6 0) 5 = nI p1 from hpp, nI_1, show nI p1 + (0 : Int32) = nI p1 from by rw [li0, nI_add]; rfl]
      have M49e : ∀ (q98 : St → Option (Int32 × St)) (n k : Nat) (τ1 : St), k < 3 → (2 ≤ k ∨ gI τ1 6 = 0) → fX3_readInterval_49 (N1 + 3) q98 (n + 1) τ1 (nI k) = q98 τ1 := by
        intro q98 n k τ1 hk3 h
        show fX3_readInterval_49b (N1 + 3) q98 (fX3_readInterval_49 (N1 + 3) q98 n) τ1 (nI k) = _
        unfold fX3_readInterval_49b
        by_cases h2 : 2 ≤ k
        · rw [if_pos (cL_le 2 h2 (by omega))]
        · rw [if_neg (cL_nle 2 (by omega) (by omega)), if_pos (h.resolve_left h2)]
      have e117 : ∀ τ1 : St, gI τ1 6 = 0 → fX3_readInterval_117 (N1 + 3) τ1 = some (-100 - gI τ1 5, τ1) := by
        intro τ1 h
        unfold fX3_readInterval_117
        rw [if_pos h, if_pos h]
      have M490 : ∀ (q98 : St → Option (Int32 × St)) (n p1 : Nat) (τ1 : St), p1 ≤ len → kM τ τ1 → gI τ1 5 = nI p1 → gI τ1 6 = 1 → fX3_readInterval_49 (N1 + 3) q98 (n + 1) τ1 (0 : Int32) = if ch σ len p1 = 46 then fX3_readInterval_49 (N1 + 3) q98 n (sI (sI τ1 6 1) 5 (nI (p1 + 1))) (nI 1) else fX3_readInterval_49 (N1 + 3) q98 n (sI (sI τ1 6 0) 5 (nI p1)) (nI 1) := fun q98 n p1 τ1 a b c d => M49 q98 n 0 p1 τ1 (by omega) a b c d
      rw [M490 _ (N1 + 2) p τ3 hp y1 y2 y3]
      by_cases hs1 : ch σ len p = 46
      · have hlt1 := ch_lt (by decide) hs1
        simp only [if_pos hs1]
        rw [if_neg z10, X_skip (σ' := sI σ3 6 (nI (p + 1))) (p := p + 1) (c := 46) B (x1.i _) rfl (by omega), M49 _ (N1 + 1) 1 (p + 1) (sI (sI τ3 6 1) 5 (nI (p + 1))) (by omega) (by omega) ((y1.i6 _).i5 _) rfl rfl]
        by_cases hs2 : ch σ len (p + 1) = 46
        · have hlt2 := ch_lt (by decide) hs2
          simp only [if_pos hs2]
          rw [if_neg z10, M49e _ N1 2 _ (by omega) (Or.inl (Nat.le_refl _))]
          generalize hs4 : sI (sI σ3 6 (nI (p + 1))) 6 (nI (p + 1 + 1)) = σ4
          generalize ht4 : sI (sI (sI (sI τ3 6 1) 5 (nI (p + 1))) 6 1) 5 (nI (p + 1 + 1)) = τ4
          have u1 : kX σ σ4 := by rw [← hs4]; exact (x1.i _).i _
          have u2 : gI σ4 6 = nI (p + 2) := by rw [← hs4]; rfl
          have u3 : σ4.2.1 = σ3.2.1 := by rw [← hs4]; rfl
          have w1 : kM τ τ4 := by rw [← ht4]; exact ((((y1.i6 _).i5 _).i6 _).i5 _)
          have w2 : gI τ4 5 = nI (p + 2) := by rw [← ht4]; rfl
          have w3 : gI τ4 6 = 1 := by rw [← ht4]; rfl
          have w4 : gJ τ4 1 = vm := by rw [← ht4]; exact y5.1
          have w5 : τ4.2.1 = τ3.2.1 := by rw [← ht4]; rfl
          rw [w3, if_neg z10, w4, u2]
          obtain ⟨rx, v2, σ5, τ5, e1, e2, l1, l2, l3, l4⟩ := number (σ' := σ4) (τ' := τ4) vm hN B (p0 := p + 2) (by omega) u1 u2 w1 w2
          rw [e1, e2]
          simp only []
          have t1 : ∀ a : Int64, gJ (sJ τ5 2 a) 1 = vm := fun a => by
            show gJ τ5 1 = vm
            unfold gJ; rw [l3]; exact w4
          have s1 : gJ σ4 1 = vm := by unfold gJ; rw [u3]; exact x4.1
          rcases l4 with ⟨f, hf, rfl, r2, r3⟩ | ⟨rfl, r2, r3, r4, p5, hp5, r5, r6⟩
          · rw [if_neg (nI_m1 hf), e117 _ (show gI (sJ τ5 2 v2) 6 = 0 from r2), show gI (sJ τ5 2 v2) 5 = nI f from r3]
            exact ⟨_, _, σ5, _, rfl, rfl, l1, l2.j (by decide) _, Or.inl ⟨f, hf, rfl, rfl⟩⟩
          · have j0 : gJ σ5 0 = v2 := by unfold gJ; rw [r2]; rfl
            have j1 : gJ σ5 1 = vm := by
              have : gJ σ5 1 = gJ σ4 1 := by unfold gJ; rw [r2]; rfl
              rw [this, s1]
            rw [if_pos rfl, j0, j1]
            rcases r6 with ⟨m1, m2, m3⟩ | ⟨m1, m2, m3⟩
            · rw [if_pos m1, show gI (sJ σ5 2 v2) 6 = nI p5 from r5, show gI (sJ σ5 2 v2) 5 = nI len from by rw [show gI (sJ σ5 2 v2) 5 = gI σ5 5 from rfl, l1.1 5 (by decide)]; exact B.1]
              unfold fX3_readInterval_117
              rw [show gI (sJ τ5 2 v2) 6 = 1 from m2, show gI (sJ τ5 2 v2) 5 = nI p5 from m3, show gI (sJ τ5 2 v2) 4 = nI len from by rw [show gI (sJ τ5 2 v2) 4 = gI τ5 4 from rfl, l2.1 4 (by decide) (by decide)]; exact B.2.1, if_neg z10]
              simp only [lt1]
              by_cases he : p5 = len
              · subst he
                rw [if_pos rfl, if_pos rfl, show gI (sI (sJ τ5 2 v2) 6 1) 6 = 1 from rfl, if_neg z10]
                exact ⟨_, _, sJ σ5 2 v2, sI (sJ τ5 2 v2) 6 1, rfl, rfl, l1.j _ _, (l2.j (by decide) _).i6 _, Or.inr ⟨rfl, rfl, (t1 v2).trans j1.symm, rfl, by rw [show gJ (sJ σ5 2 v2) 1 = gJ σ5 1 from rfl, j1]; exact q3, by rw [show gJ (sJ σ5 2 v2) 1 = gJ σ5 1 from rfl, j1]; exact q4, r3, r4⟩⟩
              · rw [if_neg (fun q => he (nI_j (by omega) (by omega) q)), if_neg (fun q => he (nI_j (by omega) (by omega) q)), show gI (sI (sJ τ5 2 v2) 6 0) 6 = 0 from rfl, if_pos rfl, show gI (sI (sJ τ5 2 v2) 6 0) 5 = nI p5 from m3]
                exact ⟨_, _, sJ σ5 2 v2, sI (sJ τ5 2 v2) 6 0, rfl, rfl, l1.j _ _, (l2.j (by decide) _).i6 _, Or.inl ⟨p5, by omega, rfl, rfl⟩⟩
            · rw [if_neg m1, e117 _ (show gI (sJ τ5 2 v2) 6 = 0 from m2), show gI (sJ τ5 2 v2) 5 = nI (p + 2) from m3]
              exact ⟨_, _, σ5, sJ τ5 2 v2, rfl, rfl, l1, l2.j (by decide) _, Or.inl ⟨p + 2, by omega, rfl, rfl⟩⟩
        · simp only [if_neg hs2]
          rw [if_pos trivial, M49e _ N1 2 _ (by omega) (Or.inl (Nat.le_refl _)), show gI (sI (sI (sI (sI τ3 6 1) 5 (nI (p + 1))) 6 0) 5 (nI (p + 1))) 6 = 0 from rfl, if_pos rfl, e117 _ rfl]
          exact ⟨_, _, _, _, rfl, rfl, x1.i _, (((y1.i6 _).i5 _).i6 _).i5 _, Or.inl ⟨p + 1, by omega, rfl, rfl⟩⟩
      · simp only [if_neg hs1]
        rw [if_pos trivial, M49e _ (N1 + 1) 1 _ (by omega) (Or.inr rfl), show gI (sI (sI τ3 6 0) 5 (nI p)) 6 = 0 from rfl, if_pos rfl, e117 _ rfl, x2]
        exact ⟨_, _, _, _, rfl, rfl, x1, (y1.i6 _).i5 _, Or.inl ⟨p, by omega, rfl, rfl⟩⟩
