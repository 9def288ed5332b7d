/-! a round -/
theorem val_put0 {σ : St} {k p r i s : Nat} (v0 v1 : Int64) (h : 10 * k + p ≠ 10 * r + i) : val (sG (sG σ 0 (vp_updL (gG σ 0) (10 * r + i) v0)) 1 (vp_updL (gG σ 1) (10 * r + i) v1)) k p s = val σ k p s := by
  unfold val
  by_cases hs : s = 0
  · rw [if_pos hs, if_pos hs]; exact pk_uLn h
  · rw [if_neg hs, if_neg hs]; exact pk_uLn h
theorem val_put1 {σ : St} {r i s : Nat} (v0 v1 : Int64) : val (sG (sG σ 0 (vp_updL (gG σ 0) (10 * r + i) v0)) 1 (vp_updL (gG σ 1) (10 * r + i) v1)) r i s = if s = 0 then v0 else v1 := by
  unfold val
  by_cases hs : s = 0
  · rw [if_pos hs, if_pos hs]; exact pk_uLs
  · rw [if_neg hs, if_neg hs]; exact pk_uLs
theorem Co.put {n r i : Nat} (h10 : n ≤ 10) (σ : St) (v0 v1 : Int64) : Co n r σ (sG (sG σ 0 (vp_updL (gG σ 0) (10 * (r + 1) + i) v0)) 1 (vp_updL (gG σ 1) (10 * (r + 1) + i) v1)) := by
  refine ⟨fun _ _ => rfl, fun _ => rfl, fun a ha => ?_, fun p hp => ⟨?_, ?_⟩, fun k p s hk hp hs hc => val_put0 v0 v1 (by omega)⟩
  · rcases ha with rfl | rfl | rfl <;> rfl
  · exact pk_uLn (by omega)
  · exact pk_uLn (by omega)
theorem node_loop {n t g rule len N r : Nat} (hN : 2000 ≤ N) (hr : r < 60) {σ0 : St} {q66 : St → Int32 → Int32 → Option St} (u1 u2 : Int32) : ∀ (k i fX : Nat) (σ : St), Iv σ n t g rule len r → Co n r σ0 σ → (∀ p s, p < i → s < 2 → cor σ0 p = true → val σ (r + 1) p s = nx σ0 n t g rule r p s ∧ bnd (val σ (r + 1) p s)) → i + k = n → k < fX →
    ∃ σ' : St, Co n r σ0 σ' ∧ (∀ p s, p < n → s < 2 → cor σ0 p = true → val σ' (r + 1) p s = nx σ0 n t g rule r p s ∧ bnd (val σ' (r + 1) p s)) ∧ fX2_carryOut_18 N q66 fX σ u1 u2 (nI i) = q66 σ' u1 u2 := by
  intro k
  induction k with
  | zero =>
    intro i fX σ I hc hrow hi hfX
    have h10 := I.n10
    obtain ⟨a, rfl⟩ : ∃ k, fX = k + 1 := ⟨fX - 1, by omega⟩
    have hin : i = n := by omega
    subst hin
    refine ⟨σ, hc, hrow, ?_⟩
    show fX2_carryOut_18b N q66 _ σ u1 u2 (nI i) = _
    unfold fX2_carryOut_18b
    rw [I.xn, if_pos (nI_le (Nat.le_refl _) (by omega))]
  | succ k ih =>
    intro i fX σ I hc hrow hi hfX
    have h10 := I.n10
    obtain ⟨a, rfl⟩ : ∃ k, fX = k + 1 := ⟨fX - 1, by omega⟩
    have hin : i < n := by omega
    have eX : fX2_carryOut_18 N q66 (a + 1) σ u1 u2 (nI i) = fX2_carryOut_18b N q66 (fX2_carryOut_18 N q66 a) σ u1 u2 (nI i) := rfl
    unfold fX2_carryOut_18b at eX
    rw [I.xn, if_neg (nI_nge (by omega) (by omega)), I.corr hin, bd2_e] at eX
    by_cases hci : cor σ i = true
    · have hci0 : cor σ0 i = true := by rw [← hc.cor]; exact hci
      obtain ⟨f1, a1, a2, -⟩ := X_next (hi := 0) hN I hin hci
      have I1 := I.g5 f1
      obtain ⟨f2, b1, b2, -⟩ := X_next (hi := 1) hN I1 hin hci
      have c1 := Co.g5 n r σ f1
      have c2 := Co.g5 n r (sG σ 5 f1) f2
      have e0 : nx σ n t g rule r i 0 = nx σ0 n t g rule r i 0 := nx_co hc h10 hin (by omega) hci0
      have e1 : nx (sG σ 5 f1) n t g rule r i 1 = nx σ0 n t g rule r i 1 := nx_co (hc.tr c1) h10 hin (by omega) hci0
      rw [sd_0] at a1 a2
      rw [sd_1] at b1 b2
      rw [e0] at a1 a2
      rw [e1] at b1 b2
      rw [if_pos hci, if_neg z10, a1, bd2_e, b1, bd2_e, I.xr, nI_1, X_put _ _ (by omega), bd0_e, lt1_e, nI_1] at eX
      have c3 := Co.put (n := n) (r := r) (i := i) h10 (sG (sG σ 5 f1) 5 f2) (nx σ0 n t g rule r i 0) (nx σ0 n t g rule r i 1)
      have cc := ((hc.tr c1).tr c2).tr c3
      have I2 := ((I1.g5 f2).co c3)
      obtain ⟨σ', g1, g2, g3⟩ := ih (i + 1) a _ I2 cc (fun p s hp hs hcp => by
        by_cases hpi : p = i
        · subst hpi
          rw [val_put1]
          rcases (show s = 0 ∨ s = 1 by omega) with rfl | rfl
          · rw [if_pos rfl]; exact ⟨rfl, a2⟩
          · rw [if_neg (by omega)]; exact ⟨rfl, b2⟩
        · rw [val_put0 _ _ (by omega)]
          exact hrow p s (by omega) hs hcp) (by omega) (by omega)
      exact ⟨σ', g1, g2, eX.trans g3⟩
    · rw [if_neg hci, if_pos rfl, lt1_e, nI_1] at eX
      obtain ⟨σ', g1, g2, g3⟩ := ih (i + 1) a σ I hc (fun p s hp hs hcp => by
        by_cases hpi : p = i
        · subst hpi
          exact absurd (by rw [hc.cor]; exact hcp) hci
        · exact hrow p s (by omega) hs hcp) (by omega) (by omega)
      exact ⟨σ', g1, g2, eX.trans g3⟩
/-- what a round, or several, leave as it is: rounds up to r -/
def Kp (n r : Nat) (σ σ' : St) : Prop :=
  (∀ j, j < 6 → j ≠ 3 → gI σ' j = gI σ j) ∧ (∀ a, gF σ' a = gF σ a) ∧ (∀ a, a = 2 ∨ a = 3 ∨ a = 4 → gG σ' a = gG σ a) ∧ (∀ p, p < 10 → gG σ' 0 p = gG σ 0 p ∧ gG σ' 1 p = gG σ 1 p) ∧ (∀ k p s, k ≤ r → p < n → s < 2 → cor σ p = true → val σ' k p s = val σ k p s)
theorem Kp.cor {n r : Nat} {σ σ' : St} (h : Kp n r σ σ') (p : Nat) : cor σ' p = cor σ p := cor_F (h.2.1 2) p
theorem Co.kp {n r : Nat} {σ σ' : St} (h : Co n r σ σ') : Kp n r σ σ' := ⟨fun j hj _ => h.1 j hj, h.2⟩
theorem Kp.tr {n r : Nat} {a b c : St} (h : Kp n r a b) (k : Kp n r b c) : Kp n r a c :=
  ⟨fun j hj h3 => (k.1 j hj h3).trans (h.1 j hj h3), fun j => (k.2.1 j).trans (h.2.1 j), fun j hj => (k.2.2.1 j hj).trans (h.2.2.1 j hj), fun p hp => ⟨(k.2.2.2.1 p hp).1.trans (h.2.2.2.1 p hp).1, (k.2.2.2.1 p hp).2.trans (h.2.2.2.1 p hp).2⟩, fun r p s hr hp hs hc => (k.2.2.2.2 r p s hr hp hs (by rw [h.cor]; exact hc)).trans (h.2.2.2.2 r p s hr hp hs hc)⟩
theorem Kp.le {n r r' : Nat} {a b : St} (h : Kp n r a b) (hr : r' ≤ r) : Kp n r' a b := ⟨h.1, h.2.1, h.2.2.1, h.2.2.2.1, fun k p s hk => h.2.2.2.2 k p s (by omega)⟩
/-- taken back -/
theorem Kp.back {n r : Nat} {a b : St} (h : Kp n r a b) (hr : gI a 3 = nI r) : Co n r a (sI b 3 (nI r)) := by
  refine ⟨fun j hj => ?_, h.2⟩
  rw [gI_sI]
  by_cases e : j = 3
  · subst e; rw [if_pos rfl, hr]
  · rw [if_neg e]; exact h.1 j hj e
theorem Wd.kp {σ σ' : St} {n r k : Nat} {m : Int64} (h : Wd σ n k m) (c : Kp n r σ σ') (hk : k ≤ r) : Wd σ' n k m := by
  refine ⟨⟨h.1.1, ?_⟩, ?_⟩
  · rcases h.1.2 with e | ⟨s, a, b, hs, ha, hb, ca, cb, e⟩
    · exact Or.inl e
    · exact Or.inr ⟨s, a, b, hs, ha, hb, by rw [c.cor]; exact ca, by rw [c.cor]; exact cb, by rw [c.2.2.2.2 k a s hk ha hs ca, c.2.2.2.2 k b s hk hb hs cb]; exact e⟩
  · intro s a b hs ha hb ca cb
    rw [c.cor] at ca cb
    rw [c.2.2.2.2 k a s hk ha hs ca, c.2.2.2.2 k b s hk hb hs cb]
    exact h.2 s a b hs ha hb ca cb
/-- a round further -/
def Sx (n t g rule r : Nat) (σ σ' : St) : Prop := Kp n r σ σ' ∧ gI σ' 3 = nI (r + 1) ∧ ∀ p s, p < n → s < 2 → cor σ p = true → val σ' (r + 1) p s = nx σ n t g rule r p s ∧ bnd (val σ' (r + 1) p s)
theorem Iv.sx {σ σ' : St} {n t g rule len r : Nat} (I : Iv σ n t g rule len r) (hr : r < 60) (h : Sx n t g rule r σ σ') : Iv σ' n t g rule len (r + 1) := by
  obtain ⟨a1, a2, a3, a4, a5, a6, a7, a8, a9, a10, a11, a12, a13, a14, a15, a16, a17, a18, a19, a20⟩ := I
  obtain ⟨k, h3, hv⟩ := h
  refine ⟨(k.1 0 (by omega) (by omega)).trans a1, a2, a3, (k.1 1 (by omega) (by omega)).trans a4, a5, (k.1 2 (by omega) (by omega)).trans a6, a7, a8, h3, by omega, (k.1 4 (by omega) (by omega)).trans a11, a12, (k.1 5 (by omega) (by omega)).trans a13, a14, ?_, ?_, ?_, ?_, ?_, ?_⟩
  · rw [k.2.1]; exact a15
  · rw [k.2.1]; exact a16
  · rw [k.2.1]; exact a17
  · rw [k.2.1]; exact a18
  · intro p hp; rw [(k.2.2.2.1 p hp).1, (k.2.2.2.1 p hp).2]; exact a19 p hp
  · intro j p s hj hp hs hc
    rw [k.cor] at hc
    by_cases e : j = r + 1
    · subst e; exact (hv p s hp hs hc).2
    · rw [k.2.2.2.2 j p s (by omega) hp hs hc]
      exact a20 j p s (by omega) hp hs hc
theorem Sx.co {n t g rule r : Nat} {a b a' b' : St} (h10 : n ≤ 10) (h : Co n r a b) (ha : Sx n t g rule r a a') (hb : Sx n t g rule r b b') : Co n (r + 1) a' b' := by
  obtain ⟨k, h3, hv⟩ := ha
  obtain ⟨k', h3', hv'⟩ := hb
  refine ⟨fun j hj => ?_, fun j => (k'.2.1 j).trans ((h.2.1 j).trans (k.2.1 j).symm), fun j hj => (k'.2.2.1 j hj).trans ((h.2.2.1 j hj).trans (k.2.2.1 j hj).symm), fun p hp => ⟨(k'.2.2.2.1 p hp).1.trans ((h.2.2.2.1 p hp).1.trans (k.2.2.2.1 p hp).1.symm), (k'.2.2.2.1 p hp).2.trans ((h.2.2.2.1 p hp).2.trans (k.2.2.2.1 p hp).2.symm)⟩, fun j p s hj hp hs hc => ?_⟩
  · by_cases e : j = 3
    · subst e; rw [h3, h3']
    · rw [k'.1 j hj e, h.1 j hj, k.1 j hj e]
  · rw [k.cor] at hc
    have hcb : cor b p = true := by rw [h.cor]; exact hc
    by_cases e : j = r + 1
    · subst e
      rw [(hv p s hp hs hc).1, (hv' p s hp hs hcb).1]
      exact nx_co h h10 hp hs hc
    · rw [k.2.2.2.2 j p s (by omega) hp hs hc, k'.2.2.2.2 j p s (by omega) hp hs hcb]
      exact h.2.2.2.2 j p s (by omega) hp hs hc
/-- c rounds further -/
def Ch (n t g rule : Nat) : Nat → Nat → St → St → Prop
  | 0, r, σ, σ' => Co n r σ σ'
  | c + 1, r, σ, σ' => ∃ σ1, Sx n t g rule r σ σ1 ∧ Ch n t g rule c (r + 1) σ1 σ'
theorem Ch.co {n t g rule : Nat} (h10 : n ≤ 10) : ∀ (c r : Nat) {a b a' b' : St}, Co n r a b → Ch n t g rule c r a a' → Ch n t g rule c r b b' → Co n (r + c) a' b'
  | 0, r, a, b, a', b', h, ha, hb => by
    have ha : Co n r a a' := ha
    have hb : Co n r b b' := hb
    exact (ha.sy.tr h).tr hb
  | c + 1, r, a, b, a', b', h, ha, hb => by
    obtain ⟨a1, s1, k1⟩ := ha
    obtain ⟨b1, s2, k2⟩ := hb
    have := Ch.co h10 c (r + 1) (Sx.co h10 h s1 s2) k1 k2
    rw [show r + (c + 1) = r + 1 + c from by omega]
    exact this
theorem Ch.kp {n t g rule : Nat} : ∀ (c r : Nat) {a b : St}, Ch n t g rule c r a b → Kp n r a b
  | 0, r, a, b, h => Co.kp h
  | c + 1, r, a, b, h => by
    obtain ⟨a1, s1, k1⟩ := h
    exact s1.1.tr ((Ch.kp c (r + 1) k1).le (by omega))
theorem Ch.iv {n t g rule len : Nat} : ∀ (c r : Nat) {a b : St}, r + c ≤ 60 → Iv a n t g rule len r → Ch n t g rule c r a b → Iv b n t g rule len (r + c)
  | 0, r, a, b, _, I, h => I.co h
  | c + 1, r, a, b, hr, I, h => by
    obtain ⟨a1, s1, k1⟩ := h
    have := Ch.iv c (r + 1) (by omega) (I.sx (by omega) s1) k1
    rw [show r + (c + 1) = r + 1 + c from by omega]
    exact this
theorem X_round {σ : St} {n t g rule len N r fX : Nat} (hN : 2000 ≤ N) (I : Iv σ n t g rule len r) (hr : r < 60) {q82 : St → Option St} (c i : Nat) (hi : i < c) (hc : c < 2147483648) :
    ∃ σ' : St, Sx n t g rule r σ σ' ∧ fX2_carryOut_2 N q82 (fX + 1) σ (nI c) (nI i) = fX2_carryOut_2 N q82 fX σ' (nI c) (nI (i + 1)) := by
  have h10 := I.n10
  obtain ⟨σ1, x1, w, e2⟩ := node_loop (q66 := fun σ41 x39 x40 => lt1 (sI σ41 3 ((gI σ41 3) + (1 : Int32))) fun σ43 => lt1 (x40 + (1 : Int32)) fun x45 => fX2_carryOut_2 N q82 fX σ43 x39 x45) hN hr (nI c) (nI i) n 0 N σ I Co.rf (fun p s hp => by omega) (by omega) (by omega)
  refine ⟨sI σ1 3 (nI (r + 1)), ⟨⟨fun j hj h3 => ?_, x1.2⟩, rfl, w⟩, ?_⟩
  · rw [gI_sI, if_neg h3]; exact x1.1 j hj
  · have eX : fX2_carryOut_2 N q82 (fX + 1) σ (nI c) (nI i) = fX2_carryOut_2b N q82 (fX2_carryOut_2 N q82 fX) σ (nI c) (nI i) := rfl
    unfold fX2_carryOut_2b at eX
    rw [if_neg (nI_nge hi (by omega)), I.xr, if_neg (cL_nle 60 (by omega) (by omega))] at eX
    refine eX.trans (e2.trans ?_)
    rw [lt1_e, lt1_e, (I.co x1).xr, nI_1, nI_1]
theorem carry_loop {n t g rule len N c : Nat} (hN : 2000 ≤ N) (hc60 : c < 2147483648) {q82 : St → Option St} : ∀ (k i fX : Nat) (σ : St) (r : Nat), Iv σ n t g rule len r → i + k = c → r + k ≤ 60 → k < fX →
    ∃ σ' : St, Ch n t g rule k r σ σ' ∧ Iv σ' n t g rule len (r + k) ∧ fX2_carryOut_2 N q82 fX σ (nI c) (nI i) = q82 σ' := by
  intro k
  induction k with
  | zero =>
    intro i fX σ r I hi hr hfX
    obtain ⟨a, rfl⟩ : ∃ k, fX = k + 1 := ⟨fX - 1, by omega⟩
    have hin : i = c := by omega
    subst hin
    refine ⟨σ, Co.rf, I, ?_⟩
    show fX2_carryOut_2b N q82 _ σ (nI i) (nI i) = _
    unfold fX2_carryOut_2b
    rw [if_pos (nI_le (Nat.le_refl _) (by omega))]
  | succ k ih =>
    intro i fX σ r I hi hr hfX
    obtain ⟨a, rfl⟩ : ∃ k, fX = k + 1 := ⟨fX - 1, by omega⟩
    obtain ⟨σ1, s1, e2⟩ := X_round (fX := a) (q82 := q82) hN I (by omega) c i (by omega) hc60
    obtain ⟨σ2, k2, I2, e4⟩ := ih (i + 1) a σ1 (r + 1) (I.sx (by omega) s1) (by omega) (by omega) (by omega)
    exact ⟨σ2, ⟨σ1, s1, k2⟩, by rw [show r + (k + 1) = r + 1 + k from by omega]; exact I2, e2.trans e4⟩
theorem X_carry {σ : St} {n t g rule len N r c : Nat} (hN : 2000 ≤ N) (I : Iv σ n t g rule len r) (hr : r + c ≤ 60) : ∃ σ' : St, Ch n t g rule c r σ σ' ∧ Iv σ' n t g rule len (r + c) ∧ fX2_carryOut N σ (nI c) = some σ' :=
  carry_loop (q82 := fun σ47 => some σ47) hN (by omega) c 0 N σ r I (by omega) hr (by omega)
theorem X_future {σ : St} {n t g rule len N r c : Nat} (hN : 2000 ≤ N) (I : Iv σ n t g rule len r) (hr : r + c ≤ 60) : ∃ (σ' σ1 : St) (m : Int64), Co n r σ σ' ∧ Ch n t g rule c r σ σ1 ∧ Wd σ1 n (r + c) m ∧ 0 ≤ m.toInt ∧ m.toInt ≤ 14414400000 ∧ fX2_widthInFuture N σ (nI c) = some (m, σ') := by
  obtain ⟨σ1, k1, I1, e1⟩ := X_carry hN I hr
  obtain ⟨m, w1, w2, w3, w4⟩ := I1.width hN (Nat.le_refl _)
  refine ⟨sI σ1 3 (nI r), σ1, m, (k1.kp _ _).back I.xr, k1, w2, w3, w4, ?_⟩
  unfold fX2_widthInFuture
  rw [lt1_e, e1, bd0_e, I1.xr, w1, bd2_e, lt1_e, I.xr]
/-! run, back -/
theorem X_run {σ : St} {n t g rule len N r c : Nat} (hN : 2000 ≤ N) (I : Iv σ n t g rule len r) (h1 : 1 ≤ c) (hr : r + c ≤ 60) : ∃ σ' : St, Ch n t g rule c r σ σ' ∧ Iv σ' n t g rule len (r + c) ∧ fX2_run N σ (nI c) = some (nI (r + c), σ') := by
  obtain ⟨σ1, k1, I1, e1⟩ := X_carry hN I hr
  refine ⟨σ1, k1, I1, ?_⟩
  unfold fX2_run
  rw [isW, if_pos ⟨cL_le 1 h1 (by omega), cR_le 60 (by omega) (by omega)⟩, bd0_e, if_neg z10, I.xr, nI_add, if_pos (cR_le 60 hr (by omega)), e1, bd0_e, I1.xr]
theorem X_run_full {σ : St} {n t g rule len N r c : Nat} (I : Iv σ n t g rule len r) (h1 : 1 ≤ c) (h60 : c ≤ 60) (hr : 60 < r + c) : fX2_run N σ (nI c) = some (-1004, σ) := by
  have := I.r60
  unfold fX2_run
  rw [isW, if_pos ⟨cL_le 1 h1 (by omega), cR_le 60 (by omega) (by omega)⟩, bd0_e, if_neg z10, I.xr, nI_add, if_neg (cR_nle 60 (by omega) (by omega))]
theorem X_back {σ : St} {n t g rule len r c : Nat} (I : Iv σ n t g rule len r) (hc : c ≤ r) : fX2_back σ (nI c) = some (nI (r - c), sI σ 3 (nI (r - c))) := by
  have h60 := I.r60
  unfold fX2_back
  rw [I.xr, isW, if_pos ⟨cL_le 0 (Nat.zero_le _) (by omega), nI_le hc (by omega)⟩, bd0_e, if_neg z10, pk_sub hc, lt1_e]
  rfl
theorem Iv.back {σ : St} {n t g rule len r r' : Nat} (I : Iv σ n t g rule len r) (hr : r' ≤ r) : Iv (sI σ 3 (nI r')) n t g rule len r' := by
  obtain ⟨a1, a2, a3, a4, a5, a6, a7, a8, a9, a10, a11, a12, a13, a14, a15, a16, a17, a18, a19, a20⟩ := I
  exact ⟨a1, a2, a3, a4, a5, a6, a7, a8, rfl, by omega, a11, a12, a13, a14, a15, a16, a17, a18, a19, fun k p s hk hp hs hc => a20 k p s (by omega) hp hs hc⟩
