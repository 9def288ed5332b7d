/-! sums -/
def zs (f : Nat → Int) : Nat → Int
  | 0 => 0
  | k + 1 => zs f k + f k
theorem zs_split (f : Nat → Int) (a : Nat) : ∀ b, zs f (a + b) = zs f a + zs (fun i => f (a + i)) b
  | 0 => (Int.add_zero _).symm
  | b + 1 => by
    have ih := zs_split f a b
    show zs f (a + b) + f (a + b) = zs f a + (zs (fun i => f (a + i)) b + f (a + b))
    omega
theorem zs_le {f g : Nat → Int} : ∀ k, (∀ i, i < k → f i ≤ g i) → zs f k ≤ zs g k
  | 0, _ => Int.le_refl _
  | k + 1, h => by
    have ih := zs_le k (fun i hi => h i (by omega))
    have := h k (by omega)
    show zs f k + f k ≤ zs g k + g k
    omega
theorem zs_hi {f : Nat → Int} {M : Int} : ∀ k, (∀ i, i < k → f i ≤ M) → zs f k ≤ (k : Int) * M
  | 0, _ => by show (0 : Int) ≤ ((0 : Nat) : Int) * M; rw [show (((0 : Nat) : Int) * M) = 0 from Int.zero_mul M]; exact Int.le_refl _
  | k + 1, h => by
    have ih := zs_hi k (fun i hi => h i (by omega))
    have h2 := h k (by omega)
    have e : ((k + 1 : Nat) : Int) * M = (k : Int) * M + M := by
      rw [show ((k + 1 : Nat) : Int) = (k : Int) + 1 from by omega, Int.add_mul, Int.one_mul]
    show zs f k + f k ≤ _
    rw [e]; omega
theorem zs_lo {f : Nat → Int} {L : Int} : ∀ k, (∀ i, i < k → L ≤ f i) → (k : Int) * L ≤ zs f k
  | 0, _ => by show ((0 : Nat) : Int) * L ≤ (0 : Int); rw [show (((0 : Nat) : Int) * L) = 0 from Int.zero_mul L]; exact Int.le_refl _
  | k + 1, h => by
    have ih := zs_lo k (fun i hi => h i (by omega))
    have h2 := h k (by omega)
    have e : ((k + 1 : Nat) : Int) * L = (k : Int) * L + L := by
      rw [show ((k + 1 : Nat) : Int) = (k : Int) + 1 from by omega, Int.add_mul, Int.one_mul]
    show _ ≤ zs f k + f k
    rw [e]; omega
/-- a row that lies below another one, u places on -/
theorem zs_shift {a b : Nat → Int} {u c : Nat} {L M : Int} (hu : u ≤ c) (h1 : ∀ i, i + u < c → a i ≤ b (i + u)) (h2 : ∀ i, i < c → a i ≤ M) (h3 : ∀ i, i < c → L ≤ b i) : zs a c - zs b c ≤ (u : Int) * (M - L) := by
  obtain ⟨e, rfl⟩ : ∃ e, c = u + e := ⟨c - u, by omega⟩
  have s1 := zs_split a e u
  rw [Nat.add_comm e u] at s1
  have s2 := zs_split b u e
  have t1 := zs_hi (f := fun i => a (e + i)) u (fun i hi => h2 (e + i) (by omega))
  have t2 := zs_lo (f := b) u (fun i hi => h3 i (by omega))
  have t3 := zs_le (f := a) (g := fun i => b (u + i)) e (fun i hi => by
    have := h1 i (by omega)
    show a i ≤ b (u + i)
    rw [Nat.add_comm u i]; exact this)
  rw [Int.mul_sub]
  omega
/-! how many multiples there are -/
theorem sc_s1 {d k : Nat} (h : k % d = 0) : sc d (k + 1) = sc d k + 1 := by
  show sc d k + (if k % d = 0 then 1 else 0) = _
  rw [if_pos h]
theorem sc_s0 {d k : Nat} (h : ¬ k % d = 0) : sc d (k + 1) = sc d k := by
  show sc d k + (if k % d = 0 then 1 else 0) = _
  rw [if_neg h]; rfl
theorem sc_b {d : Nat} (hd : 0 < d) : ∀ k, k ≤ d * sc d k ∧ d * sc d k < k + d
  | 0 => ⟨Nat.zero_le _, by show d * 0 < 0 + d; omega⟩
  | k + 1 => by
    have ih := sc_b hd k
    by_cases hz : k % d = 0
    · have hm := Nat.div_add_mod k d
      rw [hz, Nat.add_zero] at hm
      have h1 : d * (k / d) ≤ d * sc d k := by omega
      have h2 : d * sc d k < d * (k / d + 1) := by rw [Nat.mul_succ]; omega
      have h3 := Nat.le_of_mul_le_mul_left h1 hd
      have h4 := Nat.lt_of_mul_lt_mul_left h2
      have h5 : sc d k = k / d := by omega
      have he : d * sc d k = k := by rw [h5]; exact hm
      rw [sc_s1 hz, Nat.mul_succ]
      omega
    · have hne : d * sc d k ≠ k := fun he => hz (by rw [← he]; exact Nat.mul_mod_right d _)
      rw [sc_s0 hz]
      omega
theorem sc_dv {d k : Nat} (hd : 0 < d) (hk : 0 < k) : sc d k = (k - 1) / d + 1 := by
  have hb := sc_b hd k
  have hp := sc_pos (d := d) hk
  have h1 : (k - 1) / d = sc d k - 1 := by
    refine Nat.div_eq_of_lt_le ?_ ?_
    · rw [Nat.mul_comm, Nat.mul_sub, Nat.mul_one]; omega
    · rw [show sc d k - 1 + 1 = sc d k from by omega, Nat.mul_comm]; omega
  omega
theorem ss_zs {f : Nat → Int64} {t d : Nat} (hd : 0 < d) : ∀ k, ss f t d k = zs (fun i => (f (t + d * i)).toInt) (sc d k)
  | 0 => rfl
  | k + 1 => by
    have ih := ss_zs (f := f) (t := t) hd k
    have e1 : ss f t d (k + 1) = ss f t d k + (if k % d = 0 then (f (t + k)).toInt else 0) := rfl
    have e2 : sc d (k + 1) = sc d k + (if k % d = 0 then 1 else 0) := rfl
    rw [e1, e2, ih]
    by_cases hz : k % d = 0
    · have hb := sc_b hd k
      have hm := Nat.div_add_mod k d
      have he : d * sc d k = k := by
        rw [hz, Nat.add_zero] at hm
        have h1 : d * (k / d) ≤ d * sc d k := by omega
        have h2 : d * sc d k < d * (k / d + 1) := by rw [Nat.mul_succ]; omega
        have h3 := Nat.le_of_mul_le_mul_left h1 hd
        have h4 := Nat.lt_of_mul_lt_mul_left h2
        have h5 : sc d k = k / d := by omega
        rw [h5]; exact hm
      rw [if_pos hz, if_pos hz]
      show _ = zs (fun i => (f (t + d * i)).toInt) (sc d k) + (f (t + d * sc d k)).toInt
      rw [he]
    · rw [if_neg hz, if_neg hz, Int.add_zero]; rfl
theorem fl_lo (a : Int) {c : Nat} (hc : 0 < c) : (c : Int) * (a / (c : Int)) ≤ a := by
  have := Int.ediv_mul_le a (show (c : Int) ≠ 0 by omega)
  rw [Int.mul_comm]; exact this
theorem fl_hi (a : Int) {c : Nat} (hc : 0 < c) : a < (c : Int) * (a / (c : Int)) + c := by
  have := Int.lt_ediv_add_one_mul_self a (show (0 : Int) < c by omega)
  rw [Int.add_mul, Int.one_mul] at this
  rw [Int.mul_comm (c : Int)]; exact this
/-! within the range of what is left -/
theorem cmb_lo {rule t m : Nat} {f : Nat → Int64} {L : Int} (h2 : 2 * t < m) (h : ∀ j, t ≤ j → j + t < m → L ≤ (f j).toInt) : L ≤ cmb rule t m f := by
  unfold cmb
  by_cases h1 : rule = 1
  · rw [if_pos h1]
    have a := h t (Nat.le_refl _) (by omega)
    have b := h (m - 1 - t) (by omega) (by omega)
    omega
  · rw [if_neg h1]
    by_cases h2' : rule = 2
    · rw [if_pos h2']
      have a := h (t + (m - 2 * t - 1) / 2) (by omega) (by omega)
      have b := h (t + (m - 2 * t) / 2) (by omega) (by omega)
      omega
    · rw [if_neg h2']
      have hd := stp_pos rule t
      have hp := sc_pos (d := stp rule t) (show 0 < m - 2 * t by omega)
      have hb := sc_b hd (m - 2 * t)
      rw [ss_zs hd]
      have hz := zs_lo (f := fun i => (f (t + stp rule t * i)).toInt) (L := L) (sc (stp rule t) (m - 2 * t)) (fun i hi => by
        have : stp rule t * i ≤ stp rule t * (sc (stp rule t) (m - 2 * t) - 1) := Nat.mul_le_mul_left _ (by omega)
        rw [Nat.mul_sub, Nat.mul_one] at this
        exact h _ (by omega) (by omega))
      exact Int.le_ediv_of_mul_le (by omega) (by rw [Int.mul_comm]; exact hz)
theorem cmb_hi {rule t m : Nat} {f : Nat → Int64} {M : Int} (h2 : 2 * t < m) (h : ∀ j, t ≤ j → j + t < m → (f j).toInt ≤ M) : cmb rule t m f ≤ M := by
  unfold cmb
  by_cases h1 : rule = 1
  · rw [if_pos h1]
    have a := h t (Nat.le_refl _) (by omega)
    have b := h (m - 1 - t) (by omega) (by omega)
    omega
  · rw [if_neg h1]
    by_cases h2' : rule = 2
    · rw [if_pos h2']
      have a := h (t + (m - 2 * t - 1) / 2) (by omega) (by omega)
      have b := h (t + (m - 2 * t) / 2) (by omega) (by omega)
      omega
    · rw [if_neg h2']
      have hd := stp_pos rule t
      have hp := sc_pos (d := stp rule t) (show 0 < m - 2 * t by omega)
      have hb := sc_b hd (m - 2 * t)
      rw [ss_zs hd]
      have hz := zs_hi (f := fun i => (f (t + stp rule t * i)).toInt) (M := M) (sc (stp rule t) (m - 2 * t)) (fun i hi => by
        have : stp rule t * i ≤ stp rule t * (sc (stp rule t) (m - 2 * t) - 1) := Nat.mul_le_mul_left _ (by omega)
        rw [Nat.mul_sub, Nat.mul_one] at this
        exact h _ (by omega) (by omega))
      exact Int.ediv_le_of_le_mul (by omega) (by rw [Int.mul_comm]; exact hz)
theorem bad_fy {σ : St} {n t : Nat} (hf : fy σ n ≤ t) {c : Nat → Bool} (h : ∀ p, p < n → cor σ p = true → c p = false) : fb_ct c n ≤ t := by
  have := ct_mono (n := n) (a := c) (b := fun p => !cor σ p) (fun p hp ha => by
    cases hc : cor σ p
    · rfl
    · rw [h p hp hc] at ha; cases ha)
  unfold fy at hf
  omega
/-- at most t faulty nodes: an end lies within what the correct nodes had -/
theorem nx_lo {σ : St} {n t g rule len r q s : Nat} {L : Int} (I : Iv σ n t g rule len r) (hq : q < n) (hcq : cor σ q = true) (hs : s < 2) (hf : fy σ n ≤ t) (h : ∀ k p, k ≤ r → p < n → cor σ p = true → L ≤ (val σ k p s).toInt) : L ≤ (nx σ n t g rule r q s).toInt := by
  have h10 := I.n10
  obtain ⟨-, -, -, hnx⟩ := X_next (N := 2000) (hi := fl s) (Nat.le_refl _) I hq hcq
  rw [sd_fl hs] at hnx
  by_cases hl : 2 * t < (gr σ n g r q s).1
  · rw [hnx hl]
    refine cmb_lo hl (fun j hj hj2 => ga_lo (n := n) (t := t) (bad_fy hf (fun p hp hc => ?_)) (by show j < (gr σ n g r q s).1; omega) hj)
    by_cases hr : rc σ q p = true
    · obtain ⟨d, hd3, hd⟩ := (I.d3 (10 * p + q) (by omega)).resolve_left (of_decide_eq_true hr)
      have := h (r - d) p (by omega) hp hc
      rw [hr, sv_cor hc hd hd3, decide_eq_false (by omega)]; rfl
    · cases hr' : rc σ q p
      · rfl
      · exact absurd hr' hr
  · unfold nx
    rw [if_pos (by omega)]
    exact h r q (Nat.le_refl _) hq hcq
theorem nx_hi {σ : St} {n t g rule len r q s : Nat} {M : Int} (I : Iv σ n t g rule len r) (hq : q < n) (hcq : cor σ q = true) (hs : s < 2) (hf : fy σ n ≤ t) (h : ∀ k p, k ≤ r → p < n → cor σ p = true → (val σ k p s).toInt ≤ M) : (nx σ n t g rule r q s).toInt ≤ M := by
  have h10 := I.n10
  obtain ⟨-, -, -, hnx⟩ := X_next (N := 2000) (hi := fl s) (Nat.le_refl _) I hq hcq
  rw [sd_fl hs] at hnx
  by_cases hl : 2 * t < (gr σ n g r q s).1
  · rw [hnx hl]
    refine cmb_hi hl (fun j hj hj2 => ga_hi (n := n) (t := t) (bad_fy hf (fun p hp hc => ?_)) (by show j + t < (gr σ n g r q s).1; omega))
    by_cases hr : rc σ q p = true
    · obtain ⟨d, hd3, hd⟩ := (I.d3 (10 * p + q) (by omega)).resolve_left (of_decide_eq_true hr)
      have := h (r - d) p (by omega) hp hc
      rw [hr, sv_cor hc hd hd3, decide_eq_false (by omega)]; rfl
    · cases hr' : rc σ q p
      · rfl
      · exact absurd hr' hr
  · unfold nx
    rw [if_pos (by omega)]
    exact h r q (Nat.le_refl _) hq hcq
/-- a round further, still within the hull -/
theorem Hu.sx {σ σ' : St} {n t g rule len r : Nat} (I : Iv σ n t g rule len r) (hf : fy σ n ≤ t) (H : Hu σ n r) (h : Sx n t g rule r σ σ') : Hu σ' n (r + 1) := by
  obtain ⟨k, h3, hv⟩ := h
  intro L M hb j p hj hp hc
  rw [k.cor] at hc
  have hb' : ∀ q, q < n → cor σ q = true → L ≤ (val σ 0 q 0).toInt ∧ (val σ 0 q 1).toInt ≤ M := fun q hq hcq => by
    have := hb q hq (by rw [k.cor]; exact hcq)
    rw [k.2.2.2.2 0 q 0 (by omega) hq (by omega) hcq, k.2.2.2.2 0 q 1 (by omega) hq (by omega) hcq] at this
    exact this
  have H' := H L M hb'
  by_cases e : j = r + 1
  · subst e
    rw [(hv p 0 hp (by omega) hc).1, (hv p 1 hp (by omega) hc).1]
    exact ⟨nx_lo I hp hc (by omega) hf (fun k' p' a b c => (H' k' p' a b c).1), nx_hi I hp hc (by omega) hf (fun k' p' a b c => (H' k' p' a b c).2)⟩
  · rw [k.2.2.2.2 j p 0 (by omega) hp (by omega) hc, k.2.2.2.2 j p 1 (by omega) hp (by omega) hc]
    exact H' j p (by omega) hp hc
/-! what is guaranteed -/
theorem rng {σ : St} {n k s q : Nat} {W : Int64} (hw : Wd σ n k W) (hs : s < 2) (hq : q < n) (hcq : cor σ q = true) : ∃ L M : Int, L ≤ M ∧ M - L ≤ W.toInt ∧ ∀ p, p < n → cor σ p = true → L ≤ (val σ k p s).toInt ∧ (val σ k p s).toInt ≤ M := by
  have i1 := ex_in (f := fun p => val σ k p s) (c := cor σ) (gr := false) n
  have i2 := ex_in (f := fun p => val σ k p s) (c := cor σ) (gr := true) n
  have j1 := i1.resolve_left (fun z => by have := z.2.1 q hq; rw [hcq] at this; cases this)
  have j2 := i2.resolve_left (fun z => by have := z.2.1 q hq; rw [hcq] at this; cases this)
  obtain ⟨-, ⟨p1, a1, a2, a3⟩, a4⟩ := j1
  obtain ⟨-, ⟨p2, b1, b2, b3⟩, b4⟩ := j2
  refine ⟨_, _, ?_, ?_, fun p hp hc => ⟨(a4 p hp hc).2 rfl, (b4 p hp hc).1 rfl⟩⟩
  · have x1 := (a4 q hq hcq).2 rfl
    have x2 := (b4 q hq hcq).1 rfl
    omega
  · rw [a3, b3]; exact hw.2 s p2 p1 hs b1 a1 b2 a2
theorem rc_all {σ : St} {n t g rule len r q : Nat} (I : Iv σ n t g rule len r) (hg : gd σ n) (hq : q < n) : ∀ p, p < n → gF σ 1 (10 * p + q) = nI 0 := fun p hp => by
  have h10 := I.n10
  by_cases e : p = q
  · subst e; exact I.dd p (by omega)
  · exact hg p q hp hq e
theorem guar_two {σ : St} {n t g rule len r u c a b s : Nat} {W : Int64} (I : Iv σ n t g rule len r) (hg : gd σ n) (hf : fy σ n ≤ t) (h3 : 3 * t < n) (hu2 : rule ≠ 2) (hfac : fac n t rule u c) (hw : Wd σ n r W) (hs : s < 2) (ha : a < n) (hb : b < n) (ca : cor σ a = true) (cb : cor σ b = true) : (c : Int) * ((nx σ n t g rule r a s).toInt - (nx σ n t g rule r b s).toInt) ≤ (u : Int) * W.toInt + c := by
  have h10 := I.n10
  obtain ⟨L, M, hLM, hMW, hv⟩ := rng hw hs ha ca
  have rT : ∀ q, q < n → ∀ p, p < n → rc σ q p = true := fun q hq p hp => by
    unfold rc
    rw [rc_all I hg hq p hp]
    exact decide_eq_true (nI_m1 (by omega))
  have egr : ∀ q, q < n → gr σ n g r q s = ga (fun p => sv σ n g r p q s) (fun _ => true) n := fun q hq => by
    unfold gr
    exact ga_cong n (fun p hp => rT q hq p hp) (fun p hp _ => rfl)
  have e1 : ∀ q, q < n → (gr σ n g r q s).1 = n := fun q hq => by
    rw [egr q hq, ga_ct]
    exact fb_ct_all.mpr (fun _ _ => rfl)
  have svc : ∀ q p, q < n → p < n → cor σ p = true → sv σ n g r p q s = val σ r p s := fun q p hq hp hc => sv_cor (d := 0) hc (rc_all I hg hq p hp) (by omega)
  obtain ⟨-, -, -, nxa⟩ := X_next (N := 2000) (hi := fl s) (Nat.le_refl _) I ha ca
  obtain ⟨-, -, -, nxb⟩ := X_next (N := 2000) (hi := fl s) (Nat.le_refl _) I hb cb
  rw [sd_fl hs, e1 a ha] at nxa
  rw [sd_fl hs, e1 b hb] at nxb
  rw [nxa (by omega), nxb (by omega)]
  have hLMW : (u : Int) * (M - L) ≤ (u : Int) * W.toInt := Int.mul_le_mul_of_nonneg_left hMW (by omega)
  -- the two rows
  have shift : ∀ i, i + t < n → ((gr σ n g r a s).2 i).toInt ≤ ((gr σ n g r b s).2 (i + t)).toInt := fun i hi => by
    rw [egr a ha, egr b hb]
    refine ga_shift (n := n) (u := t) (bad_fy hf (fun p hp hc => ?_)) (by rw [ga_ct, fb_ct_all.mpr (fun _ _ => rfl)]; exact hi)
    rw [svc a p ha hp hc, svc b p hb hp hc]
    simp
  have lo : ∀ j, t ≤ j → j < n → L ≤ ((gr σ n g r b s).2 j).toInt := fun j hj hjn => by
    rw [egr b hb]
    refine ga_lo (n := n) (t := t) (bad_fy hf (fun p hp hc => ?_)) (by rw [ga_ct, fb_ct_all.mpr (fun _ _ => rfl)]; exact hjn) hj
    rw [svc b p hb hp hc, decide_eq_false (by have := (hv p hp hc).1; omega)]; rfl
  have hi : ∀ j, j + t < n → ((gr σ n g r a s).2 j).toInt ≤ M := fun j hj => by
    rw [egr a ha]
    refine ga_hi (n := n) (t := t) (bad_fy hf (fun p hp hc => ?_)) (by rw [ga_ct, fb_ct_all.mpr (fun _ _ => rfl)]; exact hj)
    rw [svc a p ha hp hc, decide_eq_false (by have := (hv p hp hc).2; omega)]; rfl
  have ascb : asc (gr σ n g r b s).2 n := by
    have := ga_asc (v := fun p => sv σ n g r p b s) (c := rc σ b) n
    rw [show (ga (fun p => sv σ n g r p b s) (rc σ b) n).1 = n from e1 b hb] at this
    exact this
  rcases hfac with ⟨ht, hu, hc⟩ | ⟨ht, ⟨hr, hu, hc⟩ | ⟨hr, hu, hc⟩ | ⟨hr, hu, hc⟩⟩
  · -- no faulty node: both get the same
    subst ht hu hc
    have same : gr σ n g r a s = gr σ n g r b s := by
      rw [egr a ha, egr b hb]
      refine ga_cong n (fun _ _ => rfl) (fun p hp _ => ?_)
      have hcp : cor σ p = true := by
        cases h : cor σ p
        · have hz : fb_ct (fun p => !cor σ p) n = 0 := by unfold fy at hf; omega
          have := fb_ct_zero.mp hz p hp
          rw [h] at this; cases this
        · rfl
      rw [svc a p ha hp hcp, svc b p hb hp hcp]
    rw [same]
    omega
  · -- the mean
    subst hr hu hc
    have hst : stp 0 u = 1 := by unfold stp; rw [if_neg (by omega)]
    unfold cmb
    rw [if_neg (by omega), if_neg (by omega), if_neg (by omega), if_neg (by omega), hst, ss_zs (by omega), ss_zs (by omega)]
    have hsc : sc 1 (n - 2 * u) = n - 2 * u := by
      rw [sc_dv (by omega) (by omega), Nat.div_one]; omega
    rw [hsc]
    have hz := zs_shift (a := fun i => ((gr σ n g r a s).2 (u + 1 * i)).toInt) (b := fun i => ((gr σ n g r b s).2 (u + 1 * i)).toInt) (u := u) (c := n - 2 * u) (L := L) (M := M) (by omega) (fun i hi' => by
      have := shift (u + 1 * i) (by omega)
      show _ ≤ ((gr σ n g r b s).2 (u + 1 * (i + u))).toInt
      rw [show u + 1 * (i + u) = u + 1 * i + u from by omega]; exact this) (fun i hi' => hi _ (by omega)) (fun i hi' => lo _ (by omega) (by omega))
    have f1 := fl_lo (zs (fun i => ((gr σ n g r a s).2 (u + 1 * i)).toInt) (n - 2 * u)) (show 0 < n - 2 * u by omega)
    have f2 := fl_hi (zs (fun i => ((gr σ n g r b s).2 (u + 1 * i)).toInt) (n - 2 * u)) (show 0 < n - 2 * u by omega)
    rw [Int.mul_sub]
    omega
  · -- the midpoint
    subst hr hu hc
    unfold cmb
    rw [if_pos rfl, if_pos rfl]
    have x1 := hi (n - 1 - t) (by omega)
    have x2 := lo t (Nat.le_refl _) (by omega)
    have x3 := shift t (by omega)
    have x4 := ascb (t + t) (n - 1 - t) (by omega) (by omega)
    omega
  · -- select
    subst hr
    have hst : stp 3 t = t := by
      unfold stp
      by_cases h1 : 1 < t
      · rw [if_pos ⟨rfl, h1⟩]
      · rw [if_neg (fun z => h1 z.2)]; omega
    unfold cmb
    rw [if_neg (by omega), if_neg (by omega), if_neg (by omega), if_neg (by omega), hst, ss_zs ht, ss_zs ht]
    have hsc : sc t (n - 2 * t) = c := by rw [sc_dv ht (by omega), hc]
    have hbb := sc_b ht (n - 2 * t)
    have hp := sc_pos (d := t) (show 0 < n - 2 * t by omega)
    have hlt : ∀ i, i < sc t (n - 2 * t) → t * i < n - 2 * t := fun i hi' => by
      have : t * i ≤ t * (sc t (n - 2 * t) - 1) := Nat.mul_le_mul_left _ (by omega)
      rw [Nat.mul_sub, Nat.mul_one] at this
      omega
    subst hu
    have hz := zs_shift (a := fun i => ((gr σ n g r a s).2 (t + t * i)).toInt) (b := fun i => ((gr σ n g r b s).2 (t + t * i)).toInt) (u := 1) (c := sc t (n - 2 * t)) (L := L) (M := M) (by omega) (fun i hi' => by
      have hi2 := hlt (i + 1) hi'
      rw [Nat.mul_succ] at hi2
      have := shift (t + t * i) (by omega)
      show _ ≤ ((gr σ n g r b s).2 (t + t * (i + 1))).toInt
      rw [Nat.mul_succ, ← Nat.add_assoc]; exact this) (fun i hi' => hi _ (by have := hlt i hi'; omega)) (fun i hi' => lo _ (by omega) (by have := hlt i hi'; omega))
    have f1 := fl_lo (zs (fun i => ((gr σ n g r a s).2 (t + t * i)).toInt) (sc t (n - 2 * t))) hp
    have f2 := fl_hi (zs (fun i => ((gr σ n g r b s).2 (t + t * i)).toInt) (sc t (n - 2 * t))) hp
    rw [← hsc, Int.mul_sub]
    omega
theorem X_guard {σ σ' : St} {n t g rule len r u c : Nat} {W A : Int64} (I : Iv σ n t g rule len r) (hg : gd σ n) (hf : fy σ n ≤ t) (h3 : 3 * t < n) (hu2 : rule ≠ 2) (hfac : fac n t rule u c) (hw : Wd σ n r W) (hx : Sx n t g rule r σ σ') (hA : Wd σ' n (r + 1) A) (hW0 : 0 ≤ W.toInt) : (c : Int) * A.toInt ≤ (u : Int) * W.toInt + c := by
  have huW : 0 ≤ (u : Int) * W.toInt := Int.mul_nonneg (by omega) hW0
  rcases hA.1.2 with e | ⟨s, a, b, hs, ha, hb, ca, cb, e⟩
  · rw [e, Int.mul_zero]; omega
  · rw [hx.1.cor] at ca cb
    rw [e, (hx.2.2 a s ha hs ca).1, (hx.2.2 b s hb hs cb).1]
    exact guar_two I hg hf h3 hu2 hfac hw hs ha hb ca cb
