/-! texts -/
def kX (σ σ' : St) : Prop := (∀ k, k ≠ 6 → gI σ' k = gI σ k) ∧ σ'.2.2 = σ.2.2
theorem kX.rf {σ : St} : kX σ σ := ⟨fun _ _ => rfl, rfl⟩
theorem kX.i {σ σ' : St} (h : kX σ σ') (v : Int32) : kX σ (sI σ' 6 v) := ⟨fun k hk => by rw [gI_sI, if_neg hk]; exact h.1 k hk, h.2⟩
theorem kX.j {σ σ' : St} (h : kX σ σ') (k : Nat) (v : Int64) : kX σ (sJ σ' k v) := ⟨h.1, h.2⟩
theorem kX.F {σ σ' : St} (h : kX σ σ') (a : Nat) : gF σ' a = gF σ a := by unfold gF; rw [h.2]
theorem kX.G {σ σ' : St} (h : kX σ σ') (a : Nat) : gG σ' a = gG σ a := by unfold gG; rw [h.2]
def ch (σ : St) (len p : Nat) : Int32 := if p < len then gF σ 0 p else 0
def dg (x : Int32) : Bool := !decide (x < 48) && !decide (57 < x)
theorem X_isDigit (x : Int32) : fX1_isDigit x = some (if dg x = true then 1 else 0) := by
  unfold fX1_isDigit dg
  by_cases h1 : x < 48
  · simp [h1]
  · by_cases h2 : 57 < x <;> simp [h1, h2]
theorem ch_out {σ : St} {len p : Nat} (h : ¬ p < len) : ch σ len p = 0 := if_neg h
theorem ch_in {σ : St} {len p : Nat} (h : p < len) : ch σ len p = gF σ 0 p := if_pos h
theorem digit_val : ∀ d, d < 58 → 48 ≤ d → (nI d - (48 : Int32)).toInt64 = lN (d - 48) ∧ (nI d).toInt64 = lN d := by decide
theorem onGrid {a b g : Nat} (ha : a < 1000000) (hb : b < 1000000) (hg : g ≤ 720720) : fX2_isOnGrid (lN a) (lN b) (lN g) = some (if 0 < b ∧ a * g % b = 0 then 1 else 0) := by
  have hag : a * g < 9223372036854775808 := Nat.lt_of_le_of_lt (Nat.mul_le_mul (Nat.le_of_lt ha) hg) (by omega)
  unfold fX2_isOnGrid
  by_cases h : b = 0
  · subst h
    rw [if_pos (dR_le 0 (Nat.le_refl _) (by omega)), if_neg (by omega)]
  · rw [if_neg (dR_nle 0 (by omega) (by omega)), if_neg (dR_ne 0 h (by omega) (by omega)), lN_mul, pk_lRem hag (by omega) (by omega)]
    have hm := Nat.mod_lt (a * g) (y := b) (by omega)
    by_cases h2 : a * g % b = 0
    · rw [if_pos (dR_eq 0 h2), if_pos ⟨by omega, h2⟩]
    · rw [if_neg (dR_ne 0 h2 (by omega) (by omega)), if_neg (fun q => h2 q.2)]
theorem inUn {a b g : Nat} (ha : a < 1000000) (hb : b < 1000000) (hg : g ≤ 720720) (h : 0 < b) : fX2_inUnits (lN a) (lN b) (lN g) = some (lN (a * g / b)) := by
  have hag : a * g < 9223372036854775808 := Nat.lt_of_le_of_lt (Nat.mul_le_mul (Nat.le_of_lt ha) hg) (by omega)
  unfold fX2_inUnits
  rw [if_neg (dR_nle 0 (by omega) (by omega)), if_neg (dR_ne 0 (by omega) (by omega) (by omega)), lN_mul, pk_lDiv hag (by omega) (by omega)]
theorem units_le {a b g : Nat} (hb : 0 < b) (h : a ≤ 1000 * b) : a * g / b ≤ 1000 * g := by
  apply Nat.div_le_of_le_mul
  calc a * g ≤ 1000 * b * g := Nat.mul_le_mul_right g h
    _ = b * (1000 * g) := by rw [Nat.mul_comm 1000 b, Nat.mul_assoc]
/-- the text that stands -/
def Tx (σ : St) (l : List Nat) : Prop := gI σ 5 = nI l.length ∧ l.length ≤ 40 ∧ (∀ j, j < 40 → vp_nar .char (gF σ 0 j) = gF σ 0 j) ∧ ∀ j, j < l.length → gF σ 0 j = nI ((l[j]?).getD 0)
theorem Tx.chE {σ : St} {l : List Nat} (h : Tx σ l) (p : Nat) : ch σ l.length p = nI ((l[p]?).getD 0) := by
  by_cases hp : p < l.length
  · rw [ch_in hp]; exact h.2.2.2 p hp
  · rw [ch_out hp, List.getElem?_eq_none (by omega)]; rfl
theorem Tx.atE {σ : St} {pre post : List Nat} (h : Tx σ (pre ++ post)) : ch σ (pre ++ post).length pre.length = nI (post.headD 0) := by
  rw [h.chE, List.getElem?_append_right (Nat.le_refl _), Nat.sub_self]
  cases post <;> rfl
theorem nar_c {c : Nat} (h : c < 65536) : vp_nar .char (nI c) = nI c := by
  rw [vp_nar_char]; exact fb_char h
theorem X_cn {σ σ' : St} {l : List Nat} {p : Nat} (B : Tx σ l) (hk : kX σ σ') (hp : gI σ' 6 = nI p) (hl : p ≤ l.length) : fX1_characterNext σ' = some (ch σ l.length p, σ') := by
  obtain ⟨b1, b3, b5, -⟩ := B
  unfold fX1_characterNext
  rw [hp, hk.1 5 (by decide), b1, hk.F 0, if_neg (nI_pos (by omega))]
  by_cases h : p < l.length
  · rw [if_neg (nI_nge h (by omega)), if_neg (cL_nle 40 (by omega) (by omega)), if_neg (nI_in (by omega) (by omega)), nI_clamp (by omega), ch_in h]
    simp only [lt1]
    rw [if_neg (fun q => q (b5 p (by omega)))]
  · rw [if_pos (nI_le (by omega) (by omega)), if_neg (fun q => q (by decide)), ch_out h]
theorem X_skip {σ σ' : St} {pre post : List Nat} {c : Nat} (B : Tx σ (pre ++ post)) (hk : kX σ σ') (hp : gI σ' 6 = nI pre.length) (hc : c < 1000) (hh : post.headD 0 < 1000) : fX1_skip σ' (nI c) = if post.headD 0 = c then some (1, sI σ' 6 (nI (pre.length + 1))) else some (0, σ') := by
  have hl := B.2.1
  rw [List.length_append] at hl
  unfold fX1_skip
  rw [X_cn B hk hp (by rw [List.length_append]; omega), bd2_e, B.atE, hp]
  by_cases h : post.headD 0 = c
  · rw [if_pos (by rw [h]), if_pos h, lt1_e, nI_1]
  · rw [if_neg (nI_ne h (by omega) (by omega)), if_neg h]
def Dg (c : Nat) : Prop := 48 ≤ c ∧ c ≤ 57
theorem dg_t {c : Nat} (h : Dg c) : dg (nI c) = true := by
  unfold dg
  rw [decide_eq_false (cR_nlt 48 h.1 (by have := h.2; omega)), decide_eq_false (cL_nlt 57 h.2 (by omega))]
  rfl
theorem dg_f {c : Nat} (h : ¬ Dg c) (hc : c < 1000) : dg (nI c) = false := by
  unfold dg
  by_cases h1 : c < 48
  · rw [decide_eq_true (show nI c < 48 from cR_lt 48 h1 (by omega))]; rfl
  · rw [decide_eq_true (show (57 : Int32) < nI c from cL_lt 57 (by unfold Dg at h; omega) (by omega))]
    simp
/-- the number that digits spell, behind w -/
def vl (w : Nat) : List Nat → Nat
  | [] => w
  | c :: l => vl (w * 10 + (c - 48)) l
def dgs (l : List Nat) : Prop := ∀ c, c ∈ l → Dg c
theorem digits_loop {σ : St} {N : Nat} {q : St → Int64 → Int32 → Option (Int64 × St)} : ∀ (ds pre post : List Nat) (w n fx : Nat) (σ' : St), Tx σ (pre ++ (ds ++ post)) → dgs ds → n + ds.length ≤ 6 → ¬ Dg (post.headD 0) → post.headD 0 < 1000 → kX σ σ' → gI σ' 6 = nI pre.length → w < 10 ^ n → ds.length < fx →
    ∃ σ2 : St, fX1_parseDigits_4 N q fx σ' (lN w) (nI n) = q σ2 (lN (vl w ds)) (nI (n + ds.length)) ∧ kX σ σ2 ∧ σ2.2.1 = σ'.2.1 ∧ gI σ2 6 = nI (pre.length + ds.length) ∧ vl w ds < 10 ^ (n + ds.length) := by
  intro ds
  induction ds with
  | nil =>
    intro pre post w n fx σ' B hds hn hnd hh hk hp hw hfx
    obtain ⟨fx, rfl⟩ : ∃ f, fx = f + 1 := ⟨fx - 1, by have : ([] : List Nat).length = 0 := rfl; omega⟩
    have hn6 : n ≤ 6 := hn
    have hl := B.2.1
    refine ⟨σ', ?_, hk, rfl, hp, hw⟩
    show fX1_parseDigits_4b N q _ σ' (lN w) (nI n) = _
    unfold fX1_parseDigits_4b
    by_cases h6 : n = 6
    · subst h6
      rw [if_pos (cL_le 6 (Nat.le_refl _) (by omega))]; rfl
    · have B' : Tx σ (pre ++ post) := B
      have hl' := B'.2.1
      rw [List.length_append] at hl'
      rw [if_neg (cL_nle 6 (by omega) (by omega)), X_cn B' hk hp (by rw [List.length_append]; omega), bd2_e, X_isDigit, bd0_e, B'.atE, dg_f hnd hh, if_neg Bool.false_ne_true, if_pos rfl]; rfl
  | cons c ds ih =>
    intro pre post w n fx σ' B hds hn hnd hh hk hp hw hfx
    have hlc : (c :: ds).length = ds.length + 1 := rfl
    obtain ⟨fx, rfl⟩ : ∃ f, fx = f + 1 := ⟨fx - 1, by omega⟩
    have hc : Dg c := hds c List.mem_cons_self
    have hl := B.2.1
    rw [List.length_append] at hl
    have e1 : fX1_parseDigits_4 N q (fx + 1) σ' (lN w) (nI n) = fX1_parseDigits_4b N q (fX1_parseDigits_4 N q fx) σ' (lN w) (nI n) := rfl
    unfold fX1_parseDigits_4b at e1
    have hat : ch σ (pre ++ (c :: ds ++ post)).length pre.length = nI c := B.atE
    have hcn := X_cn B hk hp (by rw [List.length_append]; omega)
    rw [hat] at hcn
    have hdv := digit_val c (by have := hc.2; omega) hc.1
    have v1 : lN w * (10 : Int64) + lN (c - 48) = lN (w * 10 + (c - 48)) := by rw [show (10 : Int64) = lN 10 from rfl, lN_mul, lN_add]
    rw [if_neg (cL_nle 6 (by omega) (by omega)), hcn, bd2_e, X_isDigit, bd0_e, dg_t hc, if_pos rfl, if_neg z10, hcn, bd2_e, lt1_e, lt1_e, lt1_e, hdv.1, v1, hp, nI_1, nI_1] at e1
    have B2 : Tx σ ((pre ++ [c]) ++ (ds ++ post)) := by
      have : (pre ++ [c]) ++ (ds ++ post) = pre ++ (c :: ds ++ post) := by simp
      rw [this]; exact B
    have hpl : (pre ++ [c]).length = pre.length + 1 := by simp
    have hb := hc.2
    obtain ⟨σ2, g1, g2, g3, g4, g5⟩ := ih (pre ++ [c]) post (w * 10 + (c - 48)) (n + 1) fx (sI σ' 6 (nI (pre.length + 1))) B2 (fun x hx => hds x (List.mem_cons_of_mem _ hx)) (by omega) hnd hh (hk.i _) (by rw [hpl]; rfl) (by rw [Nat.pow_succ]; omega) (by omega)
    refine ⟨σ2, ?_, g2, g3, ?_, ?_⟩
    · rw [e1, g1, show n + (c :: ds).length = n + 1 + ds.length from by omega]; rfl
    · rw [g4, hpl, show pre.length + (c :: ds).length = pre.length + 1 + ds.length from by omega]
    · rw [show n + (c :: ds).length = n + 1 + ds.length from by omega]; exact g5
theorem X_digits {σ σ' : St} {N : Nat} {ds pre post : List Nat} (hN : 2000 ≤ N) (B : Tx σ (pre ++ (ds ++ post))) (hds : dgs ds) (h1 : 1 ≤ ds.length) (h6 : ds.length ≤ 6) (hnd : ¬ Dg (post.headD 0)) (hh : post.headD 0 < 1000) (hk : kX σ σ') (hp : gI σ' 6 = nI pre.length) :
    ∃ σ2 : St, fX1_parseDigits N σ' = some (lN (vl 0 ds), σ2) ∧ kX σ σ2 ∧ σ2.2.1 = σ'.2.1 ∧ gI σ2 6 = nI (pre.length + ds.length) ∧ vl 0 ds < 1000000 := by
  obtain ⟨σ2, g1, g2, g3, g4, g5⟩ := digits_loop (N := N) (q := fun σ28 x26 x27 => if x27 = (0 : Int32) then (some ((-1 : Int64), σ28)) else (bd2 (fX1_characterNext σ28) fun r35 σ34 => bd0 (fX1_isDigit r35) fun r37 => if r37 = (0 : Int32) then (some (x26, σ34)) else (some ((-1 : Int64), σ34)))) ds pre post 0 0 N σ' B hds (by omega) hnd hh hk hp (by omega) (by omega)
  have hl := B.2.1
  rw [List.length_append, List.length_append] at hl
  refine ⟨σ2, ?_, g2, g3, g4, ?_⟩
  · have B2 : Tx σ ((pre ++ ds) ++ post) := by rw [List.append_assoc]; exact B
    have hpl : (pre ++ ds).length = pre.length + ds.length := List.length_append
    unfold fX1_parseDigits
    refine Eq.trans g1 ?_
    rw [Nat.zero_add, if_neg (cR_ne 0 (by omega) (by omega) (by omega)), X_cn (p := (pre ++ ds).length) B2 g2 (by rw [hpl]; exact g4) (by simp only [List.length_append]; omega), bd2_e, B2.atE, X_isDigit, bd0_e, dg_f hnd hh, if_neg Bool.false_ne_true, if_pos rfl]
  · have := Nat.pow_le_pow_right (n := 10) (by omega) (show 0 + ds.length ≤ 6 by omega)
    omega
/-! numbers -/
def sg (ng : Bool) (v : Int64) : Int64 := if ng = true then -v else v
theorem num_end {σ' : St} {g N p0 a b : Nat} {ng : Bool} (hg : g ≤ 720720) (ha : a < 1000000) (hb : b < 1000000) (hb0 : 0 < b) (hle : a ≤ 1000 * b) (hdv : a * g % b = 0) : fX1_parseNumber_64 N σ' (nI g) (nI p0) (if ng = true then 1 else 0) (lN a) (lN b) = some (-1, sJ σ' 0 (sg ng (lN (a * g / b)))) := by
  unfold fX1_parseNumber_64 sg
  rw [show (1000 : Int64) * lN b = lN (1000 * b) from lN_mul 1000 b, nI_l (by omega), if_neg (fun q => by have := (pk_lLT (by omega) (by omega)).mp q; omega), onGrid ha hb hg, bd0_e, if_pos (show 0 < b ∧ a * g % b = 0 from ⟨hb0, hdv⟩), if_neg z10, inUn ha hb hg hb0, bd0_e]
  cases ng with
  | true => rw [if_pos rfl, if_neg z10, lt1_e, if_pos rfl]
  | false => rw [if_neg Bool.false_ne_true, if_pos rfl, lt1_e, if_neg Bool.false_ne_true]
/-- a number as it is written: sign, digits, perhaps a stroke and digits -/
def tl (db : Option (List Nat)) : List Nat := match db with | none => [] | some d => 47 :: d
def nt (ng : Bool) (da : List Nat) (db : Option (List Nat)) : List Nat := (if ng = true then [45] else []) ++ da ++ tl db
theorem nt_f (da : List Nat) (db : Option (List Nat)) : nt false da db = da ++ tl db := rfl
theorem nt_t (da : List Nat) (db : Option (List Nat)) : nt true da db = 45 :: (da ++ tl db) := rfl
def dn (db : Option (List Nat)) : Nat := match db with | none => 1 | some d => vl 0 d
theorem head_da {da post : List Nat} (hda : dgs da) (h1 : 1 ≤ da.length) : Dg ((da ++ post).headD 0) := by
  cases da with
  | nil => exact absurd h1 (by decide)
  | cons c da => exact hda c List.mem_cons_self
theorem X_number {σ σ' : St} {N g : Nat} {pre post da : List Nat} {db : Option (List Nat)} {ng : Bool} (hN : 2000 ≤ N) (hg : g ≤ 720720) (B : Tx σ (pre ++ (nt ng da db ++ post))) (hda : dgs da) (a1 : 1 ≤ da.length) (a6 : da.length ≤ 6) (hdb : ∀ d, db = some d → dgs d ∧ 1 ≤ d.length ∧ d.length ≤ 6) (hnd : ¬ Dg (post.headD 0)) (hh : post.headD 0 < 1000) (h47 : db = none → post.headD 0 ≠ 47) (hk : kX σ σ') (hp : gI σ' 6 = nI pre.length)
    (hb0 : 0 < dn db) (hle : vl 0 da ≤ 1000 * dn db) (hdv : vl 0 da * g % dn db = 0) :
    ∃ σ2 : St, fX1_parseNumber N σ' (nI g) = some (-1, σ2) ∧ kX σ σ2 ∧ σ2.2.1 = (sJ σ' 0 (sg ng (lN (vl 0 da * g / dn db)))).2.1 ∧ gI σ2 6 = nI (pre.length + (nt ng da db).length) := by
  -- behind the sign
  have key : ∀ (pre1 : List Nat) (σ1 : St), pre1 ++ (da ++ (tl db ++ post)) = pre ++ (nt ng da db ++ post) → kX σ σ1 → gI σ1 6 = nI pre1.length → σ1.2.1 = σ'.2.1 →
      ∃ σ2 : St, (bd2 (fX1_parseDigits N σ1) fun r10 σ9 =>
        if r10 = (-1 : Int64) then some ((gI σ9 6), σ9) else bd2 (fX1_skip σ9 (47 : Int32)) fun r16 σ15 =>
          if r16 = (0 : Int32) then fX1_parseNumber_64 N σ15 (nI g) (nI pre.length) (if ng = true then 1 else 0) r10 (1 : Int64) else bd2 (fX1_parseDigits N σ15) fun r46 σ45 =>
            if r46 = (-1 : Int64) then some ((gI σ45 6), σ45) else fX1_parseNumber_64 N σ45 (nI g) (nI pre.length) (if ng = true then 1 else 0) r10 r46) = some (-1, σ2) ∧ kX σ σ2 ∧ σ2.2.1 = (sJ σ' 0 (sg ng (lN (vl 0 da * g / dn db)))).2.1 ∧ gI σ2 6 = nI (pre1.length + da.length + (tl db).length) := by
    intro pre1 σ1 he k1 p1 j1
    have hn1 : ∀ w : Nat, w < 1000000 → ¬ lN w = (-1 : Int64) := fun w hw q => by
      have := congrArg Int64.toInt q
      rw [pk_lT (by omega)] at this
      have h : (-1 : Int64).toInt = -1 := rfl
      omega
    have jJ : ∀ (τ : St) (v : Int64), τ.2.1 = σ'.2.1 → (sJ τ 0 v).2.1 = (sJ σ' 0 v).2.1 := fun τ v h => by
      unfold sJ; rw [h]
    cases db with
    | none =>
      have B1 : Tx σ (pre1 ++ (da ++ post)) := by
        have e : pre1 ++ (da ++ post) = pre ++ (nt ng da none ++ post) := he
        rw [e]; exact B
      obtain ⟨σ2, e1, e2, e3, e4, e5⟩ := X_digits hN B1 hda a1 a6 hnd hh k1 p1
      have B2 : Tx σ ((pre1 ++ da) ++ post) := by rw [List.append_assoc]; exact B1
      have hpl : (pre1 ++ da).length = pre1.length + da.length := List.length_append
      have hs := X_skip (c := 47) B2 e2 (by rw [hpl]; exact e4) (by omega) hh
      rw [if_neg (h47 rfl)] at hs
      rw [e1, bd2_e, if_neg (hn1 _ e5), show fX1_skip σ2 (47 : Int32) = _ from hs, bd2_e, if_pos rfl, show (1 : Int64) = lN 1 from rfl, num_end (b := 1) hg e5 (by omega) (by omega) hle hdv]
      exact ⟨_, rfl, e2.j 0 _, jJ _ _ (e3.trans j1), e4⟩
    | some d =>
      obtain ⟨d1, d2, d3⟩ := hdb d rfl
      have B1 : Tx σ (pre1 ++ (da ++ (47 :: d ++ post))) := by
        have e : pre1 ++ (da ++ (47 :: d ++ post)) = pre ++ (nt ng da (some d) ++ post) := he
        rw [e]; exact B
      have h47' : ¬ Dg ((47 :: d ++ post).headD 0) := fun z => by
        have : 48 ≤ 47 := z.1
        omega
      obtain ⟨σ2, e1, e2, e3, e4, e5⟩ := X_digits hN B1 hda a1 a6 h47' (by show 47 < 1000; omega) k1 p1
      have B2 : Tx σ ((pre1 ++ da) ++ (47 :: d ++ post)) := by rw [List.append_assoc]; exact B1
      have hpl : (pre1 ++ da).length = pre1.length + da.length := List.length_append
      have hs := X_skip (c := 47) B2 e2 (by rw [hpl]; exact e4) (by omega) (by show 47 < 1000; omega)
      rw [if_pos (show (47 :: d ++ post).headD 0 = 47 from rfl)] at hs
      have B3 : Tx σ ((pre1 ++ da ++ [47]) ++ (d ++ post)) := by
        have e : (pre1 ++ da ++ [47]) ++ (d ++ post) = (pre1 ++ da) ++ (47 :: d ++ post) := by simp
        rw [e]; exact B2
      have hpl3 : (pre1 ++ da ++ [47]).length = pre1.length + da.length + 1 := by rw [List.length_append, List.length_append]; rfl
      obtain ⟨σ3, f1, f2, f3, f4, f5⟩ := X_digits (σ' := sI σ2 6 (nI ((pre1 ++ da).length + 1))) hN B3 d1 d2 d3 hnd hh (e2.i _) (by rw [hpl3, hpl]; rfl)
      rw [e1, bd2_e, if_neg (hn1 _ e5), show fX1_skip σ2 (47 : Int32) = _ from hs, bd2_e, if_neg z10, f1, bd2_e, if_neg (hn1 _ f5), num_end hg e5 f5 hb0 hle hdv]
      refine ⟨_, rfl, f2.j 0 _, jJ _ _ (f3.trans (e3.trans j1)), ?_⟩
      show gI σ3 6 = _
      rw [f4, hpl3]
      show nI (pre1.length + da.length + 1 + d.length) = nI (pre1.length + da.length + (d.length + 1))
      rw [Nat.add_assoc, Nat.add_comm 1]
  unfold fX1_parseNumber
  rw [lt1_e, hp]
  cases ng with
  | true =>
    have e0 : pre ++ (45 :: (da ++ (tl db ++ post))) = pre ++ (nt true da db ++ post) := by rw [nt_t]; simp
    have B0 : Tx σ (pre ++ (45 :: (da ++ (tl db ++ post)))) := by rw [e0]; exact B
    have hs := X_skip (c := 45) B0 hk hp (by omega) (by show 45 < 1000; omega)
    have hs : fX1_skip σ' (45 : Int32) = some (1, sI σ' 6 (nI (pre.length + 1))) := hs.trans (if_pos rfl)
    have hpl : (pre ++ [45]).length = pre.length + 1 := by simp
    obtain ⟨σ2, g1, g2, g3, g4⟩ := key (pre ++ [45]) (sI σ' 6 (nI (pre.length + 1))) (by rw [← e0]; simp) (hk.i _) (by rw [hpl]; rfl) rfl
    rw [hs, bd2_e]
    refine ⟨σ2, g1, g2, g3, ?_⟩
    rw [g4, hpl, nt_t, List.length_cons, List.length_append, show pre.length + 1 + da.length + (tl db).length = pre.length + (da.length + (tl db).length + 1) from by omega]
  | false =>
    have e0 : pre ++ (da ++ (tl db ++ post)) = pre ++ (nt false da db ++ post) := by rw [nt_f, List.append_assoc]
    have B0 : Tx σ (pre ++ (da ++ (tl db ++ post))) := by rw [e0]; exact B
    have hd0 := head_da (post := tl db ++ post) hda a1
    have hs := X_skip (c := 45) B0 hk hp (by omega) (by have := hd0.2; omega)
    have hs : fX1_skip σ' (45 : Int32) = some (0, σ') := hs.trans (if_neg (fun z => by have := hd0.1; omega))
    obtain ⟨σ2, g1, g2, g3, g4⟩ := key pre σ' e0 hk hp rfl
    rw [hs, bd2_e]
    refine ⟨σ2, g1, g2, g3, ?_⟩
    rw [g4, nt_f, List.length_append, Nat.add_assoc]
