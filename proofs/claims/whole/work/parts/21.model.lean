/-! the model's small methods, on its 23 ints of a level -/
theorem L7 : (7 : Int32) = nI 7 := by decide +kernel
theorem L13 : (13 : Int32) = nI 13 := by decide +kernel
theorem L17 : (17 : Int32) = nI 17 := by decide +kernel
theorem L23 : (23 : Int32) = nI 23 := by decide +kernel
theorem L4 : (4 : Int32) = nI 4 := by decide +kernel
theorem L2 : (2 : Int32) = nI 2 := by decide +kernel
theorem L6 : (6 : Int32) = nI 6 := by decide +kernel
theorem L14 : (14 : Int32) = nI 14 := by decide +kernel
theorem toI64 (p : Int32) : (Int32.toInt64 p).toInt = p.toInt := Int32.toInt_toInt64 p
theorem dTT {p q : Prop} {_ : Decidable p} {_ : Decidable q} (hp : p) (hq : q) : (decide p && decide q) = true := by simp [hp, hq]
theorem dFF {p q : Prop} {_ : Decidable p} {_ : Decidable q} (h : ¬ (p ∧ q)) : (decide p && decide q) = false := by
  by_cases hp : p
  · by_cases hq : q
    · exact absurd ⟨hp, hq⟩ h
    · simp [hq]
  · simp [hp]
theorem M_in (h : HS) (v a b : Int64) : f_X5_in h v a b = some (decide (a.toInt ≤ v.toInt) && decide (v.toInt ≤ b.toInt)) := by
  unfold f_X5_in lg_cmp
  by_cases h1 : v > a
  · rw [if_pos h1]
    have e1 : a.toInt < v.toInt := Int64.lt_iff_toInt_lt.mp h1
    rw [if_neg (by decide)]
    by_cases h2 : v > b
    · have e2 : b.toInt < v.toInt := Int64.lt_iff_toInt_lt.mp h2
      rw [if_pos h2, if_pos (by decide), dFF (by omega)]
    · have e2 : ¬ b.toInt < v.toInt := fun z => h2 (Int64.lt_iff_toInt_lt.mpr z)
      rw [if_neg h2, if_neg (by split <;> decide), dTT (by omega) (by omega)]
  · rw [if_neg h1]
    have e0 : ¬ a.toInt < v.toInt := fun z => h1 (Int64.lt_iff_toInt_lt.mpr z)
    by_cases h3 : v = a
    · subst h3
      rw [if_pos rfl, if_neg (by decide)]
      by_cases h2 : v > b
      · have e2 : b.toInt < v.toInt := Int64.lt_iff_toInt_lt.mp h2
        rw [if_pos h2, if_pos (by decide), dFF (by omega)]
      · have e2 : ¬ b.toInt < v.toInt := fun z => h2 (Int64.lt_iff_toInt_lt.mpr z)
        rw [if_neg h2, if_neg (by split <;> decide), dTT (by omega) (by omega)]
    · have e1 : v.toInt ≠ a.toInt := fun z => h3 (Int64.toInt_inj.mp z)
      rw [if_neg h3, if_pos (by decide), dFF (by omega)]
theorem nIm1 {n : Nat} (h : n < 2 ^ 31) : (nI n - 1).toInt = (n : Int) - 1 := by
  cases n with
  | zero => decide +kernel
  | succ k =>
    rw [nI_pred, nI_toInt (by omega)]
    omega
theorem M_isPerson {h : HS} {n : Nat} (hn : h.1 36 0 = nI n) (h6 : n ≤ 6) (p : Int32) : f_X5_isPerson h p = some (inB p n) := by
  unfold f_X5_isPerson
  rw [M_in, bd_s, toI64, toI64, hn, nIm1 (by omega)]
  unfold inB
  have : (0 : Int64).toInt = 0 := by decide
  rw [this]
  congr 2
  exact decide_eq_decide.mpr (by omega)
theorem M_isMatter {h : HS} {m : Nat} (hm : h.1 36 1 = nI m) (h4 : m ≤ 4) (p : Int32) : f_X5_isMatter h p = some (inB p m) := by
  unfold f_X5_isMatter
  rw [M_in, bd_s, toI64, toI64, hm, nIm1 (by omega)]
  unfold inB
  have : (0 : Int64).toInt = 0 := by decide
  rw [this]
  congr 2
  exact decide_eq_decide.mpr (by omega)
theorem M_has (h : HS) (x : Int32) {p : Nat} (hp : p < 32) : f_X5_has h x (nI p) = some (bt x p) := by
  unfold f_X5_has
  rw [bt_get x hp]
  cases bt x p <;> rfl
/-- the model's 23 ints at a level -/
def lvf (h : HS) (lv : Nat) : Nat → Int32 := fun k => h.1 38 (23 * lv + k)
theorem rd_lv (h : HS) {lv k : Nat} (hl : lv < 2) (hk : k < 23) : rd h 38 46 (nI (23 * lv + k)) = some (lvf h lv k) := rd_nI h 38 (by omega) (by omega)
/-- who sees a half -/
def se (f : Nat → Int32) (s j p : Nat) : Bool := (decide (f (1 + p) = 2) || (decide (f (1 + p) ≠ 3) && (bt (f 0) p == decide (s = 1)))) && bt (f (7 + p)) j
theorem M_sees (h : HS) {lv p j s : Nat} (hl : lv < 2) (hp : p < 6) (hj : j < 4) (hs : s < 2) : f_X5_sees h (nI lv) (nI p) (nI j) (nI s) = some (se (lvf h lv) s j p) := by
  have e1 : (nI (23 * lv) + 1) + nI p = nI (23 * lv + (1 + p)) := by rw [one_nI, nI_add, nI_add, Nat.add_assoc]
  have e2 : (nI (23 * lv) + 7) + nI p = nI (23 * lv + (7 + p)) := by rw [L7, nI_add, nI_add, Nat.add_assoc]
  have e0 : nI (23 * lv) = nI (23 * lv + 0) := rfl
  unfold f_X5_sees
  simp only [Lt_e, L23, pk_mul, jn_e]
  rw [e1, e2, rd_lv h hl (by omega), bd_s, rd_lv h hl (by omega), bd_s, M_has h _ (by omega), bd_s, e0, rd_lv h hl (by omega), bd_s, bt_get _ (by omega)]
  have hsd : (nI s = b2i (decide (s = 1))) := by
    rcases (by omega : s = 0 ∨ s = 1) with rfl | rfl <;> decide
  unfold se
  rw [hsd]
  generalize lvf h lv (1 + p) = k
  generalize bt (lvf h lv 0) p = eb
  generalize bt (lvf h lv (7 + p)) j = wb
  generalize decide (s = 1) = sb
  by_cases k2 : k = 2
  · subst k2
    cases wb <;> rfl
  · by_cases k3 : k = 3
    · subst k3
      rfl
    · rw [if_neg k2, if_neg k3]
      simp only [k2, k3, decide_false, ne_eq, not_false_eq_true, decide_true, Bool.false_or, Bool.true_and]
      cases wb <;> cases eb <;> cases sb <;> rfl
/-- the mask of those of the first n that .. -/
def mkk (g : Nat → Bool) : Nat → Int32
  | 0 => 0
  | p + 1 => mkk g p ||| (if g p = true then (1 <<< (nI p &&& 31)) else 0)
theorem bt_mkk (g : Nat → Bool) : ∀ n, n ≤ 32 → ∀ i, bt (mkk g n) i = (decide (i < n) && g i)
  | 0, _, i => by simp [mkk, bt_0]
  | n + 1, hn, i => by
    rw [mkk, bt_or, bt_mkk g n (by omega) i]
    by_cases hg : g n = true
    · rw [if_pos hg, bt_one (by omega)]
      by_cases h1 : i = n
      · subst h1; simp [hg]
      · by_cases h2 : i < n
        · simp [h1, h2, Nat.lt_succ_of_lt h2]
        · simp [h1, h2, show ¬ i < n + 1 by omega]
    · rw [if_neg hg, bt_0]
      by_cases h1 : i = n
      · subst h1; simp [hg]
      · by_cases h2 : i < n
        · simp [h2, Nat.lt_succ_of_lt h2]
        · simp [h2, show ¬ i < n + 1 by omega]
theorem mkk_eq {g : Nat → Bool} {n : Nat} (hn : n ≤ 32) {x : Int32} (h : ∀ i, i < 32 → bt x i = (decide (i < n) && g i)) : x = mkk g n := bt_ext fun i hi => by rw [h i hi, bt_mkk g n hn]
theorem mkk_congr {g g' : Nat → Bool} : ∀ {n : Nat}, (∀ p, p < n → g p = g' p) → mkk g n = mkk g' n
  | 0, _ => rfl
  | n + 1, h => by
    rw [mkk, mkk, mkk_congr (fun p hp => h p (by omega)), h n (by omega)]
theorem M_seeing {h : HS} {n lv j s : Nat} (hn : h.1 36 0 = nI n) (h6 : n ≤ 6) (hl : lv < 2) (hj : j < 4) (hs : s < 2) : f_X5_seeing h (nI lv) (nI j) (nI s) = some (mkk (se (lvf h lv) s j) n) := by
  unfold f_X5_seeing
  refine fin2 (fun i => mkk (se (lvf h lv) s j) i) (fun i => nI i) n (fun rec i hi => ?_) (fun rec => ?_) 400 0 (by omega) (by omega)
  · simp only [hn]
    rw [if_pos (nI_lt hi (by omega)), M_sees h hl (by omega) hj hs, bd_s]
    simp only [jn_e, Lt_e, nI_p1, mkk]
    cases se (lvf h lv) s j i <;> rfl
  · simp only [hn]
    rw [if_neg (nI_nlt (Nat.le_refl _) (by omega))]
