/-! the fewest of whom something holds -/
def fewer (x y : Int32) : Bool := decide (pop x < pop y) || (decide (pop x = pop y) && decide (x < y))
theorem X4_isFewer (h : HS) {x y : Int32} (hx : small x) (hy : small y) : f_X4_isFewer h x y = some (fewer x y) := by
  unfold f_X4_isFewer fewer
  rw [C_bitCount h hx, C_bitCount h hy, bd_s, bd_s]
  by_cases h1 : pop x < pop y
  · rw [if_pos h1]; simp [h1]
  · rw [if_neg h1]
    by_cases h2 : pop x = pop y
    · rw [if_pos h2]
      by_cases h3 : x < y
      · rw [if_pos h3]; simp [h2, h3]
      · rw [if_neg h3]; simp [h1, h2, h3]
    · rw [if_neg h2]; simp [h1, h2]
/-- the program's best, the model's best -/
def bC (A : Nat) (ok : Nat → Bool) : Nat → Int32
  | 0 => nI A
  | i + 1 => if ok i = true then (if fewer (nI i) (bC A ok i) = true then nI i else bC A ok i) else bC A ok i
def bM (ok : Nat → Bool) : Nat → Int32
  | 0 => -9
  | i + 1 => if (decide (bM ok i = -9) || decide (pop (nI i) < pop (bM ok i))) = true then (if ok i = true then nI i else bM ok i) else bM ok i
theorem pop_all : ∀ n, n < 7 → ∀ i, i < 2 ^ n - 1 → pop (nI i) < pop (nI (2 ^ n - 1)) := by decide +kernel
theorem nI_m9 {b : Nat} (h : b < 2 ^ 31) : nI b ≠ -9 := fun e => by
  have := congrArg Int32.toInt e
  rw [nI_toInt h, show (-9 : Int32).toInt = -9 by decide] at this
  omega
theorem fewer_lt {i b : Nat} (h : b < i) (hi : i < 2 ^ 31) : fewer (nI i) (nI b) = decide (pop (nI i) < pop (nI b)) := by
  unfold fewer
  rw [show decide (nI i < nI b) = false from decide_eq_false (nI_nlt (by omega) hi)]
  simp
theorem best_inv {n : Nat} (hn : n ≤ 6) (ok : Nat → Bool) : ∀ i, i ≤ 2 ^ n - 1 → (bM ok i = -9 ∧ bC (2 ^ n - 1) ok i = nI (2 ^ n - 1)) ∨ ∃ b, b < i ∧ bM ok i = nI b ∧ bC (2 ^ n - 1) ok i = nI b := by
  have h64 : 2 ^ n ≤ 64 := Nat.pow_le_pow_right (n := 2) (by omega) hn
  intro i
  induction i with
  | zero => intro _; exact Or.inl ⟨rfl, rfl⟩
  | succ i ih =>
    intro hi
    unfold bM bC
    rcases ih (by omega) with ⟨e1, e2⟩ | ⟨b, hb, e1, e2⟩
    · rw [e1, e2]
      by_cases ho : ok i = true
      · right
        refine ⟨i, by omega, ?_, ?_⟩
        · rw [if_pos (by simp), if_pos ho]
        · rw [if_pos ho, if_pos]
          unfold fewer
          simp [pop_all n (by omega) i (by omega)]
      · left
        rw [if_neg ho, if_neg ho]
        exact ⟨by split <;> rfl, rfl⟩
    · rw [e1, e2, fewer_lt hb (by omega), decide_eq_false (nI_m9 (by omega)), Bool.false_or]
      right
      by_cases ho : ok i = true
      · rw [if_pos ho, if_pos ho]
        by_cases hf : pop (nI i) < pop (nI b)
        · refine ⟨i, by omega, ?_, ?_⟩ <;> simp [hf]
        · refine ⟨b, by omega, ?_, ?_⟩ <;> simp [hf]
      · rw [if_neg ho, if_neg ho]
        refine ⟨b, by omega, ?_, rfl⟩
        split <;> rfl
theorem best_end {n : Nat} (hn : n ≤ 6) (ok : Nat → Bool) (hok : ok (2 ^ n - 1) = true) : bM ok (2 ^ n) = bC (2 ^ n - 1) ok (2 ^ n) := by
  have h64 : 2 ^ n ≤ 64 := Nat.pow_le_pow_right (n := 2) (by omega) hn
  have h1 : 0 < 2 ^ n := Nat.pow_pos (by omega)
  have e : 2 ^ n = (2 ^ n - 1) + 1 := by omega
  have hi := best_inv hn ok (2 ^ n - 1) (Nat.le_refl _)
  generalize 2 ^ n - 1 = A at e hok hi
  rw [e]
  unfold bM bC
  rcases hi with ⟨e1, e2⟩ | ⟨b, hb, e1, e2⟩
  · rw [e1, e2, if_pos hok, if_pos hok, if_pos (by simp)]
    split <;> rfl
  · rw [e1, e2, fewer_lt hb (by omega), decide_eq_false (nI_m9 (by omega)), Bool.false_or, if_pos hok, if_pos hok]
theorem small_nI {i : Nat} (h : i < 64) : small (nI i) := ⟨i, h, rfl⟩
theorem small_bC {A : Nat} (hA : A < 64) (ok : Nat → Bool) : ∀ i, i ≤ 64 → small (bC A ok i)
  | 0, _ => small_nI hA
  | i + 1, h => by
    unfold bC
    split
    · split
      · exact small_nI (by omega)
      · exact small_bC hA ok i (by omega)
    · exact small_bC hA ok i (by omega)
theorem nI_rg (p : Int32) (n : Nat) (hn : n < 2 ^ 31) : inB p n = false ∨ ∃ j, j < n ∧ p = nI j := by
  rcases nI_rng p n hn with h | h
  · exact Or.inr h
  · exact Or.inl (inB_out h)
theorem nI_rg2 (p : Int32) (n : Nat) (hn : n < 2 ^ 31) : ¬ (0 ≤ p.toInt ∧ p.toInt < n) ∨ ∃ j, j < n ∧ p = nI j := (nI_rng p n hn).symm
section SETS
variable {h : HS} {n m : Nat}
theorem all_nI {n : Nat} (hn : n ≤ 6) : 0 < 2 ^ n ∧ 2 ^ n ≤ 64 := ⟨Nat.pow_pos (by omega), Nat.pow_le_pow_right (n := 2) (by omega) hn⟩
theorem q_cover (B : Base h n m) : Both (f_X4_cover h) (f_X5_cover h) := by
  obtain ⟨H, hF, hn, hm⟩ := B
  have h6 := H.1.2.2.1
  have h4 := H.1.2.2.2
  obtain ⟨p1, p2⟩ := all_nI h6
  generalize hok : (fun i => decide (KN (lvf h 0) n m (nI i) = KN (lvf h 0) n m (nI (2 ^ n - 1)))) = ok
  have oke : ∀ i, (KN (lvf h 0) n m (nI i) = KN (lvf h 0) n m (nI (2 ^ n - 1))) ↔ ok i = true := fun i => by rw [← hok]; simp
  refine both_i (bC (2 ^ n - 1) ok (2 ^ n)) ?_ ?_
  · unfold f_X4_cover
    rw [C_everybody H, bd_s, C_knowable H, bd_s]
    refine fin2 (fun i => bC (2 ^ n - 1) ok i) (fun i => nI i) (2 ^ n) (fun rec i hi => ?_) (fun rec => ?_) 400 0 (by omega) (by omega)
    · rw [if_neg (nI_nlt (by omega) (by omega)), C_knowable H, bd_s]
      simp only [jn_e, nI_p1]
      show _ = rec (if ok i = true then (if fewer (nI i) (bC (2 ^ n - 1) ok i) = true then nI i else bC (2 ^ n - 1) ok i) else bC (2 ^ n - 1) ok i) _
      by_cases ho : ok i = true
      · rw [if_pos ((oke i).mpr ho), if_pos ho, X4_isFewer h (small_nI (by omega)) (small_bC (by omega) ok i (by omega)), bd_s]
        by_cases hf : fewer (nI i) (bC (2 ^ n - 1) ok i) = true
        · rw [if_pos hf, if_pos hf]
        · rw [if_neg hf, if_neg hf]
      · rw [if_neg (fun z => ho ((oke i).mp z)), if_neg ho]
    · rw [if_pos (nI_lt (by omega) (by omega))]
  · rw [← best_end h6 ok ((oke _).mp rfl)]
    unfold f_X5_cover
    have ev := M_every hn h6
    have ec := fun s => M_canBe hn h6 hm h4 (lv := 0) (by omega) s
    rw [nI_0] at ec
    rw [ev, bd_s, ec, bd_s]
    refine fin2 (fun i => bM ok i) (fun i => nI i) (2 ^ n) (fun rec i hi => ?_) (fun rec => ?_) 400 0 (by omega) (by omega)
    · rw [bd_s, if_neg (nI_nlt (by omega) (by omega))]
      simp only [jn_e, nI_p1, M_ones, bd_s, ec]
      show _ = rec (if (decide (bM ok i = -9) || decide (pop (nI i) < pop (bM ok i))) = true then (if ok i = true then nI i else bM ok i) else bM ok i) _
      by_cases h9 : bM ok i = -9
      · rw [if_pos h9, if_neg (show ¬ (1 : Int32) = 0 by decide), if_pos (show (decide (bM ok i = -9) || decide (pop (nI i) < pop (bM ok i))) = true by simp [h9])]
        by_cases ho : ok i = true
        · rw [if_pos ((oke i).mpr ho), if_pos ho]
        · rw [if_neg (fun z => ho ((oke i).mp z)), if_neg ho]
      · rw [if_neg h9]
        by_cases hp : pop (nI i) < pop (bM ok i)
        · rw [if_pos hp, if_neg (show ¬ (1 : Int32) = 0 by decide), if_pos (show (decide (bM ok i = -9) || decide (pop (nI i) < pop (bM ok i))) = true by simp [hp])]
          by_cases ho : ok i = true
          · rw [if_pos ((oke i).mpr ho), if_pos ho]
          · rw [if_neg (fun z => ho ((oke i).mp z)), if_neg ho]
        · rw [if_neg hp, if_pos True.intro, if_neg (show ¬ (decide (bM ok i = -9) || decide (pop (nI i) < pop (bM ok i))) = true by simp [h9, hp])]
    · rw [bd_s, if_pos (nI_lt (by omega) (by omega))]
theorem q_silence (B : Base h n m) (p : Int32) : Both (f_X4_silence h p) (f_X5_silence h p) := by
  obtain ⟨H, hF, hn, hm⟩ := B
  have h6 := H.1.2.2.1
  have h4 := H.1.2.2.2
  obtain ⟨p1, p2⟩ := all_nI h6
  unfold f_X4_silence f_X5_silence
  rw [C_isMatter H, M_isMatter hm h4, bd_s, bd_s]
  rcases nI_rg p m (by omega) with hz | ⟨j, hj, rfl⟩
  · rw [hz]
    exact ⟨_, rfl, rfl⟩
  rw [inB_nI hj (by omega), if_pos rfl, if_pos rfl]
  generalize hok : (fun i => !HC (lvf h 0) n j (nI (2 ^ n - 1) &&& (nI i ^^^ (-1)))) = ok
  have oke : ∀ i, (HC (lvf h 0) n j (nI (2 ^ n - 1) &&& (nI i ^^^ (-1))) = true) ↔ ¬ ok i = true := fun i => by
    rw [← hok]
    show _ ↔ ¬ (!HC (lvf h 0) n j (nI (2 ^ n - 1) &&& (nI i ^^^ (-1)))) = true
    generalize HC (lvf h 0) n j (nI (2 ^ n - 1) &&& (nI i ^^^ (-1))) = b
    cases b <;> decide
  have hokA : ok (2 ^ n - 1) = true := by
    have hz : nI (2 ^ n - 1) &&& (nI (2 ^ n - 1) ^^^ (-1)) = 0 := by
      apply bt_ext
      intro i hi
      rw [bt_and, bt_xor, bt_m1, bt_0]
      cases bt (nI (2 ^ n - 1)) i <;> simp [hi]
    have hy : ∀ x : Int32, x &&& 0 = 0 := fun x => bt_ext fun i _ => by rw [bt_and, bt_0, Bool.and_false]
    rw [← hok]
    simp only [hz]
    unfold HC hc
    simp [hy]
  refine both_i (bC (2 ^ n - 1) ok (2 ^ n)) ?_ ?_
  · rw [C_everybody H, bd_s]
    refine fin2 (fun i => bC (2 ^ n - 1) ok i) (fun i => nI i) (2 ^ n) (fun rec i hi => ?_) (fun rec => ?_) 400 0 (by omega) (by omega)
    · rw [if_neg (nI_nlt (by omega) (by omega)), C_hasCouple H hj, bd_s]
      simp only [jn_e, nI_p1]
      show _ = rec (if ok i = true then (if fewer (nI i) (bC (2 ^ n - 1) ok i) = true then nI i else bC (2 ^ n - 1) ok i) else bC (2 ^ n - 1) ok i) _
      by_cases ho : ok i = true
      · rw [if_neg (fun z => (oke i).mp z ho), if_pos ho, X4_isFewer h (small_nI (by omega)) (small_bC (by omega) ok i (by omega)), bd_s]
        by_cases hf : fewer (nI i) (bC (2 ^ n - 1) ok i) = true
        · rw [if_pos hf, if_pos hf]
        · rw [if_neg hf, if_neg hf]
      · rw [if_pos ((oke i).mpr ho), if_neg ho]
    · rw [if_pos (nI_lt (by omega) (by omega))]
  · rw [← best_end h6 ok hokA]
    have ev := M_every hn h6
    have ec := fun s => M_isBy hn h6 (lv := 0) (by omega) (show j < 4 by omega) s
    rw [nI_0] at ec
    refine fin2 (fun i => bM ok i) (fun i => nI i) (2 ^ n) (fun rec i hi => ?_) (fun rec => ?_) 400 0 (by omega) (by omega)
    · rw [ev, bd_s, if_neg (nI_nlt (by omega) (by omega))]
      simp only [jn_e, nI_p1, M_ones, bd_s, ec, ev]
      show _ = rec (if (decide (bM ok i = -9) || decide (pop (nI i) < pop (bM ok i))) = true then (if ok i = true then nI i else bM ok i) else bM ok i) _
      by_cases h9 : bM ok i = -9
      · rw [if_pos h9, if_neg (show ¬ (1 : Int32) = 0 by decide), if_pos (show (decide (bM ok i = -9) || decide (pop (nI i) < pop (bM ok i))) = true by simp [h9])]
        by_cases ho : ok i = true
        · rw [if_neg (fun z => (oke i).mp z ho), if_pos ho]
        · rw [if_pos ((oke i).mpr ho), if_neg ho]
      · rw [if_neg h9]
        by_cases hp : pop (nI i) < pop (bM ok i)
        · rw [if_pos hp, if_neg (show ¬ (1 : Int32) = 0 by decide), if_pos (show (decide (bM ok i = -9) || decide (pop (nI i) < pop (bM ok i))) = true by simp [hp])]
          by_cases ho : ok i = true
          · rw [if_neg (fun z => (oke i).mp z ho), if_pos ho]
          · rw [if_pos ((oke i).mpr ho), if_neg ho]
        · rw [if_neg hp, if_pos True.intro, if_neg (show ¬ (decide (bM ok i = -9) || decide (pop (nI i) < pop (bM ok i))) = true by simp [h9, hp])]
    · rw [ev, bd_s, if_pos (nI_lt (by omega) (by omega))]
/-! rests -/
theorem hc_pair : ∀ p, p < 6 → ∀ q, q < 6 → p ≠ q → ∀ a b c d : Bool,
    (let L := (if a then (1 <<< (nI p &&& 31) : Int32) else 0) ||| (if b then (1 <<< (nI q &&& 31) : Int32) else 0)
     let R := (if c then (1 <<< (nI p &&& 31) : Int32) else 0) ||| (if d then (1 <<< (nI q &&& 31) : Int32) else 0)
     decide (L ≠ 0) && (decide (R ≠ 0) && decide (1 < pop (L ||| R)))) = ((a && d) || (b && c)) := by decide +kernel
theorem and_pair (L : Int32) {p q : Nat} (hp : p < 32) (hq : q < 32) : L &&& ((1 <<< (nI p &&& 31)) ||| (1 <<< (nI q &&& 31))) = (if bt L p = true then (1 <<< (nI p &&& 31) : Int32) else 0) ||| (if bt L q = true then (1 <<< (nI q &&& 31) : Int32) else 0) := by
  apply bt_ext
  intro i hi
  rw [bt_and, bt_or, bt_or, bt_one hp, bt_one hq]
  have e : ∀ (r : Nat) (hr : r < 32), bt (if bt L r = true then (1 <<< (nI r &&& 31) : Int32) else 0) i = (bt L r && decide (i = r)) := fun r hr => by
    by_cases z : bt L r = true
    · rw [if_pos z, z, bt_one hr]; rfl
    · rw [if_neg z, bt_0]; simp [z]
  rw [e p hp, e q hq]
  by_cases h1 : i = p
  · subst h1
    by_cases h2 : i = q
    · subst h2; simp
    · simp [h2]
  · by_cases h2 : i = q
    · subst h2; simp [h1]
    · simp [h1, h2]
theorem HC_pair (f : Nat → Int32) {n j p q : Nat} (hn : n ≤ 6) (hp : p < n) (hq : q < n) (hpq : p ≠ q) : HC f n j ((1 <<< (nI p &&& 31)) ||| (1 <<< (nI q &&& 31))) = (cp f j p q || cp f j q p) := by
  unfold HC hc
  rw [and_pair _ (by omega) (by omega), and_pair _ (by omega) (by omega), bt_mkk _ n (by omega), bt_mkk _ n (by omega), bt_mkk _ n (by omega), bt_mkk _ n (by omega)]
  simp only [hp, hq, decide_true, Bool.true_and]
  have := hc_pair p (by omega) q (by omega) hpq (se f 0 j p) (se f 0 j q) (se f 1 j p) (se f 1 j q)
  simp only at this
  rw [this]
  unfold cp
  simp [hpq, Ne.symm hpq]
/-- what one has -/
def gn (c li : Bool) (own oth : Int32) : Int32 := if own = 0 then 0 else if oth = 0 then -1 else if c = true then (if li = true then 4 else 3) else -2
theorem C_gain {f hl : Nat → Int32} (H : CR h 3 f hl n m) (hF : FR f n m) {p q j : Nat} (hp : p < n) (hq : q < n) (hj : j < m) (own oth : Int32) : f_X4_gainOf h (nI p) (nI q) (nI j) own oth = some (gn (cp f j p q || cp f j q p) (decide (f (1 + p) = 1)) own oth) := by
  unfold f_X4_gainOf f_X1_areCouple gn
  by_cases h1 : own = 0
  · rw [if_pos h1, if_pos h1]
  · rw [if_neg h1, if_neg h1]
    by_cases h2 : oth = 0
    · rw [if_pos h2, if_pos h2]
    · rw [if_neg h2, if_neg h2, C_isCouple H hp hq hj, C_isCouple H hq hp hj, C_kindOf H hF hp]
      simp only [bd_s]
      by_cases k1 : f (1 + p) = 1
      · simp only [k1, decide_true]
        cases cp f j p q <;> cases cp f j q p <;> rfl
      · simp only [k1, decide_false]
        cases cp f j p q <;> cases cp f j q p <;> rfl
theorem M_gain {p : Nat} (hp : p < 6) (c : Bool) (own oth : Int32) : f_X5_gain h (nI p) (b2i c) own oth = some (gn c (decide (lvf h 0 (1 + p) = 1)) own oth) := by
  unfold f_X5_gain gn
  by_cases h1 : own = 0
  · rw [if_pos h1, if_pos h1]
  · rw [if_neg h1, if_neg h1]
    by_cases h2 : oth = 0
    · rw [if_pos h2, if_pos h2]
    · rw [if_neg h2, if_neg h2, one_nI, nI_add, rd38 h (by omega), ← lv0, bd_s, ← one_nI]
      cases c
      · rfl
      · rw [if_neg (by decide), if_pos rfl]
        by_cases k1 : lvf h 0 (1 + p) = 1
        · rw [if_pos k1]; simp [k1]
        · rw [if_neg k1]; simp [k1]
/-- pairs of choices at rest -/
def rsk (c l1 l2 : Bool) (k : Nat) : Bool := (!decide (gn c l1 (nI (k / 2)) (nI (k % 2)) < gn c l1 (1 - nI (k / 2)) (nI (k % 2)))) && (!decide (gn c l2 (nI (k % 2)) (nI (k / 2)) < gn c l2 (1 - nI (k % 2)) (nI (k / 2))))
theorem q_rests (B : Base h n m) (p q j w : Int32) : Both (f_X4_rests h p q j w) (f_X5_rests h p q j w) := by
  obtain ⟨H, hF, hn, hm⟩ := B
  have h6 := H.1.2.2.1
  have h4 := H.1.2.2.2
  unfold f_X4_rests f_X5_rests
  rw [C_isPerson H, M_isPerson hn h6, bd_s, bd_s]
  rcases nI_rg p n (by omega) with hz | ⟨p, hp, rfl⟩
  · rw [hz]; exact ⟨_, rfl, rfl⟩
  rw [inB_nI hp (by omega), if_pos rfl, if_pos rfl, C_isPerson H, M_isPerson hn h6, bd_s, bd_s]
  rcases nI_rg q n (by omega) with hz | ⟨q, hq, rfl⟩
  · rw [hz]; exact ⟨_, rfl, rfl⟩
  rw [inB_nI hq (by omega), if_pos rfl, if_pos rfl, C_isMatter H, M_isMatter hm h4, bd_s, bd_s]
  rcases nI_rg j m (by omega) with hz | ⟨j, hj, rfl⟩
  · rw [hz]; exact ⟨_, rfl, rfl⟩
  rw [inB_nI hj (by omega), if_pos rfl, if_pos rfl]
  by_cases hpq : nI p = nI q
  · rw [if_pos hpq, if_pos hpq]; exact ⟨_, rfl, rfl⟩
  have hpq' : p ≠ q := fun e => hpq (by rw [e])
  rw [if_neg hpq, if_neg hpq, in_n h w 1 (t := 1) (by decide), bd_s]
  rcases nI_rg2 w 2 (by omega) with hz | ⟨t, ht, rfl⟩
  · rw [inB_out hz, if_neg (show ¬ false = true by decide)]
    by_cases c1 : w < 0
    · rw [if_pos c1]; exact ⟨_, rfl, rfl⟩
    · rw [if_neg c1]
      by_cases c2 : (1 : Int32) < w
      · rw [if_pos c2]; exact ⟨_, rfl, rfl⟩
      · rw [Int32.lt_iff_toInt_lt, Int32.toInt_zero] at c1
        rw [Int32.lt_iff_toInt_lt, show (1 : Int32).toInt = 1 by decide] at c2
        omega
  rw [inB_nI ht (by omega), if_neg (nI_pos (by omega)), one_nI, if_neg (nI_nlt (by omega) (by omega)), ← one_nI]
  have eb := M_isBy hn h6 (lv := 0) (by omega) (show j < 4 by omega) ((1 <<< (nI p &&& 31)) ||| (1 <<< (nI q &&& 31)))
  rw [nI_0, HC_pair _ h6 hp hq hpq'] at eb
  rw [eb, bd_s, if_pos rfl]
  generalize hc : (cp (lvf h 0) j p q || cp (lvf h 0) j q p) = c
  have hc2 : (cp (lvf h 0) j q p || cp (lvf h 0) j p q) = c := by rw [← hc, Bool.or_comm]
  have g1 := fun own oth => C_gain H hF hp hq hj own oth
  have g2 := fun own oth => C_gain H hF hq hp hj own oth
  rw [hc] at g1
  rw [hc2] at g2
  have g3 := fun own oth => M_gain (h := h) (show p < 6 by omega) c own oth
  have g4 := fun own oth => M_gain (h := h) (show q < 6 by omega) c own oth
  generalize decide (lvf h 0 (1 + p) = 1) = l1 at g1 g3
  generalize decide (lvf h 0 (1 + q) = 1) = l2 at g2 g4
  refine both_i (if nI t = 0 then nI (cN (rsk c l1 l2) 4) else fsN (rsk c l1 l2) (fun k => 10 * nI (k / 2) + nI (k % 2)) 4) ?_ ?_
  · refine fin3 (fun k => nI (cN (rsk c l1 l2) k)) (fun k => fsN (rsk c l1 l2) (fun k => 10 * nI (k / 2) + nI (k % 2)) k) (fun k => nI k) 4 (fun rec k hk => ?_) (fun rec => ?_) 400 0 (by omega) (by omega)
    · rw [L4, if_pos (nI_lt hk (by omega)), L2, dvN (by omega) (by omega) (by omega), rmN (by omega) (by omega) (by omega), bd_s, bd_s]
      unfold f_X4_isContent
      simp only [g1, g2, bd_s, jn_e, nI_p1]
      have c1 : cN (rsk c l1 l2) (k + 1) = if rsk c l1 l2 k = true then cN (rsk c l1 l2) k + 1 else cN (rsk c l1 l2) k := rfl
      have c3 : fsN (rsk c l1 l2) (fun k => 10 * nI (k / 2) + nI (k % 2)) (k + 1) = if rsk c l1 l2 k = true then (if nI (cN (rsk c l1 l2) k) = 0 then 10 * nI (k / 2) + nI (k % 2) else fsN (rsk c l1 l2) (fun k => 10 * nI (k / 2) + nI (k % 2)) k) else fsN (rsk c l1 l2) (fun k => 10 * nI (k / 2) + nI (k % 2)) k := rfl
      rw [c1, c3]
      have er : rsk c l1 l2 k = ((!decide (gn c l1 (nI (k / 2)) (nI (k % 2)) < gn c l1 (1 - nI (k / 2)) (nI (k % 2)))) && (!decide (gn c l2 (nI (k % 2)) (nI (k / 2)) < gn c l2 (1 - nI (k % 2)) (nI (k / 2))))) := rfl
      by_cases x1 : gn c l1 (nI (k / 2)) (nI (k % 2)) < gn c l1 (1 - nI (k / 2)) (nI (k % 2))
      · have hr : ¬ rsk c l1 l2 k = true := by rw [er]; simp [x1]
        rw [if_pos x1, bd_s, if_neg (by decide), if_neg hr, if_neg hr]
      · rw [if_neg x1, bd_s, if_pos rfl]
        by_cases x2 : gn c l2 (nI (k % 2)) (nI (k / 2)) < gn c l2 (1 - nI (k % 2)) (nI (k / 2))
        · have hr : ¬ rsk c l1 l2 k = true := by rw [er]; simp [x2]
          rw [if_pos x2, bd_s, if_neg (by decide), if_neg hr, if_neg hr]
        · have hr : rsk c l1 l2 k = true := by rw [er]; simp [x1, x2]
          rw [if_neg x2, bd_s, if_pos rfl, if_pos hr, if_pos hr]
          by_cases z : nI (cN (rsk c l1 l2) k) = 0
          · rw [if_pos z, if_pos z]
          · rw [if_neg z, if_neg z]
    · rw [L4, if_neg (nI_nlt (Nat.le_refl _) (by omega))]
      by_cases z : nI t = 0
      · rw [if_pos z, if_pos z]
      · rw [if_neg z, if_neg z]
  · refine fin3 (fun k => nI (cN (rsk c l1 l2) k)) (fun k => fsN (rsk c l1 l2) (fun k => 10 * nI (k / 2) + nI (k % 2)) k) (fun k => nI k) 4 (fun rec k hk => ?_) (fun rec => ?_) 400 0 (by omega) (by omega)
    · rw [L4, if_pos (nI_lt hk (by omega)), L2, dvN (by omega) (by omega) (by omega), rmN (by omega) (by omega) (by omega), bd_s, bd_s]
      simp only [g3, g4, bd_s, jn_e, nI_p1, Lt_e]
      have c1 : cN (rsk c l1 l2) (k + 1) = if rsk c l1 l2 k = true then cN (rsk c l1 l2) k + 1 else cN (rsk c l1 l2) k := rfl
      have c3 : fsN (rsk c l1 l2) (fun k => 10 * nI (k / 2) + nI (k % 2)) (k + 1) = if rsk c l1 l2 k = true then (if nI (cN (rsk c l1 l2) k) = 0 then 10 * nI (k / 2) + nI (k % 2) else fsN (rsk c l1 l2) (fun k => 10 * nI (k / 2) + nI (k % 2)) k) else fsN (rsk c l1 l2) (fun k => 10 * nI (k / 2) + nI (k % 2)) k := rfl
      rw [c1, c3]
      have hx : ∀ x : Int32, x + 0 = x := Int32.add_zero
      have er : rsk c l1 l2 k = ((!decide (gn c l1 (nI (k / 2)) (nI (k % 2)) < gn c l1 (1 - nI (k / 2)) (nI (k % 2)))) && (!decide (gn c l2 (nI (k % 2)) (nI (k / 2)) < gn c l2 (1 - nI (k % 2)) (nI (k / 2))))) := rfl
      by_cases x1 : gn c l1 (nI (k / 2)) (nI (k % 2)) < gn c l1 (1 - nI (k / 2)) (nI (k % 2))
      · have hr : ¬ rsk c l1 l2 k = true := by rw [er]; simp [x1]
        rw [if_pos x1, if_pos True.intro, if_pos True.intro, if_neg hr, if_neg hr, hx]
      · rw [if_neg x1]
        by_cases x2 : gn c l2 (nI (k % 2)) (nI (k / 2)) < gn c l2 (1 - nI (k % 2)) (nI (k / 2))
        · have hr : ¬ rsk c l1 l2 k = true := by rw [er]; simp [x2]
          rw [if_pos x2, if_pos True.intro, if_pos True.intro, if_neg hr, if_neg hr, hx]
        · have hr : rsk c l1 l2 k = true := by rw [er]; simp [x1, x2]
          rw [if_neg x2, if_neg (show ¬ (1 : Int32) = 0 by decide), if_neg (show ¬ (1 : Int32) = 0 by decide), if_pos hr, if_pos hr]
          by_cases z : nI (cN (rsk c l1 l2) k) = 0
          · rw [if_pos z, if_pos z]
          · rw [if_neg z, if_neg z, if_neg (show ¬ (1 : Int32) = 0 by decide)]
    · rw [L4, if_neg (nI_nlt (Nat.le_refl _) (by omega))]
      by_cases z : nI t = 0
      · rw [if_pos z, if_pos z]
      · rw [if_neg z, if_neg z]
end SETS
