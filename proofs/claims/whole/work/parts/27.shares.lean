/-! counting bits in Nat; the greatest common divisor; shares and chances -/
def pN (x : Int32) : Nat := cN (bt x) 6
theorem popF_cN (x : Int32) : ∀ k, k ≤ 32 → popF x k = nI (cN (bt x) k)
  | 0, _ => rfl
  | k + 1, hk => by
    unfold popF cN
    rw [popF_cN x k (by omega), bt_get x (by omega)]
    by_cases z : bt x k = true
    · rw [if_pos z, z, b2i_t, nI_p1]
    · have z' : bt x k = false := by simpa using z
      rw [if_neg z, z', b2i_f, Int32.add_zero]
theorem pop_pN (x : Int32) : pop x = nI (pN x) := popF_cN x 6 (by omega)
theorem pN_le (x : Int32) : pN x ≤ 6 := cN_le _ 6
theorem cN_mono {g g' : Nat → Bool} (h : ∀ i, g i = true → g' i = true) : ∀ k, cN g k ≤ cN g' k
  | 0 => Nat.le_refl _
  | k + 1 => by
    have := cN_mono h k
    unfold cN
    by_cases z : g k = true
    · rw [if_pos z, if_pos (h k z)]; omega
    · rw [if_neg z]; split <;> omega
theorem pN_mono {x y : Int32} (h : ∀ i, bt x i = true → bt y i = true) : pN x ≤ pN y := cN_mono h 6
theorem ne0_bit {x : Int32} (h : x ≠ 0) : ∃ i, bt x i = true := by
  by_cases q : ∃ i, bt x i = true
  · exact q
  · exact absurd (bt_ext fun i _ => by
      rw [bt_0]
      cases z : bt x i
      · rfl
      · exact absurd ⟨i, z⟩ q) h
theorem ne0_mono {x y : Int32} (h : ∀ i, bt x i = true → bt y i = true) (hx : x ≠ 0) : y ≠ 0 := by
  obtain ⟨i, hi⟩ := ne0_bit hx
  intro e
  have := h i hi
  rw [e, bt_0] at this
  cases this
theorem HC_mono (f : Nat → Int32) (n j : Nat) (s b : Int32) (h : HC f n j s = true) : HC f n j (s ||| b) = true := by
  unfold HC hc at h ⊢
  simp only [Bool.and_eq_true, decide_eq_true_eq] at h ⊢
  obtain ⟨h1, h2, h3⟩ := h
  have m1 : ∀ (L : Int32) i, bt (L &&& s) i = true → bt (L &&& (s ||| b)) i = true := fun L i z => by
    rw [bt_and, Bool.and_eq_true] at z
    rw [bt_and, bt_or, z.1, z.2]
    rfl
  refine ⟨ne0_mono (m1 _) h1, ne0_mono (m1 _) h2, ?_⟩
  rw [pop_pN, one_nI] at h3 ⊢
  have e1 := pN_le ((mkk (se f 0 j) n &&& s) ||| (mkk (se f 1 j) n &&& s))
  have e2 := pN_le ((mkk (se f 0 j) n &&& (s ||| b)) ||| (mkk (se f 1 j) n &&& (s ||| b)))
  rw [nI_ltI (by omega) (by omega)] at h3 ⊢
  refine Nat.lt_of_lt_of_le h3 (pN_mono fun i z => ?_)
  rw [bt_or, Bool.or_eq_true] at z ⊢
  rcases z with z | z
  · exact Or.inl (m1 _ i z)
  · exact Or.inr (m1 _ i z)
theorem KN_mono (f : Nat → Int32) {n m : Nat} (h4 : m ≤ 4) (s b : Int32) : pN (KN f n m s) ≤ pN (KN f n m (s ||| b)) := by
  refine pN_mono fun i z => ?_
  unfold KN at z ⊢
  rw [bt_mkk _ m (by omega), Bool.and_eq_true] at z ⊢
  exact ⟨z.1, HC_mono f n i s b z.2⟩
theorem small_KN (f : Nat → Int32) {n m : Nat} (h4 : m ≤ 4) (s : Int32) : small (KN f n m s) := small_mkk _ (by omega)
theorem half_mod {x y k : Nat} (hy : 0 < y) (h : y < 2 ^ (k + 1)) (hr : 0 < x % y) : y % (x % y) < 2 ^ k := by
  have h1 : x % y < y := Nat.mod_lt _ hy
  rw [Nat.pow_succ] at h
  have h2 : y % (x % y) < x % y := Nat.mod_lt _ hr
  by_cases q : 2 * (x % y) ≤ y
  · omega
  · have : y % (x % y) = y - x % y := by
      rw [Nat.mod_eq_sub_mod (by omega), Nat.mod_eq_of_lt (by omega)]
    omega
theorem gcd_st (x y : Nat) : Nat.gcd x y = Nat.gcd y (x % y) := by
  rw [Nat.gcd_comm x y, Nat.gcd_rec, Nat.gcd_comm]
theorem gcd_M (body : (Int32 → Int32 → Option Int32) → Int32 → Int32 → Option Int32) (hb : ∀ rec x y, x < 2 ^ 31 → y < 2 ^ 31 → body rec (nI x) (nI y) = if y = 0 then some (nI x) else rec (nI y) (nI (x % y))) : ∀ (k f x y : Nat), k ≤ 31 → x < 2 ^ 31 → y < 2 ^ k → 2 * k + 1 ≤ f → loop2 body f (nI x) (nI y) = some (nI (Nat.gcd x y)) := by
  intro k
  induction k with
  | zero =>
    intro f x y _ hx hy hf
    obtain ⟨f, rfl⟩ : ∃ f', f = f' + 1 := ⟨f - 1, by omega⟩
    have hy0 : y = 0 := by simp at hy; omega
    subst hy0
    show body (loop2 body f) (nI x) (nI 0) = _
    rw [hb _ x 0 hx (by omega), if_pos rfl, Nat.gcd_zero_right]
  | succ k ih =>
    intro f x y hk hx hy hf
    have h31 : 2 ^ (k + 1) ≤ 2 ^ 31 := Nat.pow_le_pow_right (by omega) hk
    obtain ⟨f, rfl⟩ : ∃ f', f = f' + 1 + 1 := ⟨f - 2, by omega⟩
    show body (loop2 body (f + 1)) (nI x) (nI y) = _
    rw [hb _ x y hx (by omega)]
    by_cases y0 : y = 0
    · rw [if_pos y0, y0, Nat.gcd_zero_right]
    · have hm := Nat.mod_lt x (show 0 < y by omega)
      rw [if_neg y0]
      show body (loop2 body f) (nI y) (nI (x % y)) = _
      rw [hb _ y (x % y) (by omega) (by omega), gcd_st x y]
      by_cases r0 : x % y = 0
      · rw [if_pos r0, r0, Nat.gcd_zero_right]
      · rw [if_neg r0, gcd_st y (x % y)]
        have h2 := half_mod (show 0 < y by omega) hy (show 0 < x % y by omega)
        exact ih f (x % y) (y % (x % y)) (by omega) (by omega) h2 (by omega)
theorem gcd_C {R : Type} (fin : Int32 → Option R) (body : (Int32 → Int32 → Int32 → Option R) → Int32 → Int32 → Int32 → Option R) (hb : ∀ rec x y t, x < 2 ^ 31 → y < 2 ^ 31 → t < 100 → body rec (nI x) (nI y) (nI t) = if y = 0 then fin (nI x) else rec (nI y) (nI (x % y)) (nI (t + 1))) : ∀ (k f x y t : Nat), k ≤ 31 → x < 2 ^ 31 → y < 2 ^ k → 2 * k + 1 ≤ f → t + (2 * k + 1) ≤ 100 → loop3 body f (nI x) (nI y) (nI t) = fin (nI (Nat.gcd x y)) := by
  intro k
  induction k with
  | zero =>
    intro f x y t _ hx hy hf ht
    obtain ⟨f, rfl⟩ : ∃ f', f = f' + 1 := ⟨f - 1, by omega⟩
    have hy0 : y = 0 := by simp at hy; omega
    subst hy0
    show body (loop3 body f) (nI x) (nI 0) (nI t) = _
    rw [hb _ x 0 t hx (by omega) (by omega), if_pos rfl, Nat.gcd_zero_right]
  | succ k ih =>
    intro f x y t hk hx hy hf ht
    have h31 : 2 ^ (k + 1) ≤ 2 ^ 31 := Nat.pow_le_pow_right (by omega) hk
    obtain ⟨f, rfl⟩ : ∃ f', f = f' + 1 + 1 := ⟨f - 2, by omega⟩
    show body (loop3 body (f + 1)) (nI x) (nI y) (nI t) = _
    rw [hb _ x y t hx (by omega) (by omega)]
    by_cases y0 : y = 0
    · rw [if_pos y0, y0, Nat.gcd_zero_right]
    · have hm := Nat.mod_lt x (show 0 < y by omega)
      rw [if_neg y0]
      show body (loop3 body f) (nI y) (nI (x % y)) (nI (t + 1)) = _
      rw [hb _ y (x % y) (t + 1) (by omega) (by omega) (by omega), gcd_st x y]
      by_cases r0 : x % y = 0
      · rw [if_pos r0, r0, Nat.gcd_zero_right]
      · rw [if_neg r0, gcd_st y (x % y)]
        have h2 := half_mod (show 0 < y by omega) hy (show 0 < x % y by omega)
        exact ih f (x % y) (y % (x % y)) (t + 1 + 1) (by omega) (by omega) h2 (by omega) (by omega)
theorem M_common (h : HS) {a b : Nat} (ha : a < 2 ^ 31) (hb : b < 2 ^ 31) : f_X5_common h (nI a) (nI b) = some (nI (Nat.gcd a b)) := by
  unfold f_X5_common
  simp only [jn_e]
  rw [if_neg (nI_pos ha)]
  refine gcd_M _ (fun rec x y hx hy => ?_) 31 400 a b (by omega) ha hb (by omega)
  by_cases y0 : y = 0
  · rw [if_pos y0, y0, nI_0, if_pos rfl]
  · rw [if_neg y0, if_neg (nI_ne0 (by omega) hy), rmN hx (by omega) hy, bd_s]
theorem L100 : (100 : Int32) = nI 100 := by decide +kernel
theorem X4_least (h : HS) {a b : Nat} (ha : a < 2 ^ 31) (hb : b < 2 ^ 31) (h0 : 0 < b) (u : Int32) : f_X4_inLeastTerms h (nI a) (nI b) u = (if u = 0 then dv (nI b) (nI (Nat.gcd a b)) else dv (nI a) (nI (Nat.gcd a b))) := by
  have hg : 0 < Nat.gcd b a := Nat.gcd_pos_of_pos_left _ h0
  have hgl : Nat.gcd b a ≤ b := Nat.le_of_dvd h0 (Nat.gcd_dvd_left b a)
  unfold f_X4_inLeastTerms
  have key := gcd_C (fun c => jn (fun (t8 : Int32) => if c = 0 then (some t8) else (bd (dv t8 c) fun r11 => some r11)) (fun j9 => if u = 0 then (j9 (nI b)) else (j9 (nI a)))) (fun rec4 (i1 : Int32) (i2 : Int32) (i3 : Int32) => jn (jn (fun (t8 : Int32) => if i1 = 0 then (some t8) else (bd (dv t8 i1) fun r11 => some r11)) (fun j9 => if u = 0 then (j9 (nI b)) else (j9 (nI a)))) (fun j6 => if i3 < 100 then (if i2 = 0 then (j6) else (bd (rm i1 i2) fun r12 => rec4 i2 r12 (i3 + 1))) else (j6))) (fun rec x y t hx hy ht => by
      simp only [jn_e]
      rw [L100, if_pos (nI_lt ht (by omega))]
      by_cases y0 : y = 0
      · rw [if_pos y0, y0, nI_0, if_pos rfl]
      · rw [if_neg y0, if_neg (nI_ne0 (by omega) hy), rmN hx (by omega) hy, bd_s, nI_p1]) 31 400 b a 0 (by omega) hb ha (by omega) (by omega)
  refine Eq.trans key ?_
  simp only [jn_e]
  rw [if_neg (nI_ne0 hg (by omega)), if_neg (nI_ne0 hg (by omega)), Nat.gcd_comm a b]
  have e : ∀ x : Int32, (bd (dv x (nI (Nat.gcd b a))) fun r11 => some r11) = dv x (nI (Nat.gcd b a)) := fun x => by
    cases dv x (nI (Nat.gcd b a)) <;> rfl
  rw [e, e]
/-! shares -/
def fct : Nat → Nat
  | 0 => 1
  | k + 1 => (k + 1) * fct k
theorem M_fct0 : ∀ k, k < 7 → f_X5_factorial hs0 (nI k) = some (nI (fct k)) := by decide +kernel
theorem M_fct (h : HS) {k : Nat} (hk : k < 7) : f_X5_factorial h (nI k) = some (nI (fct k)) := M_fct0 k hk
theorem C_fct (h : HS) {k : Nat} (hk : k < 7) : f_X4_factorial h (nI k) = some (nI (fct k)) := M_fct0 k hk
theorem fct_le : ∀ k, k < 7 → 0 < fct k ∧ fct k ≤ 720 := by decide
theorem pN_wo : ∀ n, n < 7 → ∀ p, p < n → ∀ i, i < 2 ^ n → bt (nI i) p = false → pN (nI i) ≤ n - 1 := by decide +kernel
theorem pN_in : ∀ n, n < 7 → ∀ i, i < 2 ^ n → pN (nI i) ≤ n := by decide +kernel
section SHARE
variable {h : HS} {n m : Nat}
/-- the sum of a share, in Nat -/
def shN (f : Nat → Int32) (n m p : Nat) : Nat → Nat
  | 0 => 0
  | i + 1 => if bt (nI i) p = true then shN f n m p i else shN f n m p i + fct (pN (nI i)) * fct (n - 1 - pN (nI i)) * (pN (KN f n m (nI i ||| (1 <<< (nI p &&& 31)))) - pN (KN f n m (nI i)))
theorem shN_le (f : Nat → Int32) {n m p : Nat} (hn : n ≤ 6) : ∀ i, shN f n m p i ≤ 3110400 * i
  | 0 => Nat.le_refl _
  | i + 1 => by
    have := shN_le f (n := n) (m := m) (p := p) hn i
    unfold shN
    split
    · omega
    · have h1 := (fct_le (pN (nI i)) (by have := pN_le (nI i); omega)).2
      have h2 := (fct_le (n - 1 - pN (nI i)) (by omega)).2
      have h3 : pN (KN f n m (nI i ||| (1 <<< (nI p &&& 31)))) - pN (KN f n m (nI i)) ≤ 6 := by
        have := pN_le (KN f n m (nI i ||| (1 <<< (nI p &&& 31))))
        omega
      have h4 := Nat.mul_le_mul (Nat.mul_le_mul h1 h2) h3
      omega
theorem q_share (B : Base h n m) (p u : Int32) : Both (f_X4_share h p u) (f_X5_share h p u) := by
  obtain ⟨H, hF, hn, hm⟩ := B
  have h6 := H.1.2.2.1
  have h4 := H.1.2.2.2
  obtain ⟨p1, p2⟩ := all_nI h6
  unfold f_X4_share f_X5_share
  rw [C_isPerson H, M_isPerson hn h6, bd_s, bd_s]
  rcases nI_rg p n (by omega) with hz | ⟨p, hp, rfl⟩
  · rw [hz]; exact ⟨_, rfl, rfl⟩
  rw [inB_nI hp (by omega), if_pos rfl, if_pos rfl]
  have hle := shN_le (lvf h 0) (m := m) (p := p) h6 (2 ^ n)
  have hf := fct_le n (by omega)
  have hg : 0 < Nat.gcd (shN (lvf h 0) n m p (2 ^ n)) (fct n) := Nat.gcd_pos_of_pos_right _ hf.1
  have hgl : Nat.gcd (shN (lvf h 0) n m p (2 ^ n)) (fct n) ≤ fct n := Nat.le_of_dvd hf.1 (Nat.gcd_dvd_right _ _)
  have hd : ∀ x, x < 2 ^ 31 → dv (nI x) (nI (Nat.gcd (shN (lvf h 0) n m p (2 ^ n)) (fct n))) = some (nI (x / Nat.gcd (shN (lvf h 0) n m p (2 ^ n)) (fct n))) := fun x hx => dvN hx hg (by omega)
  have hb : ∀ i, i < 2 ^ n → bt (nI i) p = false → ((nI n - 1) - nI (pN (nI i))) = nI (n - 1 - pN (nI i)) := fun i hi hz => by
    have := pN_wo n (by omega) p hp i hi hz
    rw [show nI n - 1 = nI (n - 1) by rw [one_nI]; exact nI_sub (by omega), nI_sub this]
  refine both_i (if u = 0 then nI (fct n / Nat.gcd (shN (lvf h 0) n m p (2 ^ n)) (fct n)) else nI (shN (lvf h 0) n m p (2 ^ n) / Nat.gcd (shN (lvf h 0) n m p (2 ^ n)) (fct n))) ?_ ?_
  · rw [C_everybody H, bd_s]
    simp only [Lt_e]
    refine fin2 (fun i => nI (shN (lvf h 0) n m p i)) (fun i => nI i) (2 ^ n) (fun rec i hi => ?_) (fun rec => ?_) 400 0 (by omega) (by omega)
    · rw [if_neg (nI_nlt (by omega) (by omega))]
      simp only [jn_e, nI_p1]
      show _ = rec (nI (if bt (nI i) p = true then shN (lvf h 0) n m p i else shN (lvf h 0) n m p i + fct (pN (nI i)) * fct (n - 1 - pN (nI i)) * (pN (KN (lvf h 0) n m (nI i ||| (1 <<< (nI p &&& 31)))) - pN (KN (lvf h 0) n m (nI i))))) _
      by_cases z : bt (nI i) p = true
      · rw [if_pos z, if_neg (fun q => by rw [(and_bit _ (by omega)).mp q] at z; cases z)]
      · have z' : bt (nI i) p = false := by simpa using z
        rw [if_neg z, if_pos ((and_bit _ (by omega)).mpr z'), C_knowable H, C_knowable H]
        unfold f_X4_ordersWithAhead
        rw [bd_s, C_bitCount h (small_KN _ h4 _), bd_s, bd_s, C_bitCount h (small_KN _ h4 _), bd_s, C_bitCount h (small_nI (by omega)), bd_s, H.1.1, pop_pN, pop_pN, pop_pN, hb i hi z', C_fct h (by have := pN_le (nI i); omega), C_fct h (by omega), bd_s, bd_s, bd_s, nI_sub (KN_mono _ h4 _ _), pk_mul, pk_mul, nI_add, Nat.mul_comm (pN _ - pN _)]
    · rw [if_pos (nI_lt (by omega) (by omega)), H.1.1, C_fct h (by omega), bd_s, X4_least h (by omega) (by omega) hf.1 u, hd _ (by omega), hd _ (by omega)]
      by_cases z : u = 0
      · rw [if_pos z, if_pos z]; rfl
      · rw [if_neg z, if_neg z]; rfl
  · have ev := M_every hn h6
    have ec := fun s => M_canBe hn h6 hm h4 (lv := 0) (by omega) s
    rw [nI_0] at ec
    refine fin2 (fun i => nI (shN (lvf h 0) n m p i)) (fun i => nI i) (2 ^ n) (fun rec i hi => ?_) (fun rec => ?_) 400 0 (by omega) (by omega)
    · rw [ev, bd_s, if_neg (nI_nlt (by omega) (by omega)), M_has h _ (by omega), bd_s]
      simp only [jn_e, nI_p1, ec, M_ones, bd_s, Lt_e]
      show _ = rec (nI (if bt (nI i) p = true then shN (lvf h 0) n m p i else shN (lvf h 0) n m p i + fct (pN (nI i)) * fct (n - 1 - pN (nI i)) * (pN (KN (lvf h 0) n m (nI i ||| (1 <<< (nI p &&& 31)))) - pN (KN (lvf h 0) n m (nI i))))) _
      by_cases z : bt (nI i) p = true
      · rw [if_pos z, if_pos z]
      · have z' : bt (nI i) p = false := by simpa using z
        rw [if_neg z, if_neg z, hn, pop_pN, pop_pN, pop_pN, hb i hi z', M_fct h (by have := pN_le (nI i); omega), M_fct h (by omega), bd_s, bd_s, nI_sub (KN_mono _ h4 _ _), pk_mul, pk_mul, nI_add]
    · rw [ev, bd_s, if_pos (nI_lt (by omega) (by omega)), hn, M_fct h (by omega), bd_s, M_common h (by omega) (by omega), bd_s, hd _ (by omega), bd_s, hd _ (by omega)]
      by_cases z : u = 0
      · rw [if_pos z, if_pos z]; rfl
      · rw [if_neg z, if_neg z]; rfl
/-! chances -/
theorem X4_pw (h : HS) (x : Nat) {k : Nat} (hk : k < 300) : f_X4_power h (nI x) (nI k) = some (nI (x ^ k)) := by
  unfold f_X4_power
  refine fin2 (fun i => nI (x ^ i)) (fun i => nI i) k (fun rec i hi => ?_) (fun rec => ?_) 400 0 (by omega) (by omega)
  · rw [if_pos (nI_lt hi (by omega)), pk_mul, Nat.pow_succ]
    simp only [Lt_e, nI_p1]
  · rw [if_neg (nI_nlt (Nat.le_refl _) (by omega))]
theorem X5_pw (h : HS) (x : Nat) {k : Nat} (hk : k < 300) : f_X5_power h (nI x) (nI k) = some (nI (x ^ k)) := X4_pw h x hk
def wt (x n i : Nat) : Nat := x ^ pN (nI i) * (10 - x) ^ (n - pN (nI i))
def alN (x n : Nat) : Nat → Nat
  | 0 => 0
  | i + 1 => alN x n i + wt x n i
def soN (g : Nat → Bool) (x n : Nat) : Nat → Nat
  | 0 => 0
  | i + 1 => soN g x n i + (if g i = true then wt x n i else 0)
theorem al_all : ∀ n, n < 7 → ∀ x, x < 11 → alN x n (2 ^ n) = 10 ^ n := by decide +kernel
theorem al_mono (x n : Nat) : ∀ d i, alN x n i ≤ alN x n (i + d)
  | 0, _ => Nat.le_refl _
  | d + 1, i => Nat.le_trans (al_mono x n d i) (Nat.le_add_right _ _)
theorem so_al (g : Nat → Bool) (x n : Nat) : ∀ i, soN g x n i ≤ alN x n i
  | 0 => Nat.le_refl _
  | i + 1 => by
    have := so_al g x n i
    unfold soN alN
    split <;> omega
theorem in_n10 (h : HS) (p : Int32) : f_X5_in h (Int32.toInt64 p) 0 10 = some (inB p 11) := in_n h p 10 (t := 10) (by decide)
theorem q_come (B : Base h n m) (j x u : Int32) : Both (f_X4_come h j x u) (f_X5_come h j x u) := by
  obtain ⟨H, hF, hn, hm⟩ := B
  have h6 := H.1.2.2.1
  have h4 := H.1.2.2.2
  obtain ⟨p1, p2⟩ := all_nI h6
  unfold f_X4_come f_X5_come
  rw [C_isMatter H, M_isMatter hm h4, bd_s, bd_s]
  rcases nI_rg j m (by omega) with hz | ⟨j, hj, rfl⟩
  · rw [hz]; exact ⟨_, rfl, rfl⟩
  rw [inB_nI hj (by omega), if_pos rfl, if_pos rfl, in_n10, bd_s]
  rcases nI_rg2 x 11 (by omega) with hz | ⟨x, hx, rfl⟩
  · rw [inB_out hz, if_neg (show ¬ false = true by decide)]
    by_cases c1 : x < 0
    · rw [if_pos c1]; exact ⟨_, rfl, rfl⟩
    · rw [if_neg c1]
      by_cases c2 : (10 : Int32) < x
      · rw [if_pos c2]; exact ⟨_, rfl, rfl⟩
      · rw [Int32.lt_iff_toInt_lt, Int32.toInt_zero] at c1
        rw [Int32.lt_iff_toInt_lt, show (10 : Int32).toInt = 10 by decide] at c2
        omega
  rw [inB_nI hx (by omega), if_pos rfl, if_neg (nI_pos (by omega)), L10, if_neg (nI_nlt (by omega) (by omega)), ← L10]
  generalize hg : (fun i => HC (lvf h 0) n j (nI i)) = g
  have eg : ∀ i, HC (lvf h 0) n j (nI i) = g i := fun i => by rw [← hg]
  have hall := al_all n (by omega) x hx
  have h10 : 10 ^ n ≤ 1000000 := Nat.pow_le_pow_right (n := 10) (by omega) h6
  have h10p : 0 < 10 ^ n := Nat.pow_pos (by omega)
  have hso := so_al g x n (2 ^ n)
  have hgp : 0 < Nat.gcd (soN g x n (2 ^ n)) (10 ^ n) := Nat.gcd_pos_of_pos_right _ h10p
  have hgl : Nat.gcd (soN g x n (2 ^ n)) (10 ^ n) ≤ 10 ^ n := Nat.le_of_dvd h10p (Nat.gcd_dvd_right _ _)
  have hd : ∀ y, y < 2 ^ 31 → dv (nI y) (nI (Nat.gcd (soN g x n (2 ^ n)) (10 ^ n))) = some (nI (y / Nat.gcd (soN g x n (2 ^ n)) (10 ^ n))) := fun y hy => dvN hy hgp (by omega)
  have ew : ∀ i, i < 2 ^ n → (10 - nI x = nI (10 - x)) ∧ nI n - nI (pN (nI i)) = nI (n - pN (nI i)) := fun i hi => ⟨by rw [L10]; exact nI_sub (by omega), nI_sub (pN_in n (by omega) i hi)⟩
  refine both_i (if u = 0 then nI (10 ^ n / Nat.gcd (soN g x n (2 ^ n)) (10 ^ n)) else nI (soN g x n (2 ^ n) / Nat.gcd (soN g x n (2 ^ n)) (10 ^ n))) ?_ ?_
  · rw [C_everybody H, bd_s]
    refine fin2 (fun i => nI (soN g x n i)) (fun i => nI i) (2 ^ n) (fun rec i hi => ?_) (fun rec => ?_) 400 0 (by omega) (by omega)
    · obtain ⟨w1, w2⟩ := ew i hi
      have hpn := pN_le (nI i)
      rw [if_neg (nI_nlt (by omega) (by omega)), C_hasCouple H hj, eg, bd_s]
      simp only [jn_e, nI_p1, Lt_e]
      show _ = rec (nI (soN g x n i + (if g i = true then wt x n i else 0))) _
      by_cases z : g i = true
      · rw [if_pos z, if_pos z, C_bitCount h (small_nI (by omega)), bd_s, pop_pN, X4_pw h x (by omega), bd_s, H.1.1, w1, w2, X4_pw h _ (by omega), bd_s, pk_mul, nI_add]
        rfl
      · rw [if_neg z, if_neg z]
        rfl
    · rw [if_pos (nI_lt (by omega) (by omega)), H.1.1, L10, X4_pw h 10 (by omega), bd_s, X4_least h (by omega) (by omega) h10p u, hd _ (by omega), hd _ (by omega)]
      by_cases z : u = 0
      · rw [if_pos z, if_pos z]; rfl
      · rw [if_neg z, if_neg z]; rfl
  · have ev := M_every hn h6
    have ec := fun s => M_isBy hn h6 (lv := 0) (by omega) (show j < 4 by omega) s
    rw [nI_0] at ec
    refine fin3 (fun i => nI (soN g x n i)) (fun i => nI (alN x n i)) (fun i => nI i) (2 ^ n) (fun rec i hi => ?_) (fun rec => ?_) 400 0 (by omega) (by omega)
    · obtain ⟨w1, w2⟩ := ew i hi
      have hpn := pN_le (nI i)
      rw [ev, bd_s, if_neg (nI_nlt (by omega) (by omega)), M_ones, bd_s, pop_pN, X5_pw h x (by omega), bd_s, bd_s, hn, w1, w2, X5_pw h _ (by omega), bd_s]
      simp only [jn_e, nI_p1, Lt_e, ec, bd_s, eg, pk_mul, nI_add]
      show _ = rec (nI (soN g x n i + (if g i = true then wt x n i else 0))) (nI (alN x n i + wt x n i)) _
      by_cases z : g i = true
      · rw [if_pos z, if_pos z]
        rfl
      · rw [if_neg z, if_neg z, Nat.add_zero, Int32.add_zero]
        rfl
    · rw [ev, bd_s, if_pos (nI_lt (by omega) (by omega)), hall, M_common h (by omega) (by omega), bd_s, hd _ (by omega), hd _ (by omega)]
      by_cases z : u = 0
      · rw [if_pos z, if_pos z]; rfl
      · rw [if_neg z, if_neg z]; rfl
end SHARE
