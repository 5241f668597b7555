/-! a Court of the program, told by 23 ints and the halves -/
def CR (h : HS) (a : Nat) (f hl : Nat → Int32) (n m : Nat) : Prop :=
  (h.1 a 0 = nI n ∧ h.1 a 1 = nI m ∧ n ≤ 6 ∧ m ≤ 4) ∧ h.1 a 2 = f 0 ∧
  (∀ p, p < n → bt (h.1 a 3) p = decide (f (1 + p) = 1) ∧ bt (h.1 a 4) p = decide (f (1 + p) = 2) ∧ bt (h.1 a 5) p = decide (f (1 + p) = 3)) ∧
  (∀ j, j < m → ∀ i, i < 32 → bt (h.1 (a + 1) j) i = (decide (i < n) && bt (f (7 + i)) j)) ∧
  (∀ j, j < m → h.1 (a + 4) j = f (13 + j)) ∧ (∀ p, p < n → h.1 (a + 5) p = f (17 + p)) ∧
  (∀ j, j < m → h.1 (a + 2) j = hl j ∧ h.1 (a + 3) j = hl (4 + j))
/-- what the 23 ints may be -/
def FR (f : Nat → Int32) (n m : Nat) : Prop := (∀ p, p < n → f (1 + p) = 0 ∨ f (1 + p) = 1 ∨ f (1 + p) = 2 ∨ f (1 + p) = 3) ∧ (∀ p, p < n → ∀ j, m ≤ j → bt (f (7 + p)) j = false)
section COURT
variable {h : HS} {a : Nat} {f hl : Nat → Int32} {n m : Nat}
theorem C_isPerson (H : CR h a f hl n m) (p : Int32) : f_X1_isPerson h a p = some (inB p n) := by
  obtain ⟨⟨hn, hm, h6, h4⟩, -⟩ := H
  unfold f_X1_isPerson
  rw [hn]
  rcases nI_rng p n (by omega) with ⟨j, hj, rfl⟩ | hz
  · rw [inB_nI hj (by omega), if_neg (nI_pos (by omega)), if_pos (nI_lt hj (by omega)), L6, if_pos (nI_lt (by omega) (by omega))]
  · have e : inB p n = false := by unfold inB; exact dFF hz
    rw [e]
    by_cases c1 : p < 0
    · rw [if_pos c1]
    · rw [if_neg c1, if_neg]
      intro c2
      rw [Int32.lt_iff_toInt_lt] at c1 c2
      rw [nI_toInt (by omega)] at c2
      rw [Int32.toInt_zero] at c1
      omega
theorem C_isMatter (H : CR h a f hl n m) (p : Int32) : f_X1_isMatter h a p = some (inB p m) := by
  obtain ⟨⟨hn, hm, h6, h4⟩, -⟩ := H
  unfold f_X1_isMatter
  rw [hm]
  rcases nI_rng p m (by omega) with ⟨j, hj, rfl⟩ | hz
  · rw [inB_nI hj (by omega), if_neg (nI_pos (by omega)), if_pos (nI_lt hj (by omega)), L4, if_pos (nI_lt (by omega) (by omega))]
  · have e : inB p m = false := by unfold inB; exact dFF hz
    rw [e]
    by_cases c1 : p < 0
    · rw [if_pos c1]
    · rw [if_neg c1, if_neg]
      intro c2
      rw [Int32.lt_iff_toInt_lt] at c1 c2
      rw [nI_toInt (by omega)] at c2
      rw [Int32.toInt_zero] at c1
      omega
theorem C_person (H : CR h a f hl n m) {p : Nat} (hp : p < n) : f_X1_isPerson h a (nI p) = some true := by
  rw [C_isPerson H, inB_nI hp (by have := H.1.2.2.1; omega)]
theorem C_matter (H : CR h a f hl n m) {j : Nat} (hj : j < m) : f_X1_isMatter h a (nI j) = some true := by
  rw [C_isMatter H, inB_nI hj (by have := H.1.2.2.2; omega)]
theorem C_eyeOf (H : CR h a f hl n m) {p : Nat} (hp : p < n) : f_X1_eyeOf h a (nI p) = some (b2i (bt (f 0) p)) := by
  unfold f_X1_eyeOf
  rw [H.2.1, bt_get _ (by have := H.1.2.2.1; omega)]
theorem and_bit (x : Int32) {p : Nat} (hp : p < 32) : (x &&& (1 <<< (nI p &&& 31)) = 0) ↔ bt x p = false := by
  constructor
  · intro e
    have := congrArg (fun y => bt y p) e
    simp only [bt_and, bt_one hp, bt_0, decide_true, Bool.and_true] at this
    exact this
  · intro e
    apply bt_ext
    intro i hi
    rw [bt_and, bt_one hp, bt_0]
    by_cases h1 : i = p
    · subst h1; rw [e]; rfl
    · simp [h1]
theorem C_kindOf (H : CR h a f hl n m) (hF : FR f n m) {p : Nat} (hp : p < n) : f_X1_kindOf h a (nI p) = some (f (1 + p)) := by
  obtain ⟨⟨hn, hm, h6, h4⟩, -, hk, -⟩ := H
  obtain ⟨k1, k2, k3⟩ := hk p hp
  unfold f_X1_kindOf
  simp only [Lt_e]
  have q := fun x => and_bit x (p := p) (by omega)
  rcases hF.1 p hp with e | e | e | e <;> rw [e] at k1 k2 k3 ⊢
  · rw [if_pos ((q _).mpr (k1.trans (by decide))), if_pos ((q _).mpr (k2.trans (by decide))), if_pos ((q _).mpr (k3.trans (by decide)))]
  · rw [if_neg (fun z => by rw [(q _).mp z] at k1; exact absurd k1 (by decide))]
  · rw [if_pos ((q _).mpr (k1.trans (by decide))), if_neg (fun z => by rw [(q _).mp z] at k2; exact absurd k2 (by decide))]
  · rw [if_pos ((q _).mpr (k1.trans (by decide))), if_pos ((q _).mpr (k2.trans (by decide))), if_neg (fun z => by rw [(q _).mp z] at k3; exact absurd k3 (by decide))]
theorem C_seersOf (H : CR h a f hl n m) {j s : Nat} (hj : j < m) (hs : s < 2) : f_X1_seersOf h a (nI j) (nI s) = some (mkk (se f s j) n) := by
  have H0 := H
  obtain ⟨⟨hn, hm, h6, h4⟩, he, hk, hw, -⟩ := H
  unfold f_X1_seersOf
  rw [C_matter H0 hj, bd_s, if_pos rfl, rd_nI _ _ (by omega) (by omega)]
  simp only [jn_e, bd_s]
  rw [he]
  have key : ∀ t : Int32, (∀ i, i < 32 → bt t i = (bt (f 0) i == decide (s = 1))) → some ((h.1 (a + 1) j &&& (t ||| h.1 a 4)) &&& (h.1 a 5 ^^^ (-1))) = some (mkk (se f s j) n) := by
    intro t ht
    congr 1
    refine mkk_eq (by omega) fun i hi => ?_
    rw [bt_and, bt_and, bt_or, bt_xor, bt_m1, hw j hj i hi, ht i hi]
    by_cases hin : i < n
    · obtain ⟨k1, k2, k3⟩ := hk i hin
      rw [k2, k3]
      unfold se
      simp only [hin, hi, decide_true, Bool.true_and]
      generalize bt (f (7 + i)) j = w
      generalize (bt (f 0) i == decide (s = 1)) = eb
      by_cases z2 : f (1 + i) = 2
      · rw [z2]; cases w <;> cases eb <;> rfl
      · by_cases z3 : f (1 + i) = 3
        · rw [z3]; cases w <;> cases eb <;> rfl
        · simp only [z2, z3, decide_false, ne_eq, not_false_eq_true, decide_true]
          cases w <;> cases eb <;> rfl
    · simp [hin]
  rcases (by omega : s = 0 ∨ s = 1) with rfl | rfl
  · rw [if_pos (show nI 0 = 0 from nI_0)]
    refine key _ fun i hi => ?_
    rw [bt_xor, bt_m1]
    simp only [hi, decide_true]
    cases bt (f 0) i <;> rfl
  · rw [if_neg (show ¬ nI 1 = 0 by decide)]
    refine key _ fun i hi => ?_
    cases bt (f 0) i <;> rfl
end COURT
/-! how many -/
def popF (x : Int32) : Nat → Int32
  | 0 => 0
  | k + 1 => popF x k + ((x >>> (nI k &&& 31)) &&& 1)
def pop (x : Int32) : Int32 := popF x 6
theorem M_ones (h : HS) (x : Int32) : f_X5_ones h x = some (pop x) := by
  unfold f_X5_ones
  refine fin2 (fun i => popF x i) (fun i => nI i) 6 (fun rec i hi => ?_) (fun rec => ?_) 400 0 (by omega) (by omega)
  · rw [L6, if_pos (nI_lt hi (by omega))]
    simp only [Lt_e, nI_p1]
    rfl
  · rw [L6, if_neg (nI_nlt (Nat.le_refl _) (by omega))]
    rfl
def small (x : Int32) : Prop := ∃ k, k < 64 ∧ x = nI k
theorem C_bits : ∀ k, k < 64 → f_J6_bitCount_0f7a4 hs0 (nI k) = some (pop (nI k)) := by decide +kernel
theorem C_bitCount (h : HS) {x : Int32} (hx : small x) : f_J6_bitCount_0f7a4 h x = some (pop x) := by
  obtain ⟨k, hk, rfl⟩ := hx
  exact C_bits k hk
theorem small_of {x : Int32} (h : ∀ i, 6 ≤ i → i < 32 → bt x i = false) : small x := by
  refine ⟨x.toBitVec.toNat, ?_, ?_⟩
  · refine Nat.lt_pow_two_of_testBit (n := 6) _ fun i hi => ?_
    by_cases h2 : i < 32
    · exact h i hi h2
    · exact Nat.testBit_lt_two_pow (Nat.lt_of_lt_of_le x.toBitVec.isLt (Nat.pow_le_pow_right (by omega) (by omega)))
  · apply bt_ext
    intro i hi
    rw [bt_nI]
    simp only [hi, decide_true, Bool.true_and]
    rfl
theorem small_mkk (g : Nat → Bool) {n : Nat} (h : n ≤ 6) : small (mkk g n) := small_of fun i h1 h2 => by
  rw [bt_mkk g n (by omega)]
  simp; omega
theorem small_and {x : Int32} (hx : small x) (y : Int32) : small (x &&& y) := by
  obtain ⟨k, hk, rfl⟩ := hx
  refine small_of fun i h1 h2 => ?_
  rw [bt_and, bt_nI, Nat.testBit_lt_two_pow (Nat.lt_of_lt_of_le hk (show 64 ≤ 2 ^ i from Nat.pow_le_pow_right (n := 2) (by omega) h1))]
  simp
theorem small_or {x y : Int32} (hx : small x) (hy : small y) : small (x ||| y) := by
  obtain ⟨k, hk, rfl⟩ := hx
  obtain ⟨l, hl, rfl⟩ := hy
  refine small_of fun i h1 h2 => ?_
  have e : 64 ≤ 2 ^ i := Nat.pow_le_pow_right (n := 2) (by omega) h1
  rw [bt_or, bt_nI, bt_nI, Nat.testBit_lt_two_pow (Nat.lt_of_lt_of_le hk e), Nat.testBit_lt_two_pow (Nat.lt_of_lt_of_le hl e)]
  simp
/-! a couple among a set -/
def hc (L R s : Int32) : Bool := decide (L &&& s ≠ 0) && (decide (R &&& s ≠ 0) && decide (1 < pop ((L &&& s) ||| (R &&& s))))
def HC (f : Nat → Int32) (n j : Nat) (s : Int32) : Bool := hc (mkk (se f 0 j) n) (mkk (se f 1 j) n) s
theorem hc_if (u v : Int32) (w : Int32) : (if u = 0 then some false else if v = 0 then some false else bd (some w) fun r => if (1 : Int32) < r then some true else some false) = some (decide (u ≠ 0) && (decide (v ≠ 0) && decide (1 < w))) := by
  by_cases h1 : u = 0
  · simp [h1]
  · by_cases h2 : v = 0
    · simp [h1, h2]
    · by_cases h3 : (1 : Int32) < w <;> simp [h1, h2, h3, bd_s]
theorem C_hasCouple {h : HS} {a : Nat} {f hl : Nat → Int32} {n m : Nat} (H : CR h a f hl n m) {j : Nat} (hj : j < m) (s : Int32) : f_X1_hasCoupleAmong h a (nI j) s = some (HC f n j s) := by
  unfold f_X1_hasCoupleAmong
  have e0 := C_seersOf H hj (s := 0) (by omega)
  have e1 := C_seersOf H hj (s := 1) (by omega)
  rw [nI_0] at e0
  rw [← one_nI] at e1
  rw [e0, bd_s]
  simp only [Lt_e]
  rw [e1, bd_s, C_bitCount h (small_or (small_and (small_mkk _ H.1.2.2.1) s) (small_and (small_mkk _ H.1.2.2.1) s)), hc_if]
  rfl
theorem M_isBy {h : HS} {n lv j : Nat} (hn : h.1 36 0 = nI n) (h6 : n ≤ 6) (hl : lv < 2) (hj : j < 4) (s : Int32) : f_X5_isBy h (nI lv) (nI j) s = some (HC (lvf h lv) n j s) := by
  unfold f_X5_isBy
  have e0 := M_seeing hn h6 hl hj (s := 0) (by omega)
  have e1 := M_seeing hn h6 hl hj (s := 1) (by omega)
  rw [nI_0] at e0
  rw [← one_nI] at e1
  rw [e0, bd_s]
  simp only [Lt_e]
  rw [e1, bd_s, M_ones, hc_if]
  rfl
theorem or_0 (x : Int32) : x ||| 0 = x := bt_ext fun k _ => by rw [bt_or, bt_0, Bool.or_false]
/-- matters for which there is a couple among a set -/
def KN (f : Nat → Int32) (n m : Nat) (s : Int32) : Int32 := mkk (fun j => HC f n j s) m
theorem C_knowable {h : HS} {a : Nat} {f hl : Nat → Int32} {n m : Nat} (H : CR h a f hl n m) (s : Int32) : f_X1_knowableAmong h a s = some (KN f n m s) := by
  unfold f_X1_knowableAmong
  refine fin2 (fun i => mkk (fun j => HC f n j s) i) (fun i => nI i) m (fun rec i hi => ?_) (fun rec => ?_) 400 0 (by omega) (by have := H.1.2.2.2; omega)
  · simp only [H.1.2.1]
    rw [if_pos (nI_lt hi (by have := H.1.2.2.2; omega)), C_hasCouple H hi, bd_s]
    simp only [jn_e, Lt_e, nI_p1, mkk]
    by_cases q : HC f n i s = true
    · rw [if_pos q, if_pos q]
    · rw [if_neg q, if_neg q, or_0]
  · simp only [H.1.2.1]
    rw [if_neg (nI_nlt (Nat.le_refl _) (by have := H.1.2.2.2; omega))]
    rfl
theorem M_canBe {h : HS} {n m lv : Nat} (hn : h.1 36 0 = nI n) (h6 : n ≤ 6) (hm : h.1 36 1 = nI m) (h4 : m ≤ 4) (hl : lv < 2) (s : Int32) : f_X5_canBe h (nI lv) s = some (KN (lvf h lv) n m s) := by
  unfold f_X5_canBe
  refine fin2 (fun i => mkk (fun j => HC (lvf h lv) n j s) i) (fun i => nI i) m (fun rec i hi => ?_) (fun rec => ?_) 400 0 (by omega) (by omega)
  · simp only [hm]
    rw [if_pos (nI_lt hi (by omega)), M_isBy hn h6 hl (by omega), bd_s]
    simp only [jn_e, Lt_e, nI_p1, mkk]
    by_cases q : HC (lvf h lv) n i s = true
    · rw [if_pos q, if_pos q]
    · rw [if_neg q, if_neg q]
  · simp only [hm]
    rw [if_neg (nI_nlt (Nat.le_refl _) (by omega))]
    rfl
theorem C_everybody {h : HS} {a : Nat} {f hl : Nat → Int32} {n m : Nat} (H : CR h a f hl n m) : f_X1_everybody h a = some (nI (2 ^ n - 1)) := by
  have e : ∀ n, n ≤ 6 → (1 <<< (nI n &&& 31) : Int32) - 1 = nI (2 ^ n - 1) := by
    have : ∀ n, n < 7 → (1 <<< (nI n &&& 31) : Int32) - 1 = nI (2 ^ n - 1) := by decide +kernel
    exact fun n h => this n (by omega)
  unfold f_X1_everybody
  rw [H.1.1, e n H.1.2.2.1]
theorem M_every {h : HS} {n : Nat} (hn : h.1 36 0 = nI n) (h6 : n ≤ 6) : f_X5_every h = some (nI (2 ^ n - 1)) := by
  have e : ∀ n, n ≤ 6 → (1 <<< (nI n &&& 31) : Int32) - 1 = nI (2 ^ n - 1) := by
    have : ∀ n, n < 7 → (1 <<< (nI n &&& 31) : Int32) - 1 = nI (2 ^ n - 1) := by decide +kernel
    exact fun n h => this n (by omega)
  unfold f_X5_every
  rw [hn, e n h6]
