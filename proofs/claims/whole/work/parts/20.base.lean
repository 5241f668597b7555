/-! pure toolkit: Option steps, bits of Int32, loops -/
theorem bd_s {β γ : Type} (x : β) (k : β → Option γ) : bd (some x) k = k x := rfl
theorem bd2_s {β γ : Type} (x : β) (h : HS) (k : β → HS → Option γ) : bd2 (some (x, h)) k = k x h := rfl
theorem jn_e {τ γ : Type} (r : τ) (b : τ → Option γ) : jn r b = b r := rfl
theorem Lt_e {β γ : Type} (x : β) (k : β → γ) : Lt x k = k x := rfl
theorem b2i_t : b2i true = 1 := rfl
theorem b2i_f : b2i false = 0 := rfl
theorem hs_1 (h : HS) (a k : Nat) (v : Int32) (b j : Nat) : (hset h a k v).1 b j = if b = a ∧ j = k then v else h.1 b j := rfl
theorem hs_2 (h : HS) (a k : Nat) (v : Int32) : (hset h a k v).2 = h.2 := rfl
theorem hl_1 (h : HS) (a : Nat) (v : Int64) : (hlng h a v).1 = h.1 := rfl
theorem hl_2 (h : HS) (a : Nat) (v : Int64) (b : Nat) : (hlng h a v).2 b = if b = a then v else h.2 b := rfl
theorem inB_nI {j n : Nat} (h : j < n) (hn : n < 2 ^ 31) : inB (nI j) n = true := by
  unfold inB
  rw [nI_toInt (by omega)]
  simp
  omega
theorem rd_nI (h : HS) (a : Nat) {n j : Nat} (hj : j < n) (hn : n < 2 ^ 31) : rd h a n (nI j) = some (h.1 a j) := by
  unfold rd
  rw [inB_nI hj hn, nI_clamp (by omega)]
  rfl
theorem wr_nI (h : HS) (a : Nat) {n j : Nat} (v : Int32) (hj : j < n) (hn : n < 2 ^ 31) : wr h a n (nI j) v = some (hset h a j v) := by
  unfold wr
  rw [inB_nI hj hn, nI_clamp (by omega)]
  rfl
theorem nI_sub {a b : Nat} (h : b ≤ a) : nI a - nI b = nI (a - b) := pk_sub h
theorem nI_rng (p : Int32) (n : Nat) (hn : n < 2 ^ 31) : (∃ j, j < n ∧ p = nI j) ∨ ¬ (0 ≤ p.toInt ∧ p.toInt < n) := by
  by_cases h : 0 ≤ p.toInt ∧ p.toInt < n
  · left
    refine ⟨p.toInt.toNat, by omega, ?_⟩
    apply Int32.toInt_inj.mp
    rw [nI_toInt (by omega)]
    omega
  · exact Or.inr h
theorem lt_nI {a b : Nat} (ha : a < 2 ^ 31) (hb : b < 2 ^ 31) : nI a < nI b ↔ a < b := nI_ltI ha hb
theorem i32_0 : (0 : Int32) = nI 0 := by decide +kernel
/-! bits -/
def bt (x : Int32) (i : Nat) : Bool := x.toBitVec.getLsbD i
theorem bt_ext {x y : Int32} (h : ∀ i, i < 32 → bt x i = bt y i) : x = y := by
  apply Int32.toBitVec_inj.mp
  apply BitVec.eq_of_getLsbD_eq
  exact fun i hi => h i hi
theorem bt_ge (x : Int32) {i : Nat} (h : 32 ≤ i) : bt x i = false := BitVec.getLsbD_of_ge _ _ h
theorem bt_and (x y : Int32) (i : Nat) : bt (x &&& y) i = (bt x i && bt y i) := by
  unfold bt; rw [Int32.toBitVec_and, BitVec.getLsbD_and]
theorem bt_or (x y : Int32) (i : Nat) : bt (x ||| y) i = (bt x i || bt y i) := by
  unfold bt; rw [Int32.toBitVec_or, BitVec.getLsbD_or]
theorem bt_xor (x y : Int32) (i : Nat) : bt (x ^^^ y) i = (bt x i ^^ bt y i) := by
  unfold bt; rw [Int32.toBitVec_xor, BitVec.getLsbD_xor]
theorem bt_nI (n i : Nat) : bt (nI n) i = (decide (i < 32) && n.testBit i) := by
  unfold bt nI
  rw [show (Int32.ofNat n).toBitVec = BitVec.ofNat 32 n from rfl, BitVec.getLsbD_ofNat]
theorem bt_m1 (i : Nat) : bt (-1) i = decide (i < 32) := by
  unfold bt
  rw [show (-1 : Int32).toBitVec = BitVec.allOnes 32 by decide +kernel, BitVec.getLsbD_allOnes]
theorem sh_amt : ∀ p, p < 32 → ((nI p &&& 31).toBitVec.smod 32).toNat = p := by decide +kernel
theorem bt_shr (x : Int32) {p : Nat} (hp : p < 32) (i : Nat) : bt (x >>> (nI p &&& 31)) i = (decide (i < 32) && if p + i < 32 then bt x (p + i) else x.toBitVec.msb) := by
  unfold bt
  rw [Int32.toBitVec_shiftRight, BitVec.sshiftRight', sh_amt p hp, BitVec.getLsbD_sshiftRight]
  by_cases h : i < 32
  · simp [h, Nat.not_le.mpr h]
  · simp [h, Nat.not_lt.mp h]
theorem bt_shl (x : Int32) {p : Nat} (hp : p < 32) (i : Nat) : bt (x <<< (nI p &&& 31)) i = (decide (i < 32) && (decide (p ≤ i) && bt x (i - p))) := by
  unfold bt
  rw [Int32.toBitVec_shiftLeft, BitVec.shiftLeft_eq', sh_amt p hp, BitVec.getLsbD_shiftLeft]
  by_cases h1 : i < 32 <;> by_cases h2 : i < p
  · simp [h1, h2, Nat.not_le.mpr h2]
  · simp [h1, h2, Nat.not_lt.mp h2]
  · simp [h1]
  · simp [h1]
theorem bt_1 (i : Nat) : bt 1 i = decide (i = 0) := by
  rw [show (1 : Int32) = nI 1 by decide +kernel, bt_nI]
  by_cases h : i = 0
  · subst h; rfl
  · cases i with
    | zero => exact absurd rfl h
    | succ k => simp [Nat.testBit_succ]
theorem bt_0 (i : Nat) : bt 0 i = false := by
  rw [i32_0, bt_nI]
  simp
theorem bt_b2i (b : Bool) (i : Nat) : bt (b2i b) i = (b && decide (i = 0)) := by
  cases b
  · simp [b2i_f, bt_0]
  · simp [b2i_t, bt_1]
/-- one bit, as the programs look it up -/
theorem bt_get (x : Int32) {p : Nat} (hp : p < 32) : (x >>> (nI p &&& 31)) &&& 1 = b2i (bt x p) := by
  apply bt_ext
  intro i hi
  rw [bt_and, bt_1, bt_b2i, bt_shr x hp]
  by_cases h : i = 0
  · subst h
    simp [hp]
  · simp [h]
theorem bt_one {p : Nat} (hp : p < 32) (i : Nat) : bt (1 <<< (nI p &&& 31)) i = decide (i = p) := by
  rw [bt_shl 1 hp, bt_1]
  by_cases h : i = p
  · subst h
    simp [hp]
  · by_cases h2 : i < p
    · simp [h, Nat.not_le.mpr h2]
    · simp [h]
      intro _ _
      omega
theorem b2i_1 (b : Bool) : (b2i b = 1) = (b = true) := by cases b <;> decide
theorem b2i_00 (b : Bool) : (b2i b = 0) = (b = false) := by cases b <;> decide
theorem one_nI : (1 : Int32) = nI 1 := by decide +kernel
theorem nI_p1 (i : Nat) : nI i + 1 = nI (i + 1) := nI_1 i
/-! loops with a known course -/
theorem fin1 {A R : Type} {body : (A → Option R) → A → Option R} {res : Option R} (F : Nat → A) (N : Nat) (hs : ∀ rec i, i < N → body rec (F i) = rec (F (i + 1))) (he : ∀ rec, body rec (F N) = res) : ∀ f i, i ≤ N → N < f + i → loop1 body f (F i) = res := by
  intro f
  induction f with
  | zero => intro i h1 h2; omega
  | succ f ih =>
    intro i h1 h2
    show body (loop1 body f) (F i) = res
    by_cases hi : i < N
    · rw [hs _ i hi]
      exact ih (i + 1) (by omega) (by omega)
    · rw [show i = N by omega]
      exact he _
theorem fin2 {A B R : Type} {body : (A → B → Option R) → A → B → Option R} {res : Option R} (F : Nat → A) (G : Nat → B) (N : Nat) (hs : ∀ rec i, i < N → body rec (F i) (G i) = rec (F (i + 1)) (G (i + 1))) (he : ∀ rec, body rec (F N) (G N) = res) : ∀ f i, i ≤ N → N < f + i → loop2 body f (F i) (G i) = res := by
  intro f
  induction f with
  | zero => intro i h1 h2; omega
  | succ f ih =>
    intro i h1 h2
    show body (loop2 body f) (F i) (G i) = res
    by_cases hi : i < N
    · rw [hs _ i hi]
      exact ih (i + 1) (by omega) (by omega)
    · rw [show i = N by omega]
      exact he _
theorem fin3 {A B C R : Type} {body : (A → B → C → Option R) → A → B → C → Option R} {res : Option R} (F : Nat → A) (G : Nat → B) (H : Nat → C) (N : Nat) (hs : ∀ rec i, i < N → body rec (F i) (G i) (H i) = rec (F (i + 1)) (G (i + 1)) (H (i + 1))) (he : ∀ rec, body rec (F N) (G N) (H N) = res) : ∀ f i, i ≤ N → N < f + i → loop3 body f (F i) (G i) (H i) = res := by
  intro f
  induction f with
  | zero => intro i h1 h2; omega
  | succ f ih =>
    intro i h1 h2
    show body (loop3 body f) (F i) (G i) (H i) = res
    by_cases hi : i < N
    · rw [hs _ i hi]
      exact ih (i + 1) (by omega) (by omega)
    · rw [show i = N by omega]
      exact he _
theorem fin4 {A B C E R : Type} {body : (A → B → C → E → Option R) → A → B → C → E → Option R} {res : Option R} (F : Nat → A) (G : Nat → B) (H : Nat → C) (I : Nat → E) (N : Nat) (hs : ∀ rec i, i < N → body rec (F i) (G i) (H i) (I i) = rec (F (i + 1)) (G (i + 1)) (H (i + 1)) (I (i + 1))) (he : ∀ rec, body rec (F N) (G N) (H N) (I N) = res) : ∀ f i, i ≤ N → N < f + i → loop4 body f (F i) (G i) (H i) (I i) = res := by
  intro f
  induction f with
  | zero => intro i h1 h2; omega
  | succ f ih =>
    intro i h1 h2
    show body (loop4 body f) (F i) (G i) (H i) (I i) = res
    by_cases hi : i < N
    · rw [hs _ i hi]
      exact ih (i + 1) (by omega) (by omega)
    · rw [show i = N by omega]
      exact he _
