/-! the model reads -/
section FIG
variable {h : HS} {T : Nat → Int32} {len at_ : Nat}
theorem nI9 {k : Nat} (hk : k < 100) : ¬ nI k = -9 := by
  have : ∀ k, k < 100 → ¬ nI k = -9 := by decide +kernel
  exact this k hk
theorem M_fig_bad (h : HS) (M : Int32) (h12 : h.1 36 12 ≠ -9) : f_X5_figureOf h M = some (0, hset h 36 12 (h.1 36 12)) := by
  unfold f_X5_figureOf
  simp only [jn_e]
  rw [if_neg h12, in_n9, show inB (-9) 10 = false by decide, bd_s, if_neg (by decide), if_neg h12, Lt_e]
theorem M_fig_end {M : Int32} (e12 : h.1 36 12 = -9) (e11 : h.1 36 11 = nI at_) (e10 : h.1 36 10 = nI len) (l48 : len ≤ 48) (a48 : at_ ≤ 48) (q : ¬ at_ < len) : f_X5_figureOf h M = some (0, hset h 36 12 (nI at_)) := by
  unfold f_X5_figureOf
  simp only [jn_e]
  rw [if_pos e12, e11, e10, if_neg (nI_nlt (by omega) (by omega)), in_n9, show inB (-9) 10 = false by decide, bd_s, if_neg (by decide), if_pos e12, Lt_e]
theorem M_fig_ok {M : Int32} (e12 : h.1 36 12 = -9) (e11 : h.1 36 11 = nI at_) (e10 : h.1 36 10 = nI len) (l48 : len ≤ 48) (q : at_ < len) (el : h.1 42 at_ = T at_) {j : Nat} (hj : j < 10) (ej : T at_ - 48 = nI j) (hM : bt M j = true) : f_X5_figureOf h M = some (nI j, hset h 36 11 (nI (at_ + 1))) := by
  unfold f_X5_figureOf
  simp only [jn_e]
  rw [if_pos e12, e11, e10, if_pos (nI_lt q (by omega)), rd_nI _ _ (by omega) (by omega), bd_s, el, ej, in_n9, inB_nI hj (by omega), bd_s, if_pos rfl, M_has _ _ (by omega), hM, bd_s, if_pos rfl, Lt_e, nI_p1]
theorem M_fig_no {M : Int32} (e12 : h.1 36 12 = -9) (e11 : h.1 36 11 = nI at_) (e10 : h.1 36 10 = nI len) (l48 : len ≤ 48) (q : at_ < len) (el : h.1 42 at_ = T at_) (hM : inB (T at_ - 48) 10 = false ∨ ∃ j, j < 10 ∧ T at_ - 48 = nI j ∧ bt M j = false) : f_X5_figureOf h M = some (0, hset h 36 12 (nI at_)) := by
  unfold f_X5_figureOf
  simp only [jn_e]
  rw [if_pos e12, e11, e10, if_pos (nI_lt q (by omega)), rd_nI _ _ (by omega) (by omega), bd_s, el, in_n9, bd_s]
  rcases hM with z | ⟨j, hj, ej, z⟩
  · rw [z, if_neg (by decide), if_pos e12, Lt_e]
  · rw [ej, inB_nI hj (by omega), if_pos rfl, M_has _ _ (by omega), z, bd_s, if_neg (by decide), if_pos e12, Lt_e]
end FIG
def LF (f : Nat → Int32) (m p : Nat) : Int32 := ((1 <<< (nI m &&& 31)) - 1) &&& (f (7 + p) ^^^ (-1))
theorem bt_LF (f : Nat → Int32) {m : Nat} (m4 : m ≤ 4) (p : Nat) {j : Nat} (hj : j < 32) : bt (LF f m p) j = (decide (j < m) && !bt (f (7 + p)) j) := by
  have e : ∀ m, m < 5 → (1 <<< (nI m &&& 31) : Int32) - 1 = nI (2 ^ m - 1) := by decide +kernel
  have e2 : ∀ m, m < 5 → ∀ j, j < 32 → bt (nI (2 ^ m - 1)) j = decide (j < m) := by decide +kernel
  unfold LF
  rw [e m (by omega), bt_and, bt_xor, bt_m1, e2 m (by omega) j hj, decide_eq_true hj, Bool.xor_true]
theorem any_true (g : Nat → Bool) : ∀ n, anyB g n = true ↔ ∃ i, i < n ∧ g i = true
  | 0 => ⟨fun z => (by cases z), fun ⟨i, h, _⟩ => absurd h (by omega)⟩
  | n + 1 => by
    show (anyB g n || g n) = true ↔ _
    rw [Bool.or_eq_true, any_true g n]
    constructor
    · rintro (⟨i, h1, h2⟩ | h)
      · exact ⟨i, by omega, h2⟩
      · exact ⟨n, by omega, h⟩
    · rintro ⟨i, h1, h2⟩
      by_cases e : i = n
      · subst e; exact Or.inr h2
      · exact Or.inl ⟨i, by omega, h2⟩
theorem ne0_bt (x : Int32) : x ≠ 0 ↔ ∃ i, i < 32 ∧ bt x i = true := by
  constructor
  · intro h
    by_cases q : ∃ i, i < 32 ∧ bt x i = true
    · exact q
    · exfalso
      apply h
      apply bt_ext
      intro i hi
      rw [bt_0]
      exact b2n fun z => q ⟨i, hi, z⟩
  · rintro ⟨i, hi, hb⟩ rfl
    rw [bt_0] at hb
    cases hb
theorem LF_ne (f : Nat → Int32) {m : Nat} (m4 : m ≤ 4) (p : Nat) : decide (LF f m p ≠ 0) = UL f m p := by
  have : LF f m p ≠ 0 ↔ UL f m p = true := by
    unfold UL
    rw [ne0_bt, any_true]
    constructor
    · rintro ⟨i, hi, hb⟩
      rw [bt_LF f m4 p hi, Bool.and_eq_true, decide_eq_true_eq] at hb
      exact ⟨i, hb.1, hb.2⟩
    · rintro ⟨i, hi, hb⟩
      refine ⟨i, by omega, ?_⟩
      rw [bt_LF f m4 p (by omega), decide_eq_true hi, hb]; rfl
  by_cases q : LF f m p ≠ 0
  · rw [decide_eq_true q, this.mp q]
  · rw [decide_eq_false q, b2n (fun z => q (this.mpr z))]
def FL (f : Nat → Int32) (n m : Nat) : Int32 := mkk (fun p => UL f m p) n
theorem FL_ne (f : Nat → Int32) {n m : Nat} (n6 : n ≤ 6) : decide (FL f n m ≠ 0) = UA f n m := by
  have : FL f n m ≠ 0 ↔ UA f n m = true := by
    unfold UA FL
    rw [ne0_bt, any_true]
    constructor
    · rintro ⟨i, hi, hb⟩
      rw [bt_mkk _ n (by omega), Bool.and_eq_true, decide_eq_true_eq] at hb
      exact ⟨i, hb.1, hb.2⟩
    · rintro ⟨i, hi, hb⟩
      refine ⟨i, by omega, ?_⟩
      rw [bt_mkk _ n (by omega), decide_eq_true hi, hb]; rfl
  by_cases q : FL f n m ≠ 0
  · rw [decide_eq_true q, this.mp q]
  · rw [decide_eq_false q, b2n (fun z => q (this.mpr z))]
theorem M_left {h : HS} {f : Nat → Int32} {m p : Nat} (h8 : h.1 36 8 = nI m) (h41 : ∀ p, p < 6 → h.1 41 p = f (7 + p)) (hp : p < 6) : f_X5_left h (nI p) = some (LF f m p) := by
  unfold f_X5_left
  rw [rd_nI _ _ hp (by omega), bd_s, h8, h41 p hp]
  rfl
theorem M_firsts {h : HS} {f : Nat → Int32} {n m : Nat} (n6 : n ≤ 6) (m4 : m ≤ 4) (h7 : h.1 36 7 = nI n) (h8 : h.1 36 8 = nI m) (h41 : ∀ p, p < 6 → h.1 41 p = f (7 + p)) : f_X5_firstsLeft h = some (FL f n m) := by
  unfold f_X5_firstsLeft
  refine fin2 (fun i => mkk (fun p => UL f m p) i) (fun i => nI i) n (fun rec i hi => ?_) (fun rec => ?_) 400 0 (by omega) (by omega)
  · rw [h7, if_pos (nI_lt hi (by omega)), M_left h8 h41 (by omega), bd_s]
    simp only [jn_e, Lt_e, nI_p1, mkk]
    have e := LF_ne f m4 i
    by_cases q : LF f m i = 0
    · rw [if_pos q]
      rw [decide_eq_false (by simpa using q)] at e
      rw [if_neg (show ¬ UL f m i = true by rw [← e]; decide)]
    · rw [if_neg q]
      rw [decide_eq_true q] at e
      rw [if_pos (show UL f m i = true from e.symm)]
  · rw [h7, if_neg (nI_nlt (Nat.le_refl _) (by omega))]
    rfl
