/-! the questions: program and model answer alike. The common ground -/
def Base (h : HS) (n m : Nat) : Prop := CR h 3 (lvf h 0) (h.1 37) n m ∧ FR (lvf h 0) n m ∧ h.1 36 0 = nI n ∧ h.1 36 1 = nI m
def Both {α : Type} (x y : Option α) : Prop := ∃ r, x = some r ∧ y = some r
theorem both_i {α : Type} {x y : Option α} (r : α) (h1 : x = some r) (h2 : y = some r) : Both x y := ⟨r, h1, h2⟩
theorem inB_out {p : Int32} {n : Nat} (h : ¬ (0 ≤ p.toInt ∧ p.toInt < n)) : inB p n = false := dFF h
section ASK
variable {h : HS} {n m : Nat}
theorem B_n (B : Base h n m) : n ≤ 6 ∧ m ≤ 4 := ⟨B.1.1.2.2.1, B.1.1.2.2.2⟩
theorem lv0 (h : HS) : lvf h 0 = h.1 38 := by
  funext k
  show h.1 38 (23 * 0 + k) = _
  rw [Nat.mul_zero, Nat.zero_add]
theorem rd38 (h : HS) {k : Nat} (hk : k < 46) : rd h 38 46 (nI k) = some (h.1 38 k) := rd_nI h 38 hk (by omega)
theorem rd38_0 (h : HS) : rd h 38 46 0 = some (lvf h 0 0) := by
  have := rd38 h (k := 0) (by omega)
  rw [nI_0] at this
  exact this
theorem C_seenBy {a : Nat} {f hl : Nat → Int32} (H : CR h a f hl n m) (hF : FR f n m) {p : Nat} (hp : p < n) : f_X1_seenBy h a (nI p) = some (f (7 + p)) := by
  have h6 := H.1.2.2.1
  have h4 := H.1.2.2.2
  have e : mkk (fun j => bt (f (7 + p)) j) m = f (7 + p) := by
    apply bt_ext
    intro i hi
    rw [bt_mkk _ m (by omega)]
    by_cases q : i < m
    · simp [q]
    · rw [hF.2 p hp i (by omega)]
      simp
  rw [← e]
  unfold f_X1_seenBy
  refine fin2 (fun i => mkk (fun j => bt (f (7 + p)) j) i) (fun i => nI i) m (fun rec i hi => ?_) (fun rec => ?_) 400 0 (by omega) (by omega)
  · simp only [H.1.2.1]
    rw [if_pos (nI_lt hi (by omega))]
    have e1 : f_X1_witnessesOf h a (nI i) = some (h.1 (a + 1) i) := by
      unfold f_X1_witnessesOf
      rw [C_matter H hi, bd_s, if_pos rfl, rd_nI _ _ (by omega) (by omega)]
      rfl
    rw [e1, bd_s, bt_get _ (by omega), H.2.2.2.1 i hi p (by omega)]
    simp only [Lt_e, nI_p1, mkk, hp, decide_true, Bool.true_and]
    by_cases q : bt (f (7 + p)) i = true
    · rw [if_pos q, q]
      rfl
    · have q' : bt (f (7 + p)) i = false := by simpa using q
      rw [if_neg q, q', b2i_f]
      congr 2
      apply bt_ext
      intro k hk
      rw [bt_shl _ (by omega), bt_0, bt_0]
      simp
  · simp only [H.1.2.1]
    rw [if_neg (nI_nlt (Nat.le_refl _) (by omega))]
theorem C_finesOf {a : Nat} {f hl : Nat → Int32} (H : CR h a f hl n m) {p : Nat} (hp : p < n) : f_X1_finesOf h a (nI p) = some (f (17 + p)) := by
  have h6 := H.1.2.2.1
  unfold f_X1_finesOf
  rw [C_person H hp, bd_s, if_pos rfl, rd_nI _ _ (by omega) (by omega), H.2.2.2.2.2.1 p hp]
  rfl
theorem q_person (B : Base h n m) (p w : Int32) : Both (f_X4_person h p w) (f_X5_person h p w) := by
  obtain ⟨H, hF, hn, hm⟩ := B
  have h6 := H.1.2.2.1
  unfold f_X4_person f_X5_person
  rw [C_isPerson H, M_isPerson hn h6, bd_s, bd_s]
  rcases nI_rng p n (by omega) with ⟨k, hk, rfl⟩ | hz
  · rw [inB_nI hk (by omega), if_pos rfl, if_pos rfl]
    by_cases w0 : w = 0
    · rw [if_pos w0, if_pos w0, C_eyeOf H hk, rd38_0, bd_s, bd_s, bt_get _ (by omega)]
      exact ⟨_, rfl, rfl⟩
    rw [if_neg w0, if_neg w0]
    by_cases w1 : w = 1
    · rw [if_pos w1, if_pos w1, C_kindOf H hF hk, one_nI, nI_add, rd38 h (by omega), lv0]
      exact ⟨_, rfl, rfl⟩
    rw [if_neg w1, if_neg w1]
    by_cases w2 : w = 2
    · rw [if_pos w2, if_pos w2, C_seenBy H hF hk, L7, nI_add, rd38 h (by omega), lv0]
      exact ⟨_, rfl, rfl⟩
    rw [if_neg w2, if_neg w2]
    by_cases w3 : w = 3
    · rw [if_pos w3, if_pos w3, C_finesOf H hk, L17, nI_add, rd38 h (by omega), lv0]
      exact ⟨_, rfl, rfl⟩
    rw [if_neg w3, if_neg w3]
    exact ⟨_, rfl, rfl⟩
  · rw [inB_out hz]
    exact ⟨_, rfl, rfl⟩
theorem C_halfL {a : Nat} {f hl : Nat → Int32} (H : CR h a f hl n m) {j : Nat} (hj : j < m) : f_X1_halfOf h a (nI j) 0 = some (hl j) := by
  have h4 := H.1.2.2.2
  unfold f_X1_halfOf
  rw [C_matter H hj, bd_s, if_pos rfl, if_pos rfl, rd_nI _ _ (by omega) (by omega), (H.2.2.2.2.2.2 j hj).1]
  rfl
theorem C_halfR {a : Nat} {f hl : Nat → Int32} (H : CR h a f hl n m) {j : Nat} (hj : j < m) : f_X1_halfOf h a (nI j) 1 = some (hl (4 + j)) := by
  have h4 := H.1.2.2.2
  unfold f_X1_halfOf
  rw [C_matter H hj, bd_s, if_pos rfl, if_neg (by decide), rd_nI _ _ (by omega) (by omega), (H.2.2.2.2.2.2 j hj).2]
  rfl
theorem C_knownAs {a : Nat} {f hl : Nat → Int32} (H : CR h a f hl n m) {j : Nat} (hj : j < m) : f_X1_knownAs h a (nI j) = some (f (13 + j)) := by
  have h4 := H.1.2.2.2
  unfold f_X1_knownAs
  rw [C_matter H hj, bd_s, if_pos rfl, rd_nI _ _ (by omega) (by omega), H.2.2.2.2.1 j hj]
  rfl
theorem rd37 (h : HS) {k : Nat} (hk : k < 8) : rd h 37 8 (nI k) = some (h.1 37 k) := rd_nI h 37 hk (by omega)
theorem q_matter (B : Base h n m) (p w : Int32) : Both (f_X4_matter h p w) (f_X5_matter h p w) := by
  obtain ⟨H, hF, hn, hm⟩ := B
  have h6 := H.1.2.2.1
  have h4 := H.1.2.2.2
  unfold f_X4_matter f_X5_matter
  rw [C_isMatter H, M_isMatter hm h4, bd_s, bd_s]
  rcases nI_rng p m (by omega) with ⟨k, hk, rfl⟩ | hz
  · rw [inB_nI hk (by omega), if_pos rfl, if_pos rfl]
    by_cases w0 : w = 0
    · rw [if_pos w0, if_pos w0, C_halfL H hk, rd37 h (by omega)]
      exact ⟨_, rfl, rfl⟩
    rw [if_neg w0, if_neg w0]
    by_cases w1 : w = 1
    · rw [if_pos w1, if_pos w1, C_halfR H hk, L4, nI_add, rd37 h (by omega)]
      exact ⟨_, rfl, rfl⟩
    rw [if_neg w1, if_neg w1]
    by_cases w2 : w = 2
    · rw [if_pos w2, if_pos w2, C_knownAs H hk, L13, nI_add, rd38 h (by omega), lv0]
      exact ⟨_, rfl, rfl⟩
    rw [if_neg w2, if_neg w2]
    have s0 := C_seersOf H hk (s := 0) (by omega)
    have s1 := C_seersOf H hk (s := 1) (by omega)
    have t0 := M_seeing hn h6 (lv := 0) (by omega) (show k < 4 by omega) (s := 0) (by omega)
    have t1 := M_seeing hn h6 (lv := 0) (by omega) (show k < 4 by omega) (s := 1) (by omega)
    rw [nI_0] at s0 t0
    rw [← one_nI] at s1
    rw [nI_0, ← one_nI] at t1
    by_cases w3 : w = 3
    · rw [if_pos w3, if_pos w3, s0, t0]
      exact ⟨_, rfl, rfl⟩
    rw [if_neg w3, if_neg w3]
    by_cases w4 : w = 4
    · rw [if_pos w4, if_pos w4, s1, t1]
      exact ⟨_, rfl, rfl⟩
    rw [if_neg w4, if_neg w4]
    exact ⟨_, rfl, rfl⟩
  · rw [inB_out hz]
    exact ⟨_, rfl, rfl⟩
theorem X4_isHalf (h : HS) (p : Int32) : f_X4_isHalf h p = some (inB p 2) := by
  unfold f_X4_isHalf
  rcases nI_rng p 2 (by omega) with ⟨k, hk, rfl⟩ | hz
  · rw [inB_nI hk (by omega)]
    rcases (by omega : k = 0 ∨ k = 1) with rfl | rfl <;> decide +kernel
  · rw [inB_out hz]
    have h0 : p ≠ 0 := fun e => by subst e; exact hz (by decide)
    have h1 : p ≠ 1 := fun e => by subst e; exact hz (by decide)
    rw [if_neg h0, if_neg h1]
theorem in_01 (h : HS) (p : Int32) : f_X5_in h (Int32.toInt64 p) 0 1 = some (inB p 2) := by
  rw [M_in, toI64]
  unfold inB
  rw [show (0 : Int64).toInt = 0 by decide, show (1 : Int64).toInt = 1 by decide]
  congr 2
  exact decide_eq_decide.mpr (by omega)
/-- what a person says of a half -/
def sy (f hl : Nat → Int32) (s j p : Nat) : Int32 := if f (1 + p) = 1 then 9 - hl (4 * s + j) else hl (4 * s + j)
theorem C_saidBy {a : Nat} {f hl : Nat → Int32} (H : CR h a f hl n m) (hF : FR f n m) {p j s : Nat} (hp : p < n) (hj : j < m) (hs : s < 2) : f_X1_saidBy h a (nI p) (nI j) (nI s) = some (if se f s j p = true then sy f hl s j p else -9) := by
  have h6 := H.1.2.2.1
  unfold f_X1_saidBy
  have hh : f_X1_halfOf h a (nI j) (nI s) = some (hl (4 * s + j)) := by
    rcases (by omega : s = 0 ∨ s = 1) with rfl | rfl
    · rw [nI_0, C_halfL H hj, Nat.mul_zero, Nat.zero_add]
    · rw [← one_nI, C_halfR H hj, Nat.mul_one]
  rw [C_seersOf H hj hs, bd_s, bt_get _ (by omega), bt_mkk _ n (by omega), hh, C_kindOf H hF hp]
  simp only [hp, decide_true, Bool.true_and, bd_s]
  unfold sy
  by_cases q : se f s j p = true
  · rw [if_pos q, q, if_neg (by decide)]
    by_cases k1 : f (1 + p) = 1
    · rw [if_pos k1, if_pos k1]
    · rw [if_neg k1, if_neg k1]
  · have q' : se f s j p = false := by simpa using q
    rw [if_neg q, q', if_pos (by decide)]
theorem M_saysOn (h : HS) {lv p j s : Nat} (hl : lv < 2) (hp : p < 6) (hj : j < 4) (hs : s < 2) : f_X5_saysOn h (nI lv) (nI p) (nI j) (nI s) = some (sy (lvf h lv) (h.1 37) s j p) := by
  unfold f_X5_saysOn
  have e1 : (nI (23 * lv) + 1) + nI p = nI (23 * lv + (1 + p)) := by rw [one_nI, nI_add, nI_add, Nat.add_assoc]
  rw [L4, pk_mul, nI_add, rd37 h (by omega), bd_s, L23, pk_mul, e1, rd_lv h hl (by omega), bd_s]
  unfold sy
  by_cases k1 : lvf h lv (1 + p) = 1
  · rw [if_pos k1, if_pos k1]
  · rw [if_neg k1, if_neg k1]
theorem q_says (B : Base h n m) (p j s : Int32) : Both (f_X4_says h p j s) (f_X5_says h p j s) := by
  obtain ⟨H, hF, hn, hm⟩ := B
  have h6 := H.1.2.2.1
  have h4 := H.1.2.2.2
  unfold f_X4_says f_X5_says
  rw [C_isPerson H, M_isPerson hn h6, bd_s, bd_s]
  rcases nI_rng p n (by omega) with ⟨k, hk, rfl⟩ | hz
  · rw [inB_nI hk (by omega), if_pos rfl, if_pos rfl, C_isMatter H, M_isMatter hm h4, bd_s, bd_s]
    rcases nI_rng j m (by omega) with ⟨i, hi, rfl⟩ | hz
    · rw [inB_nI hi (by omega), if_pos rfl, if_pos rfl, X4_isHalf, in_01, bd_s, bd_s]
      rcases nI_rng s 2 (by omega) with ⟨t, ht, rfl⟩ | hz
      · rw [inB_nI ht (by omega), if_pos rfl, if_pos rfl, C_saidBy H hF hk hi ht, bd_s]
        have e := M_sees h (lv := 0) (by omega) (show k < 6 by omega) (show i < 4 by omega) ht
        have e2 := M_saysOn h (lv := 0) (by omega) (show k < 6 by omega) (show i < 4 by omega) ht
        rw [nI_0] at e e2
        rw [e, e2, bd_s, bd_s]
        by_cases q : se (lvf h 0) t i k = true
        · rw [if_pos q, if_pos q]
          exact ⟨_, rfl, rfl⟩
        · rw [if_neg q, if_neg q]
          exact ⟨_, rfl, rfl⟩
      · rw [inB_out hz]
        exact ⟨_, rfl, rfl⟩
    · rw [inB_out hz]
      exact ⟨_, rfl, rfl⟩
  · rw [inB_out hz]
    exact ⟨_, rfl, rfl⟩
end ASK
