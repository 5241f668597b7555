/-! a trial: the program's third Court, the model's second level -/
theorem inB_nd {p n : Nat} (hp : p < 2 ^ 31) (hn : n < 2 ^ 31) : inB (nI p) n = decide (p < n) := by
  unfold inB
  rw [nI_toInt hp]
  by_cases q : p < n
  · rw [decide_eq_true q, decide_eq_true (by omega), decide_eq_true (by omega)]; rfl
  · rw [decide_eq_false q, decide_eq_false (show ¬ ((p : Int) < (n : Int)) by omega), Bool.and_false]
theorem se_cg {f f' : Nat → Int32} (e : ∀ k, k < 23 → f' k = f k) {s j p : Nat} (hp : p < 6) : se f' s j p = se f s j p := by
  unfold se
  rw [e _ (by omega), e _ (by omega), e _ (by omega)]
theorem cp_cg {f f' : Nat → Int32} (e : ∀ k, k < 23 → f' k = f k) {j i o : Nat} (hi : i < 6) (ho : o < 6) : cp f' j i o = cp f j i o := by
  unfold cp
  rw [se_cg e hi, se_cg e ho]
theorem tl_cg {f f' : Nat → Int32} (hl : Nat → Int32) (e : ∀ k, k < 23 → f' k = f k) {j i o : Nat} (hi : i < 6) (ho : o < 6) : tl f' hl j i o = tl f hl j i o := by
  unfold tl sy
  rw [e _ (by omega), e _ (by omega)]
theorem KN_cg {f f' : Nat → Int32} (e : ∀ k, k < 23 → f' k = f k) {n m : Nat} (n6 : n ≤ 6) (s : Int32) : KN f' n m s = KN f n m s := by
  unfold KN
  refine mkk_congr fun j hj => ?_
  unfold HC
  rw [mkk_congr (n := n) (g := se f' 0 j) (g' := se f 0 j) fun p hp => se_cg e (by omega), mkk_congr (n := n) (g := se f' 1 j) (g' := se f 1 j) fun p hp => se_cg e (by omega)]
theorem upd_cg {f f' : Nat → Int32} (e : ∀ k, k < 23 → f' k = f k) (i : Nat) {v v' : Int32} (hv : v' = v) : ∀ k, k < 23 → upd f' i v' k = upd f i v k := by
  intro k hk
  unfold upd
  by_cases q : k = i
  · rw [if_pos q, if_pos q, hv]
  · rw [if_neg q, if_neg q, e k hk]
theorem drF_cg {f f' : Nat → Int32} (e : ∀ k, k < 23 → f' k = f k) {p : Nat} (hp : p < 6) : ∀ k, k < 23 → drF f' p k = drF f p k := by
  unfold drF
  rw [e (1 + p) (by omega), e 0 (by omega)]
  by_cases q : f (1 + p) = 2
  · rw [if_pos q, if_pos q]
    exact upd_cg (upd_cg e _ rfl) _ (by rw [e _ (by omega)])
  · rw [if_neg q, if_neg q]
    exact upd_cg (upd_cg e _ rfl) _ (by rw [e _ (by omega)])
/-! the four things, told by ints -/
def shD (n m : Nat) (f : Nat → Int32) (p j : Nat) : Bool × (Nat → Int32) := if p < n ∧ j < m ∧ bt (f (7 + p)) j = false then (true, shF f p j) else (false, f)
def drD (n : Nat) (f : Nat → Int32) (p : Nat) : Bool × (Nat → Int32) := if p < n ∧ f (1 + p) ≠ 3 then (true, drF f p) else (false, f)
def fgD (m : Nat) (f : Nat → Int32) (j : Nat) : Bool × (Nat → Int32) := if j < m ∧ f (13 + j) ≠ -9 then (true, knF f j (-9)) else (false, f)
def leD (n m : Nat) (f hl : Nat → Int32) (i o j : Nat) : Bool × (Nat → Int32) := if j < m ∧ f (13 + j) = -9 ∧ i < n ∧ o < n ∧ cp f j i o = true then (true, knF f j (tl f hl j i o)) else (false, f)
def dn (n m : Nat) (f hl : Nat → Int32) (a b c : Nat) : Bool × (Nat → Int32) :=
  if a = 1 then shD n m f b c else if a = 2 then (if b = 0 then fgD m f c else (false, f)) else if a = 3 then (if b = 0 then drD n f c else (false, f)) else if 4 ≤ a then leD n m f hl b c (a - 4) else (false, f)
def TC (h : HS) (f hl : Nat → Int32) (n m : Nat) : Prop := CR h 9 f hl n m ∧ FR f n m
section TRC
variable {h : HS} {f hl : Nat → Int32} {n m : Nat}
theorem C_seesNow (T : TC h f hl n m) {p j : Nat} (hp : p < 100) (hj : j < 100) : ∃ h', f_X1_seesNow h 9 (nI p) (nI j) = some ((shD n m f p j).1, h') ∧ TC h' (shD n m f p j).2 hl n m ∧ Oc 9 h h' := by
  obtain ⟨H, hF⟩ := T
  have h6 := H.1.2.2.1
  have h4 := H.1.2.2.2
  unfold f_X1_seesNow
  by_cases q : p < n ∧ j < m
  · rw [C_canSee H q.1 q.2, bd_s]
    by_cases b : bt (f (7 + p)) j = false
    · rw [show shD n m f p j = (true, shF f p j) from if_pos ⟨q.1, q.2, b⟩, b, if_pos (by decide)]
      obtain ⟨g, eg, Cg, Og⟩ := C_letSee H q.1 q.2
      exact ⟨g, by rw [eg]; rfl, ⟨Cg, FR_sh h6 hF q.1 q.2 h4⟩, Og⟩
    · rw [show shD n m f p j = (false, f) from if_neg (fun z => b z.2.2), show bt (f (7 + p)) j = true by simpa using b, if_neg (by decide)]
      exact ⟨h, rfl, ⟨H, hF⟩, Oc.rf _ _⟩
  · rw [show shD n m f p j = (false, f) from if_neg (fun z => q ⟨z.1, z.2.1⟩)]
    have e : f_X1_canSee h 9 (nI p) (nI j) = some false := by
      unfold f_X1_canSee
      rw [C_isPerson H, C_isMatter H, inB_nd (by omega) (by omega), inB_nd (by omega) (by omega)]
      by_cases q1 : p < n
      · rw [decide_eq_true q1, decide_eq_false (fun z => q ⟨q1, z⟩)]; rfl
      · rw [decide_eq_false q1]; rfl
    rw [e]
    exact ⟨h, rfl, ⟨H, hF⟩, Oc.rf _ _⟩
theorem C_isForgotten (T : TC h f hl n m) {j : Nat} (hj : j < 100) : ∃ h', f_X1_isForgotten h 9 (nI j) = some ((fgD m f j).1, h') ∧ TC h' (fgD m f j).2 hl n m ∧ Oc 9 h h' := by
  obtain ⟨H, hF⟩ := T
  have h6 := H.1.2.2.1
  have h4 := H.1.2.2.2
  unfold f_X1_isForgotten
  simp only [jn_e]
  by_cases q : j < m
  · rw [C_knownAs H q, bd_s]
    by_cases b : f (13 + j) = -9
    · rw [show fgD m f j = (false, f) from if_neg (fun z => z.2 b), if_pos b, if_pos True.intro]
      exact ⟨h, rfl, ⟨H, hF⟩, Oc.rf _ _⟩
    · rw [show fgD m f j = (true, knF f j (-9)) from if_pos ⟨q, b⟩, if_neg b, if_neg (by decide)]
      obtain ⟨g, eg, Cg, Og⟩ := C_setKnown H q (-9)
      exact ⟨g, by rw [eg]; rfl, ⟨Cg, FR_kn h6 hF _ _⟩, Og⟩
  · have e : f_X1_knownAs h 9 (nI j) = some (-9) := by
      unfold f_X1_knownAs
      rw [C_isMatter H, inB_nd (by omega) (by omega), decide_eq_false q]; rfl
    rw [show fgD m f j = (false, f) from if_neg (fun z => q z.1), e, bd_s, if_pos rfl, if_pos True.intro]
    exact ⟨h, rfl, ⟨H, hF⟩, Oc.rf _ _⟩
theorem C_losesGlass (T : TC h f hl n m) {p : Nat} (hp : p < 100) : ∃ h', f_X1_losesGlass h 9 (nI p) = some ((drD n f p).1, h') ∧ TC h' (drD n f p).2 hl n m ∧ Oc 9 h h' := by
  obtain ⟨H, hF⟩ := T
  have h6 := H.1.2.2.1
  unfold f_X1_losesGlass
  by_cases q : p < n
  · rw [C_canLose H hF q, bd_s]
    by_cases b : f (1 + p) = 3
    · rw [show drD n f p = (false, f) from if_neg (fun z => z.2 b), decide_eq_true b, if_neg (by decide)]
      exact ⟨h, rfl, ⟨H, hF⟩, Oc.rf _ _⟩
    · rw [show drD n f p = (true, drF f p) from if_pos ⟨q, b⟩, decide_eq_false b, if_pos (by decide)]
      obtain ⟨g, eg, Cg, Og⟩ := C_loseGlass H hF q
      exact ⟨g, by rw [eg]; rfl, ⟨Cg, FR_dr h6 hF q⟩, Og⟩
  · have e : f_X1_canLoseGlass h 9 (nI p) = some false := by
      unfold f_X1_canLoseGlass
      rw [C_isPerson H, inB_nd (by omega) (by omega), decide_eq_false q]; rfl
    rw [show drD n f p = (false, f) from if_neg (fun z => q z.1), e]
    exact ⟨h, rfl, ⟨H, hF⟩, Oc.rf _ _⟩
theorem C_isLearnt (T : TC h f hl n m) {i o j : Nat} (hi : i < 100) (ho : o < 100) (hj : j < 100) : ∃ h', f_X1_isLearnt h 9 (nI i) (nI o) (nI j) = some ((leD n m f hl i o j).1, h') ∧ TC h' (leD n m f hl i o j).2 hl n m ∧ Oc 9 h h' := by
  obtain ⟨H, hF⟩ := T
  have h6 := H.1.2.2.1
  have h4 := H.1.2.2.2
  unfold f_X1_isLearnt
  by_cases q : j < m ∧ i < n ∧ o < n
  · rw [C_canLearn H q.2.1 q.2.2 q.1, bd_s]
    by_cases b : f (13 + j) = -9 ∧ cp f j i o = true
    · rw [show leD n m f hl i o j = (true, knF f j (tl f hl j i o)) from if_pos ⟨q.1, b.1, q.2.1, q.2.2, b.2⟩, decide_eq_true b.1, b.2, if_pos (by decide), C_toldBy H hF q.2.1 q.2.2 q.1 b.2, bd_s]
      obtain ⟨g, eg, Cg, Og⟩ := C_setKnown H q.1 (tl f hl j i o)
      exact ⟨g, by rw [eg]; rfl, ⟨Cg, FR_kn h6 hF _ _⟩, Og⟩
    · have e : (decide (f (13 + j) = -9) && cp f j i o) = false := by
        by_cases b1 : f (13 + j) = -9
        · rw [decide_eq_true b1, b2n (fun z => b ⟨b1, z⟩)]; rfl
        · rw [decide_eq_false b1]; rfl
      rw [show leD n m f hl i o j = (false, f) from if_neg (fun z => b ⟨z.2.1, z.2.2.2.2⟩), e, if_neg (by decide)]
      exact ⟨h, rfl, ⟨H, hF⟩, Oc.rf _ _⟩
  · rw [show leD n m f hl i o j = (false, f) from if_neg (fun z => q ⟨z.1, z.2.2.1, z.2.2.2.1⟩)]
    have e : f_X1_canLearn h 9 (nI i) (nI o) (nI j) = some false := by
      unfold f_X1_canLearn
      rw [C_isMatter H, inB_nd (by omega) (by omega)]
      by_cases q1 : j < m
      · rw [decide_eq_true q1, bd_s, if_pos rfl, C_knownAs H q1, bd_s]
        by_cases b1 : f (13 + j) = -9
        · rw [if_pos b1]
          unfold f_X1_isCouple
          rw [C_isPerson H, C_isPerson H, inB_nd (by omega) (by omega), inB_nd (by omega) (by omega)]
          by_cases q0 : nI i = nI o
          · rw [if_pos q0]; rfl
          rw [if_neg q0]
          by_cases q2 : i < n
          · rw [decide_eq_true q2, decide_eq_false (fun z => q ⟨q1, q2, z⟩)]; rfl
          · rw [decide_eq_false q2]; rfl
        · rw [if_neg b1]
      · rw [decide_eq_false q1]; rfl
    rw [e]
    exact ⟨h, rfl, ⟨H, hF⟩, Oc.rf _ _⟩
theorem nI_sub4 {a : Nat} (h : 4 ≤ a) : nI a - 4 = nI (a - 4) := by
  rw [L4, nI_sub (by omega)]
theorem C_done (T : TC h f hl n m) {v : Nat} (hv : v < 1000) : ∃ h', f_X1_doneAsTold h 9 (nI v) = some ((dn n m f hl (v / 100) (v / 10 % 10) (v % 10)).1, h') ∧ TC h' (dn n m f hl (v / 100) (v / 10 % 10) (v % 10)).2 hl n m ∧ Oc 9 h h' := by
  have h4 := T.1.1.2.2.2
  unfold f_X1_doneAsTold
  rw [show (100 : Int32) = nI 100 by decide +kernel, show (10 : Int32) = nI 10 by decide +kernel, dvN (by omega) (by omega) (by omega), bd_s, dvN (by omega) (by omega) (by omega), bd_s, rmN (by omega) (by omega) (by omega), bd_s, rmN (by omega) (by omega) (by omega), bd_s]
  have ha : v / 100 < 10 := by omega
  have hb : v / 10 % 10 < 10 := by omega
  have hc : v % 10 < 10 := by omega
  generalize v / 100 = a at ha
  generalize v / 10 % 10 = b at hb
  generalize v % 10 = c at hc
  unfold dn
  by_cases a1 : a = 1
  · subst a1
    rw [if_pos (by decide +kernel), if_pos rfl]
    obtain ⟨g, eg, Tg, Og⟩ := C_seesNow T (p := b) (j := c) (by omega) (by omega)
    exact ⟨g, by rw [eg]; rfl, Tg, Og⟩
  rw [if_neg (show ¬ nI a = 1 by rw [one_nI]; exact fun z => a1 ((nI_eq (by omega) (by omega)).mp z)), if_neg a1]
  by_cases a2 : a = 2
  · subst a2
    rw [if_pos (by decide +kernel), if_pos rfl]
    by_cases b0 : b = 0
    · subst b0
      rw [if_pos nI_0, if_pos rfl]
      obtain ⟨g, eg, Tg, Og⟩ := C_isForgotten T (j := c) (by omega)
      refine ⟨g, ?_, Tg, Og⟩
      rw [eg, bd2_s]
      cases (fgD m f c).1 <;> rfl
    · rw [if_neg (nI_ne0 (by omega) (by omega)), if_neg b0]
      exact ⟨h, rfl, T, Oc.rf _ _⟩
  rw [if_neg (show ¬ nI a = 2 by rw [L2]; exact fun z => a2 ((nI_eq (by omega) (by omega)).mp z)), if_neg a2]
  by_cases a3 : a = 3
  · subst a3
    rw [if_pos (by decide +kernel), if_pos rfl]
    by_cases b0 : b = 0
    · subst b0
      rw [if_pos nI_0, if_pos rfl]
      obtain ⟨g, eg, Tg, Og⟩ := C_losesGlass T (p := c) (by omega)
      refine ⟨g, ?_, Tg, Og⟩
      rw [eg, bd2_s]
      cases (drD n f c).1 <;> rfl
    · rw [if_neg (nI_ne0 (by omega) (by omega)), if_neg b0]
      exact ⟨h, rfl, T, Oc.rf _ _⟩
  rw [if_neg (show ¬ nI a = 3 by rw [show (3 : Int32) = nI 3 by decide +kernel]; exact fun z => a3 ((nI_eq (by omega) (by omega)).mp z)), if_neg a3]
  by_cases a4 : 4 ≤ a
  · rw [if_pos a4, nI_sub4 a4]
    obtain ⟨g, eg, Tg, Og⟩ := C_isLearnt T (i := b) (o := c) (j := a - 4) (by omega) (by omega) (by omega)
    exact ⟨g, by rw [eg]; rfl, Tg, Og⟩
  · have a0 : a = 0 := by omega
    subst a0
    rw [if_neg (by omega)]
    refine ⟨h, ?_, T, Oc.rf _ _⟩
    unfold f_X1_isLearnt f_X1_canLearn
    rw [C_isMatter T.1, show inB (nI 0 - 4) m = false by unfold inB; rw [show (nI 0 - 4).toInt = -4 by decide +kernel]; rfl]
    rfl
end TRC
