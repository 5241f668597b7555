/-! searching loops -/
def srO {R : Type} (g : Nat → Bool) (val : Nat → Option R) (e : Option R) : Nat → Nat → Option R
  | 0, _ => e
  | d + 1, i => if g i = true then val i else srO g val e d (i + 1)
theorem esc1 {A R : Type} {body : (A → Option R) → A → Option R} {e : Option R} (F : Nat → A) (N : Nat) (g : Nat → Bool) (val : Nat → Option R) (hs : ∀ rec i, i < N → body rec (F i) = if g i = true then val i else rec (F (i + 1))) (he : ∀ rec, body rec (F N) = e) : ∀ f i, i ≤ N → N < f + i → loop1 body f (F i) = srO g val e (N - i) i := by
  intro f
  induction f with
  | zero => intro i h1 h2; omega
  | succ f ih =>
    intro i h1 h2
    show body (loop1 body f) (F i) = _
    by_cases hi : i < N
    · rw [hs _ i hi, show N - i = (N - (i + 1)) + 1 by omega]
      show _ = if g i = true then val i else srO g val e (N - (i + 1)) (i + 1)
      by_cases hg : g i = true
      · rw [if_pos hg, if_pos hg]
      · rw [if_neg hg, if_neg hg]
        exact ih (i + 1) (by omega) (by omega)
    · rw [show i = N by omega, he, Nat.sub_self]
      rfl
theorem srO_app {R : Type} (g : Nat → Bool) (val : Nat → Option R) (e : Option R) : ∀ (d1 d2 i : Nat), srO g val (srO g val e d2 (i + d1)) d1 i = srO g val e (d1 + d2) i
  | 0, d2, i => by rw [Nat.zero_add]; rfl
  | d1 + 1, d2, i => by
    rw [show d1 + 1 + d2 = (d1 + d2) + 1 by omega]
    show (if g i = true then val i else srO g val (srO g val e d2 (i + (d1 + 1))) d1 (i + 1)) = if g i = true then val i else srO g val e (d1 + d2) (i + 1)
    rw [show i + (d1 + 1) = (i + 1) + d1 by omega, srO_app g val e d1 d2 (i + 1)]
theorem srO_sh {R : Type} (g g' : Nat → Bool) (val val' : Nat → Option R) (e : Option R) (s : Nat) : ∀ (d i : Nat), (∀ o, i ≤ o → o < i + d → g o = g' (s + o) ∧ val o = val' (s + o)) → srO g val e d i = srO g' val' e d (s + i)
  | 0, i, _ => rfl
  | d + 1, i, h => by
    obtain ⟨h1, h2⟩ := h i (Nat.le_refl _) (by omega)
    show (if g i = true then val i else srO g val e d (i + 1)) = if g' (s + i) = true then val' (s + i) else srO g' val' e d (s + i + 1)
    rw [h1, h2, srO_sh g g' val val' e s d (i + 1) (fun o q1 q2 => h o (by omega) (by omega))]
    rfl
/-- how many of the first k -/
def cN (g : Nat → Bool) : Nat → Nat
  | 0 => 0
  | k + 1 => if g k = true then cN g k + 1 else cN g k
theorem cN_le (g : Nat → Bool) : ∀ k, cN g k ≤ k
  | 0 => Nat.le_refl _
  | k + 1 => by
    have := cN_le g k
    unfold cN
    split <;> omega
/-- the first as the model keeps it -/
def fsN (g : Nat → Bool) (val : Nat → Int32) : Nat → Int32
  | 0 => -9
  | k + 1 => if g k = true then (if nI (cN g k) = 0 then val k else fsN g val k) else fsN g val k
theorem fs_sr (g : Nat → Bool) (val : Nat → Int32) (N : Nat) (hN : N < 2 ^ 31) : ∀ k, k ≤ N → srO g (fun i => some (val i)) (some (-9)) N 0 = if cN g k = 0 then srO g (fun i => some (val i)) (some (-9)) (N - k) k else some (fsN g val k)
  | 0, _ => by rw [if_pos (show cN g 0 = 0 from rfl), Nat.sub_zero]
  | k + 1, hk => by
    rw [fs_sr g val N hN k (by omega)]
    have hl := cN_le g k
    have e : N - k = (N - (k + 1)) + 1 := by omega
    show _ = if (if g k = true then cN g k + 1 else cN g k) = 0 then srO g (fun i => some (val i)) (some (-9)) (N - (k + 1)) (k + 1) else some (if g k = true then (if nI (cN g k) = 0 then val k else fsN g val k) else fsN g val k)
    rw [e]
    show (if cN g k = 0 then (if g k = true then some (val k) else srO g (fun i => some (val i)) (some (-9)) (N - (k + 1)) (k + 1)) else some (fsN g val k)) = _
    by_cases hg : g k = true
    · rw [if_pos hg, if_pos hg, if_pos hg, if_neg (show ¬ cN g k + 1 = 0 by omega)]
      by_cases hc : cN g k = 0
      · rw [if_pos hc, hc, if_pos nI_0]
      · rw [if_neg hc, if_neg (nI_ne0 (by omega) (by omega))]
    · rw [if_neg hg, if_neg hg, if_neg hg]
theorem fs_end (g : Nat → Bool) (val : Nat → Int32) {N : Nat} (hN : N < 2 ^ 31) : srO g (fun i => some (val i)) (some (-9)) N 0 = some (fsN g val N) := by
  rw [fs_sr g val N hN N (Nat.le_refl _), Nat.sub_self]
  by_cases hc : cN g N = 0
  · rw [if_pos hc]
    have : ∀ k, cN g k = 0 → fsN g val k = -9 := by
      intro k
      induction k with
      | zero => intro _; rfl
      | succ k ih =>
        intro hk
        unfold cN at hk
        unfold fsN
        by_cases hg : g k = true
        · rw [if_pos hg] at hk; omega
        · rw [if_neg hg] at hk ⊢
          exact ih hk
    rw [this N hc]
    rfl
  · rw [if_neg hc]
/-! couples -/
def cp (f : Nat → Int32) (j i o : Nat) : Bool := decide (i ≠ o) && (se f 0 j i && se f 1 j o)
section CPL
variable {h : HS} {n m : Nat}
theorem nI_inj {i o : Nat} (hi : i < 2 ^ 31) (ho : o < 2 ^ 31) : nI i = nI o ↔ i = o := nI_eq hi ho
theorem C_isCouple {a : Nat} {f hl : Nat → Int32} (H : CR h a f hl n m) {i o j : Nat} (hi : i < n) (ho : o < n) (hj : j < m) : f_X1_isCouple h a (nI i) (nI o) (nI j) = some (cp f j i o) := by
  have h6 := H.1.2.2.1
  have s0 := C_seersOf H hj (s := 0) (by omega)
  have s1 := C_seersOf H hj (s := 1) (by omega)
  rw [nI_0] at s0
  rw [← one_nI] at s1
  unfold f_X1_isCouple cp
  by_cases e : i = o
  · rw [if_pos (by rw [e])]
    simp [e]
  · rw [if_neg (fun q => e ((nI_inj (by omega) (by omega)).mp q)), C_person H hi, C_person H ho, s0, s1]
    simp only [bd_s, if_true, bt_get _ (show i < 32 by omega), bt_get _ (show o < 32 by omega), bt_mkk _ n (show n ≤ 32 by omega), hi, ho, decide_true, Bool.true_and, e, ne_eq, not_false_eq_true, b2i_1]
    cases se f 0 j i <;> cases se f 1 j o <;> rfl
theorem M_isCouple {lv i o j : Nat} (hl : lv < 2) (hi : i < 6) (ho : o < 6) (hj : j < 4) : f_X5_isCouple h (nI lv) (nI i) (nI o) (nI j) = some (cp (lvf h lv) j i o) := by
  have s0 := M_sees h hl hi hj (s := 0) (by omega)
  have s1 := M_sees h hl ho hj (s := 1) (by omega)
  rw [nI_0] at s0
  rw [← one_nI] at s1
  unfold f_X5_isCouple cp
  by_cases e : i = o
  · rw [if_pos (by rw [e])]
    simp [e]
  · rw [if_neg (fun q => e ((nI_inj (by omega) (by omega)).mp q)), s0, s1]
    simp only [bd_s, e, ne_eq, not_false_eq_true, decide_true, Bool.true_and]
    cases se (lvf h lv) 0 j i <;> cases se (lvf h lv) 1 j o <;> rfl
/-- as what a couple makes it known -/
def tl (f hl : Nat → Int32) (j i o : Nat) : Int32 := 10 * sy f hl 0 j i + sy f hl 1 j o
theorem C_toldBy {a : Nat} {f hl : Nat → Int32} (H : CR h a f hl n m) (hF : FR f n m) {i o j : Nat} (hi : i < n) (ho : o < n) (hj : j < m) (hc : cp f j i o = true) : f_X1_toldBy h a (nI i) (nI o) (nI j) = some (tl f hl j i o) := by
  unfold cp at hc
  simp only [Bool.and_eq_true] at hc
  have s0 := C_saidBy H hF hi hj (s := 0) (by omega)
  have s1 := C_saidBy H hF ho hj (s := 1) (by omega)
  rw [nI_0, if_pos hc.2.1] at s0
  rw [← one_nI, if_pos hc.2.2] at s1
  unfold f_X1_toldBy
  rw [s0, s1]
  rfl
theorem M_sworn {lv i o j : Nat} (hl : lv < 2) (hi : i < 6) (ho : o < 6) (hj : j < 4) : f_X5_sworn h (nI lv) (nI i) (nI o) (nI j) = some (tl (lvf h lv) (h.1 37) j i o) := by
  have s0 := M_saysOn h hl hi hj (s := 0) (by omega)
  have s1 := M_saysOn h hl ho hj (s := 1) (by omega)
  rw [nI_0] at s0
  rw [← one_nI] at s1
  unfold f_X5_sworn
  rw [s0, s1]
  rfl
theorem C_asItIs {a : Nat} {f hl : Nat → Int32} (H : CR h a f hl n m) {j : Nat} (hj : j < m) : f_X1_asItIs h a (nI j) = some (10 * hl j + hl (4 + j)) := by
  unfold f_X1_asItIs
  rw [C_halfL H hj, C_halfR H hj]
  rfl
def cpk (f : Nat → Int32) (n j k : Nat) : Bool := cp f j (k / n) (k % n)
def cpr (f hl : Nat → Int32) (n j k : Nat) : Bool := cp f j (k / n) (k % n) && decide (tl f hl j (k / n) (k % n) = 10 * hl j + hl (4 + j))
theorem C_couplesOf {a : Nat} {f hl : Nat → Int32} (H : CR h a f hl n m) (hF : FR f n m) {j : Nat} (hj : j < m) (w : Int32) : f_X1_couplesOf h a (nI j) w = some (nI (cN (if w = 0 then cpk f n j else cpr f hl n j) (n * n))) := by
  have h6 := H.1.2.2.1
  have hnn : n * n ≤ 36 := Nat.mul_le_mul h6 h6
  generalize hg : (if w = 0 then cpk f n j else cpr f hl n j) = g
  unfold f_X1_couplesOf
  refine fin2 (fun i => nI (cN g (n * i))) (fun i => nI i) n (fun rec i hi => ?_) (fun rec => ?_) 400 0 (by omega) (by omega)
  · simp only [H.1.1]
    rw [if_pos (nI_lt hi (by omega))]
    have hin : n * i + n ≤ 36 := by
      have : n * (i + 1) ≤ n * n := Nat.mul_le_mul_left n hi
      rw [Nat.mul_succ] at this
      omega
    refine fin2 (fun o => nI (cN g (n * i + o))) (fun o => nI o) n (fun rec2 o ho => ?_) (fun rec2 => ?_) 400 0 (by omega) (by omega)
    · rw [if_pos (nI_lt ho (by omega)), C_isCouple H hi ho hj, bd_s]
      have ed : (n * i + o) / n = i := by
        rw [Nat.mul_add_div (by omega), Nat.div_eq_of_lt ho, Nat.add_zero]
      have em : (n * i + o) % n = o := by
        rw [Nat.mul_add_mod, Nat.mod_eq_of_lt ho]
      simp only [jn_e, nI_p1]
      have estep : cN g (n * i + (o + 1)) = if g (n * i + o) = true then cN g (n * i + o) + 1 else cN g (n * i + o) := rfl
      have eg : g (n * i + o) = (cp f j i o && (decide (w = 0) || decide (tl f hl j i o = 10 * hl j + hl (4 + j)))) := by
        rw [← hg]
        by_cases w0 : w = 0
        · rw [if_pos w0]
          unfold cpk
          rw [ed, em]
          simp [w0]
        · rw [if_neg w0]
          unfold cpr
          rw [ed, em]
          simp [w0]
      rw [estep, eg]
      by_cases hc : cp f j i o = true
      · rw [if_pos hc, hc, Bool.true_and]
        by_cases w0 : w = 0
        · rw [if_pos w0, if_pos (by simp [w0])]
        · rw [if_neg w0, C_toldBy H hF hi ho hj hc, C_asItIs H hj, bd_s, bd_s]
          by_cases ht : tl f hl j i o = 10 * hl j + hl (4 + j)
          · rw [if_pos ht, if_pos (by simp [ht])]
          · rw [if_neg ht, if_neg (by simp [w0, ht])]
      · have hc' : cp f j i o = false := by simpa using hc
        rw [if_neg hc, hc', Bool.false_and, if_neg (by decide)]
    · rw [if_neg (nI_nlt (Nat.le_refl _) (by omega)), nI_p1]
      rfl
  · simp only [H.1.1]
    rw [if_neg (nI_nlt (Nat.le_refl _) (by omega))]
theorem C_first {a : Nat} {f hl : Nat → Int32} (H : CR h a f hl n m) {j : Nat} (hj : j < m) : f_X1_firstCoupleOf h a (nI j) = some (fsN (cpk f n j) (fun k => 10 * nI (k / n) + nI (k % n)) (n * n)) := by
  have h6 := H.1.2.2.1
  have hnn : n * n ≤ 36 := Nat.mul_le_mul h6 h6
  rw [← fs_end _ _ (show n * n < 2 ^ 31 by omega)]
  unfold f_X1_firstCoupleOf
  have key : ∀ f0 i, i ≤ n → n < f0 + i → loop1 (fun rec2 (i1 : Int32) => if i1 < (h.1 a 0) then (loop1 (fun rec5 (i4 : Int32) => if i4 < (h.1 a 0) then (bd (f_X1_isCouple h a i1 i4 (nI j)) fun r7 => if r7 = true then (some ((10 * i1) + i4)) else (rec5 (i4 + 1))) else (rec2 (i1 + 1))) 400 0) else (some (-9))) f0 (nI i) = srO (cpk f n j) (fun k => some (10 * nI (k / n) + nI (k % n))) (some (-9)) (n * (n - i)) (n * i) := by
    intro f0
    induction f0 with
    | zero => intro i h1 h2; omega
    | succ f0 ih =>
      intro i h1 h2
      show (if nI i < h.1 a 0 then _ else _) = _
      rw [H.1.1]
      by_cases hi : i < n
      · rw [if_pos (nI_lt hi (by omega))]
        have e1 := esc1 (body := fun rec5 (i4 : Int32) => if i4 < nI n then (bd (f_X1_isCouple h a (nI i) i4 (nI j)) fun r7 => if r7 = true then (some ((10 * nI i) + i4)) else (rec5 (i4 + 1))) else (srO (cpk f n j) (fun k => some (10 * nI (k / n) + nI (k % n))) (some (-9)) (n * (n - (i + 1))) (n * (i + 1)))) (fun o => nI o) n (fun o => cp f j i o) (fun o => some (10 * nI i + nI o)) (fun rec o ho => by
          rw [if_pos (nI_lt ho (by omega)), C_isCouple H hi ho hj, bd_s, nI_p1]) (fun rec => by
          rw [if_neg (nI_nlt (Nat.le_refl _) (by omega))]) 400 0 (by omega) (by omega)
        rw [Nat.sub_zero] at e1
        have e2 := srO_sh (fun o => cp f j i o) (cpk f n j) (fun o => some (10 * nI i + nI o)) (fun k => some (10 * nI (k / n) + nI (k % n))) (srO (cpk f n j) (fun k => some (10 * nI (k / n) + nI (k % n))) (some (-9)) (n * (n - (i + 1))) (n * (i + 1))) (n * i) n 0 (fun o _ ho => by
          have ho : o < n := by omega
          have ed : (n * i + o) / n = i := by
            rw [Nat.mul_add_div (by omega), Nat.div_eq_of_lt ho, Nat.add_zero]
          have em : (n * i + o) % n = o := by
            rw [Nat.mul_add_mod, Nat.mod_eq_of_lt ho]
          unfold cpk
          rw [ed, em]
          exact ⟨rfl, rfl⟩)
        have e3 := srO_app (cpk f n j) (fun k => some (10 * nI (k / n) + nI (k % n))) (some (-9)) n (n * (n - (i + 1))) (n * i)
        rw [show n * i + n = n * (i + 1) from rfl] at e3
        rw [Nat.add_zero] at e2
        have e1 := e1.trans (e2.trans e3)
        have e4 : n + n * (n - (i + 1)) = n * (n - i) := by
          rw [show n - i = (n - (i + 1)) + 1 by omega, Nat.mul_succ, Nat.add_comm]
        rw [e4] at e1
        rw [← e1]
        congr 1
        funext rec5 i4
        rw [nI_p1, ← ih (i + 1) (by omega) (by omega), H.1.1]
      · rw [if_neg (nI_nlt (by omega) (by omega)), show i = n by omega, Nat.sub_self, Nat.mul_zero]
        rfl
  have := key 400 0 (by omega) (by omega)
  rw [Nat.sub_zero, Nat.mul_zero] at this
  exact this
theorem dvN {x y : Nat} (hx : x < 2 ^ 31) (h0 : 0 < y) (hy : y < 2 ^ 31) : dv (nI x) (nI y) = some (nI (x / y)) := by
  unfold dv
  rw [if_neg (nI_ne0 h0 hy), pk_div hx h0 hy]
theorem rmN {x y : Nat} (hx : x < 2 ^ 31) (h0 : 0 < y) (hy : y < 2 ^ 31) : rm (nI x) (nI y) = some (nI (x % y)) := by
  unfold rm
  rw [if_neg (nI_ne0 h0 hy), pk_rem hx h0 hy]
theorem in_n (h : HS) (p : Int32) (k : Int64) {t : Nat} (hk : k.toInt = t) : f_X5_in h (Int32.toInt64 p) 0 k = some (inB p (t + 1)) := by
  rw [M_in, toI64]
  unfold inB
  rw [show (0 : Int64).toInt = 0 by decide, hk]
  congr 2
  exact decide_eq_decide.mpr (by omega)
theorem q_couples (B : Base h n m) (p w : Int32) : Both (f_X4_couples h p w) (f_X5_couples h p w) := by
  obtain ⟨H, hF, hn, hm⟩ := B
  have h6 := H.1.2.2.1
  have h4 := H.1.2.2.2
  have hnn : n * n ≤ 36 := Nat.mul_le_mul h6 h6
  unfold f_X4_couples f_X5_couples
  rw [C_isMatter H, M_isMatter hm h4, bd_s, bd_s]
  rcases nI_rng p m (by omega) with ⟨j, hj, rfl⟩ | hz
  · rw [inB_nI hj (by omega), if_pos rfl, if_pos rfl, in_n h w 2 (t := 2) (by decide), bd_s, hn]
    have key : ∀ w : Int32, loop4 (fun rec7 (i3 : Int32) (i4 : Int32) (i5 : Int32) (i6 : Int32) => if i6 < (nI n * nI n) then (bd (dv i6 (nI n)) fun r9 => bd (rm i6 (nI n)) fun r10 => bd (f_X5_isCouple h 0 r9 r10 (nI j)) fun r11 => jn (fun (w12 : Int32) (w13 : Int32) (w14 : Int32) => rec7 w12 w13 w14 (i6 + 1)) (fun j15 => if r11 = true then (jn (fun (t17 : Int32) => bd (f_X5_sworn h 0 r9 r10 (nI j)) fun r20 => bd (rd h 37 8 (nI j)) fun r21 => bd (rd h 37 8 (4 + nI j)) fun r22 => jn (fun (t23 : Int32) => Lt (i4 + t23) fun v26 => j15 (i3 + 1) v26 t17) (fun j24 => if r20 = ((10 * r21) + r22) then (j24 1) else (j24 0))) (fun j18 => if i3 = 0 then (j18 ((10 * r9) + r10)) else (j18 i5))) else (j15 i3 i4 i5))) else (if w = 0 then (some i3) else (if w = 1 then (some i4) else (some i5)))) 400 0 0 (-9) 0 = some (if w = 0 then nI (cN (cpk (lvf h 0) n j) (n * n)) else if w = 1 then nI (cN (cpr (lvf h 0) (h.1 37) n j) (n * n)) else fsN (cpk (lvf h 0) n j) (fun k => 10 * nI (k / n) + nI (k % n)) (n * n)) := by
      intro w
      refine fin4 (fun k => nI (cN (cpk (lvf h 0) n j) k)) (fun k => nI (cN (cpr (lvf h 0) (h.1 37) n j) k)) (fun k => fsN (cpk (lvf h 0) n j) (fun k => 10 * nI (k / n) + nI (k % n)) k) (fun k => nI k) (n * n) (fun rec k hk => ?_) (fun rec => ?_) 400 0 (by omega) (by omega)
      · have hn0 : 0 < n := by
          rcases Nat.eq_zero_or_pos n with q | q
          · subst q; omega
          · exact q
        have hd : k / n < n := Nat.div_lt_of_lt_mul hk
        have hmod : k % n < n := Nat.mod_lt _ hn0
        have ei := M_isCouple (h := h) (lv := 0) (by omega) (show k / n < 6 by omega) (show k % n < 6 by omega) (show j < 4 by omega)
        have es := M_sworn (h := h) (lv := 0) (by omega) (show k / n < 6 by omega) (show k % n < 6 by omega) (show j < 4 by omega)
        rw [nI_0] at ei es
        rw [pk_mul, if_pos (nI_lt hk (by omega)), dvN (by omega) hn0 (by omega), rmN (by omega) hn0 (by omega), bd_s, bd_s, ei, bd_s]
        simp only [jn_e, nI_p1]
        have c1 : cN (cpk (lvf h 0) n j) (k + 1) = if cpk (lvf h 0) n j k = true then cN (cpk (lvf h 0) n j) k + 1 else cN (cpk (lvf h 0) n j) k := rfl
        have c2 : cN (cpr (lvf h 0) (h.1 37) n j) (k + 1) = if cpr (lvf h 0) (h.1 37) n j k = true then cN (cpr (lvf h 0) (h.1 37) n j) k + 1 else cN (cpr (lvf h 0) (h.1 37) n j) k := rfl
        have c3 : fsN (cpk (lvf h 0) n j) (fun k => 10 * nI (k / n) + nI (k % n)) (k + 1) = if cpk (lvf h 0) n j k = true then (if nI (cN (cpk (lvf h 0) n j) k) = 0 then 10 * nI (k / n) + nI (k % n) else fsN (cpk (lvf h 0) n j) (fun k => 10 * nI (k / n) + nI (k % n)) k) else fsN (cpk (lvf h 0) n j) (fun k => 10 * nI (k / n) + nI (k % n)) k := rfl
        rw [c1, c2, c3]
        by_cases hc : cp (lvf h 0) j (k / n) (k % n) = true
        · have hg : cpk (lvf h 0) n j k = true := hc
          rw [if_pos hc, if_pos hg, if_pos hg, es, rd37 h (by omega), L4, nI_add, rd37 h (by omega)]
          simp only [bd_s, Lt_e]
          have hx : ∀ x : Int32, x + 0 = x := Int32.add_zero
          by_cases hz : nI (cN (cpk (lvf h 0) n j) k) = 0
          · rw [if_pos hz, if_pos hz]
            by_cases ht : tl (lvf h 0) (h.1 37) j (k / n) (k % n) = 10 * h.1 37 j + h.1 37 (4 + j)
            · have hr : cpr (lvf h 0) (h.1 37) n j k = true := by unfold cpr; rw [hc]; simp [ht]
              rw [if_pos ht, if_pos hr]
            · have hr : ¬ cpr (lvf h 0) (h.1 37) n j k = true := by unfold cpr; rw [hc]; simp [ht]
              rw [if_neg ht, if_neg hr, hx]
          · rw [if_neg hz, if_neg hz]
            by_cases ht : tl (lvf h 0) (h.1 37) j (k / n) (k % n) = 10 * h.1 37 j + h.1 37 (4 + j)
            · have hr : cpr (lvf h 0) (h.1 37) n j k = true := by unfold cpr; rw [hc]; simp [ht]
              rw [if_pos ht, if_pos hr]
            · have hr : ¬ cpr (lvf h 0) (h.1 37) n j k = true := by unfold cpr; rw [hc]; simp [ht]
              rw [if_neg ht, if_neg hr, hx]
        · have hg : ¬ cpk (lvf h 0) n j k = true := hc
          have hr : ¬ cpr (lvf h 0) (h.1 37) n j k = true := by unfold cpr; simp [hc]
          rw [if_neg hc, if_neg hg, if_neg hg, if_neg hr]
      · skip
        rw [pk_mul, if_neg (nI_nlt (Nat.le_refl _) (by omega))]
        by_cases w0 : w = 0
        · rw [if_pos w0, if_pos w0]
        · rw [if_neg w0, if_neg w0]
          by_cases w1 : w = 1
          · rw [if_pos w1, if_pos w1]
          · rw [if_neg w1, if_neg w1]
    rw [key w]
    have q0 := C_couplesOf H hF hj 0
    have q1 := C_couplesOf H hF hj 1
    rw [if_pos rfl] at q0
    rw [if_neg (by decide)] at q1
    rw [q0, q1, C_first H hj]
    rcases nI_rng w 3 (by omega) with ⟨t, ht, rfl⟩ | hz
    · rw [inB_nI ht (by omega)]
      rcases (by omega : t = 0 ∨ t = 1 ∨ t = 2) with rfl | rfl | rfl <;> exact ⟨_, rfl, rfl⟩
    · rw [inB_out hz]
      have w0 : w ≠ 0 := fun e => by subst e; exact hz (by decide)
      have w1 : w ≠ 1 := fun e => by subst e; exact hz (by decide)
      have w2 : w ≠ 2 := fun e => by subst e; exact hz (by decide)
      rw [if_neg w0, if_neg w1, if_neg w2]
      exact ⟨_, rfl, rfl⟩
  · rw [inB_out hz]
    exact ⟨_, rfl, rfl⟩
end CPL
