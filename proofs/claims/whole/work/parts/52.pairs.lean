/-! most pairs: loops with a purpose, rows of pairs -/
theorem inv1 {A R : Type} {body : (A → Option R) → A → Option R} {Q : Option R → Prop} (P : Nat → A → Prop) (N : Nat) (hs : ∀ rec i a, i < N → P i a → (∀ a', P (i + 1) a' → Q (rec a')) → Q (body rec a)) (he : ∀ rec a, P N a → Q (body rec a)) : ∀ f i a, i ≤ N → N < f + i → P i a → Q (loop1 body f a) := by
  intro f
  induction f with
  | zero => intro i a h1 h2; omega
  | succ f ih =>
    intro i a h1 h2 hp
    show Q (body (loop1 body f) a)
    by_cases hi : i < N
    · exact hs _ i a hi hp fun a' h' => ih (i + 1) a' (by omega) (by omega) h'
    · have e : i = N := by omega
      subst e
      exact he _ a hp
theorem inv2 {A B R : Type} {body : (A → B → Option R) → A → B → Option R} {Q : Option R → Prop} (P : Nat → A → B → Prop) (N : Nat) (hs : ∀ rec i a b, i < N → P i a b → (∀ a' b', P (i + 1) a' b' → Q (rec a' b')) → Q (body rec a b)) (he : ∀ rec a b, P N a b → Q (body rec a b)) : ∀ f i a b, i ≤ N → N < f + i → P i a b → Q (loop2 body f a b) := by
  intro f
  induction f with
  | zero => intro i a b h1 h2; omega
  | succ f ih =>
    intro i a b h1 h2 hp
    show Q (body (loop2 body f) a b)
    by_cases hi : i < N
    · exact hs _ i a b hi hp fun a' b' h' => ih (i + 1) a' b' (by omega) (by omega) h'
    · have e : i = N := by omega
      subst e
      exact he _ a b hp
theorem inv3 {A B C R : Type} {body : (A → B → C → Option R) → A → B → C → Option R} {Q : Option R → Prop} (P : Nat → A → B → C → Prop) (N : Nat) (hs : ∀ rec i a b c, i < N → P i a b c → (∀ a' b' c', P (i + 1) a' b' c' → Q (rec a' b' c')) → Q (body rec a b c)) (he : ∀ rec a b c, P N a b c → Q (body rec a b c)) : ∀ f i a b c, i ≤ N → N < f + i → P i a b c → Q (loop3 body f a b c) := by
  intro f
  induction f with
  | zero => intro i a b c h1 h2; omega
  | succ f ih =>
    intro i a b c h1 h2 hp
    show Q (body (loop3 body f) a b c)
    by_cases hi : i < N
    · exact hs _ i a b c hi hp fun a' b' c' h' => ih (i + 1) a' b' c' (by omega) (by omega) h'
    · have e : i = N := by omega
      subst e
      exact he _ a b c hp
/-- an edge: two who are a couple for some matter -/
def eg (f : Nat → Int32) (m i o : Nat) : Bool := anyB (fun j => cp f j i o || cp f j o i) m
def mk2 (i o : Nat) : Int32 := (1 <<< (nI i &&& 31)) ||| (1 <<< (nI o &&& 31))
theorem KN_eg (f : Nat → Int32) {n m i o : Nat} (n6 : n ≤ 6) (m4 : m ≤ 4) (hi : i < n) (ho : o < n) (hio : i ≠ o) : KN f n m (mk2 i o) ≠ 0 ↔ eg f m i o = true := by
  unfold KN eg mk2
  rw [ne0_bt, any_true]
  constructor
  · rintro ⟨j, hj, hb⟩
    rw [bt_mkk _ m (by omega), Bool.and_eq_true, decide_eq_true_eq] at hb
    refine ⟨j, hb.1, ?_⟩
    rw [← HC_pair f n6 hi ho hio]
    exact hb.2
  · rintro ⟨j, hj, hb⟩
    refine ⟨j, by omega, ?_⟩
    rw [bt_mkk _ m (by omega), decide_eq_true hj, Bool.true_and, HC_pair f n6 hi ho hio]
    exact hb
theorem C_some {h : HS} {a : Nat} {f hl : Nat → Int32} {n m : Nat} (H : CR h a f hl n m) {i o : Nat} (hi : i < n) (ho : o < n) : f_X1_areCoupleForSome h a (nI i) (nI o) = some (eg f m i o) := by
  have m4 := H.1.2.2.2
  unfold f_X1_areCoupleForSome
  refine inv1 (Q := fun r => r = some (eg f m i o)) (fun j x => x = nI j ∧ anyB (fun j => cp f j i o || cp f j o i) j = false) m (fun rec j x hj P ih => ?_) (fun rec x P => ?_) 400 0 0 (by omega) (by omega) ⟨nI_0.symm, rfl⟩
  · obtain ⟨rfl, P⟩ := P
    have yes : (cp f j i o || cp f j o i) = true → some true = some (eg f m i o) := fun z => by
      congr 1
      exact ((any_true _ m).mpr ⟨j, hj, z⟩).symm
    simp only [H.1.2.1]
    rw [if_pos (nI_lt hj (by omega)), C_isCouple H hi ho hj, bd_s]
    by_cases q : cp f j i o = true
    · rw [if_pos q]
      exact yes (by rw [q, Bool.true_or])
    · rw [if_neg q, C_isCouple H ho hi hj, bd_s]
      by_cases q2 : cp f j o i = true
      · rw [if_pos q2]
        exact yes (by rw [q2, Bool.or_true])
      · rw [if_neg q2, nI_p1]
        refine ih _ ⟨rfl, ?_⟩
        show (anyB _ j || (cp f j i o || cp f j o i)) = false
        rw [P, b2n q, b2n q2]
        rfl
  · obtain ⟨rfl, P⟩ := P
    simp only [H.1.2.1]
    rw [if_neg (nI_nlt (Nat.le_refl _) (by omega))]
    show some false = some (anyB _ m)
    rw [P]
/-! sets of people as numbers -/
def del (S p : Nat) : Nat := if S.testBit p = true then S - 2 ^ p else S
theorem del_t : ∀ S, S < 64 → ∀ p, p < 6 → ∀ q, q < 6 → (del S p).testBit q = (S.testBit q && !decide (q = p)) := by decide +kernel
theorem del_lt : ∀ S, S < 64 → ∀ p, p < 6 → del S p ≤ S ∧ (S.testBit p = true → del S p < S) := by decide +kernel
theorem del_I : ∀ S, S < 64 → ∀ p, p < 6 → nI S &&& ((1 <<< (nI p &&& 31)) ^^^ (-1)) = nI (del S p) := by decide +kernel
def lst (S : Nat) : Nat := if S.testBit 0 = true then 0 else if S.testBit 1 = true then 1 else if S.testBit 2 = true then 2 else if S.testBit 3 = true then 3 else if S.testBit 4 = true then 4 else 5
theorem lst_p : ∀ S, S < 64 → S ≠ 0 → S.testBit (lst S) = true ∧ lst S < 6 ∧ ∀ q, q < lst S → S.testBit q = false := by decide +kernel
theorem X4_least0 : ∀ S, S < 64 → f_X4_leastIn hs0 (nI S) = some (if S = 0 then -9 else nI (lst S)) := by decide +kernel
theorem X4_leastIn (h : HS) {S : Nat} (hS : S < 64) : f_X4_leastIn h (nI S) = some (if S = 0 then -9 else nI (lst S)) := X4_least0 S hS
def ED (e : Nat → Nat → Bool) (S i o : Nat) : Prop := i < o ∧ o < 6 ∧ S.testBit i = true ∧ S.testBit o = true ∧ e i o = true
def tw (i o : Nat) : Nat := 10 * (i + 1) + o + 1
def V1 (e : Nat → Nat → Bool) (S r : Nat) : Prop := ∃ i o, ED e S i o ∧ r = tw i o
def V2 (e : Nat → Nat → Bool) (S r : Nat) : Prop := ∃ i o i' o', ED e S i o ∧ ED e S i' o' ∧ i < i' ∧ i' ≠ o ∧ o' ≠ o ∧ r = 100 * tw i o + tw i' o'
def V3 (e : Nat → Nat → Bool) (S r : Nat) : Prop := ∃ i o i' o' i'' o'', ED e S i o ∧ ED e S i' o' ∧ ED e S i'' o'' ∧ (i < i' ∧ i' < i'') ∧ (i' ≠ o ∧ o' ≠ o) ∧ (i'' ≠ o ∧ i'' ≠ o' ∧ o'' ≠ o ∧ o'' ≠ o') ∧ r = 10000 * tw i o + 100 * tw i' o' + tw i'' o''
/-- r is a row of k pairs within S -/
def VR (e : Nat → Nat → Bool) (S k r : Nat) : Prop := (k = 0 ∧ r = 0) ∨ (k = 1 ∧ V1 e S r) ∨ (k = 2 ∧ V2 e S r) ∨ (k = 3 ∧ V3 e S r)
def Rg (k r : Nat) : Prop := (k = 0 ∧ r = 0) ∨ (k = 1 ∧ 0 < r ∧ r < 100) ∨ (k = 2 ∧ 100 ≤ r ∧ r < 10000) ∨ (k = 3 ∧ 10000 ≤ r ∧ r < 1000000)
theorem VR_Rg {e : Nat → Nat → Bool} {S k r : Nat} (H : VR e S k r) : Rg k r := by
  unfold Rg
  rcases H with h | ⟨rfl, i, o, h1, rfl⟩ | ⟨rfl, i, o, i', o', h1, h2, q1, q2, q3, rfl⟩ | ⟨rfl, i, o, i', o', i'', o'', h1, h2, h3, q1, q2, q3, rfl⟩
  · exact Or.inl h
  · have := h1.1; have := h1.2.1
    unfold tw; omega
  · have := h1.1; have := h1.2.1; have := h2.1; have := h2.2.1
    unfold tw; omega
  · have := h1.1; have := h1.2.1; have := h2.1; have := h2.2.1; have := h3.1; have := h3.2.1
    unfold tw; omega
theorem ED_del {e : Nat → Nat → Bool} {S p i o : Nat} (hS : S < 64) (hp : p < 6) : ED e (del S p) i o ↔ ED e S i o ∧ i ≠ p ∧ o ≠ p := by
  unfold ED
  constructor
  · rintro ⟨h1, h2, h3, h4, h5⟩
    rw [del_t S hS p hp _ (by omega), Bool.and_eq_true, Bool.not_eq_true', decide_eq_false_iff_not] at h3 h4
    exact ⟨⟨h1, h2, h3.1, h4.1, h5⟩, h3.2, h4.2⟩
  · rintro ⟨⟨h1, h2, h3, h4, h5⟩, q1, q2⟩
    refine ⟨h1, h2, ?_, ?_, h5⟩
    · rw [del_t S hS p hp _ (by omega), h3, decide_eq_false q1]; rfl
    · rw [del_t S hS p hp _ (by omega), h4, decide_eq_false q2]; rfl
def alB (g : Nat → Bool) : Nat → Bool
  | 0 => true
  | n + 1 => g n && alB g n
theorem alB_i {g : Nat → Bool} {i : Nat} : ∀ {n : Nat}, alB g n = true → i < n → g i = true
  | 0, _, h => absurd h (by omega)
  | n + 1, e, h => by
    rw [alB, Bool.and_eq_true] at e
    by_cases q : i = n
    · rw [q]; exact e.1
    · exact alB_i e.2 (by omega)
theorem imB {c d : Bool} (h : (!c || d) = true) (hc : c = true) : d = true := by subst hc; exact h
def s7 (i o a b c d q : Nat) : Bool := decide (q = i ∨ q = o ∨ q = a ∨ q = b ∨ q = c ∨ q = d)
def s6 (i o a b c d : Nat) : Bool := !(decide (a < c ∧ c ≠ o ∧ c ≠ b ∧ c < d ∧ d ≠ o ∧ d ≠ b)) || alB (s7 i o a b c d) 6
def s5 (i o a b c : Nat) : Bool := alB (s6 i o a b c) 6
def s4 (i o a b : Nat) : Bool := !(decide (i < a ∧ a ≠ o ∧ a < b ∧ b ≠ o)) || alB (s5 i o a b) 6
def s3 (i o a : Nat) : Bool := alB (s4 i o a) 6
def s2 (i o : Nat) : Bool := !(decide (i < o)) || alB (s3 i o) 6
def s1 (i : Nat) : Bool := alB (s2 i) 6
theorem s0 : alB s1 6 = true := by decide +kernel
theorem six {i o i' o' i'' o'' q : Nat} (a1 : i < o) (a2 : o < 6) (a3 : i' < o') (a4 : o' < 6) (a5 : i'' < o'') (a6 : o'' < 6) (b1 : i < i') (b2 : i' < i'') (b3 : i' ≠ o) (b4 : o' ≠ o) (b5 : i'' ≠ o) (b6 : i'' ≠ o') (b7 : o'' ≠ o) (b8 : o'' ≠ o') (hq : q < 6) : q = i ∨ q = o ∨ q = i' ∨ q = o' ∨ q = i'' ∨ q = o'' := by
  have t1 : s1 i = true := alB_i s0 (show i < 6 by omega)
  have t2 : s2 i o = true := alB_i t1 a2
  have t3 : s3 i o i' = true := alB_i (imB t2 (decide_eq_true a1)) (show i' < 6 by omega)
  have t4 : s4 i o i' o' = true := alB_i t3 a4
  have t5 : s5 i o i' o' i'' = true := alB_i (imB t4 (decide_eq_true ⟨b1, b3, a3, b4⟩)) (show i'' < 6 by omega)
  have t6 : s6 i o i' o' i'' o'' = true := alB_i t5 a6
  have t7 : s7 i o i' o' i'' o'' q = true := alB_i (imB t6 (decide_eq_true ⟨b2, b5, b6, a5, b7, b8⟩)) hq
  exact of_decide_eq_true t7
theorem V3_all {e : Nat → Nat → Bool} {S r : Nat} (H : V3 e S r) {q : Nat} (hq : q < 6) : S.testBit q = true := by
  obtain ⟨i, o, i', o', i'', o'', h1, h2, h3, q1, q2, q3, -⟩ := H
  have a1 := h1.1; have a2 := h1.2.1; have a3 := h2.1; have a4 := h2.2.1; have a5 := h3.1; have a6 := h3.2.1
  rcases six a1 a2 a3 a4 a5 a6 q1.1 q1.2 q2.1 q2.2 q3.1 q3.2.1 q3.2.2.1 q3.2.2.2 hq with rfl | rfl | rfl | rfl | rfl | rfl
  · exact h1.2.2.1
  · exact h1.2.2.2.1
  · exact h2.2.2.1
  · exact h2.2.2.2.1
  · exact h3.2.2.1
  · exact h3.2.2.2.1
/-- the least of a set is paired, or left alone -/
theorem VR_step {e : Nat → Nat → Bool} {S l : Nat} (hS : S < 64) (hl : l < 6) (hb : S.testBit l = true) (hm : ∀ q, q < l → S.testBit q = false) (k r : Nat) :
    VR e S k r ↔ VR e (del S l) k r ∨ ∃ o, ED e S l o ∧ ∃ k' r', VR e (del (del S l) o) k' r' ∧ k = k' + 1 ∧ r = tw l o * 100 ^ k' + r' := by
  have hS2 : del S l < 64 := Nat.lt_of_le_of_lt (del_lt S hS l hl).1 hS
  have big : ∀ {i}, S.testBit i = true → i ≠ l → l < i := by
    intro i h1 h2
    rcases Nat.lt_or_ge i l with z | z
    · rw [hm i z] at h1; cases h1
    · omega
  have dl : ∀ {i o}, ED e S i o → i ≠ l → ED e (del S l) i o := fun h hne => (ED_del hS hl).mpr ⟨h, hne, by have := big h.2.2.1 hne; have := h.1; omega⟩
  have dd : ∀ {o i' o'}, o < 6 → ED e S i' o' → i' ≠ l → i' ≠ o → o' ≠ o → ED e (del (del S l) o) i' o' := fun h6 h z1 z2 z3 => (ED_del hS2 h6).mpr ⟨dl h z1, z2, z3⟩
  have ud : ∀ {i o}, ED e (del S l) i o → ED e S i o ∧ l < i := fun h => by
    have := (ED_del hS hl).mp h
    exact ⟨this.1, big this.1.2.2.1 this.2.1⟩
  have ud2 : ∀ {o i' o'}, o < 6 → ED e (del (del S l) o) i' o' → ED e S i' o' ∧ l < i' ∧ i' ≠ o ∧ o' ≠ o := fun h6 h => by
    have := (ED_del hS2 h6).mp h
    exact ⟨(ud this.1).1, (ud this.1).2, this.2.1, this.2.2⟩
  constructor
  · rintro (h | ⟨rfl, i, o, h1, rfl⟩ | ⟨rfl, i, o, i', o', h1, h2, q1, q2, q3, rfl⟩ | ⟨rfl, i, o, i', o', i'', o'', h1, h2, h3, q1, q2, q3, rfl⟩)
    · exact Or.inl (Or.inl h)
    · by_cases z : i = l
      · rw [z] at h1 ⊢
        refine Or.inr ⟨o, h1, 0, 0, Or.inl ⟨rfl, rfl⟩, rfl, ?_⟩
        rw [Nat.pow_zero, Nat.mul_one, Nat.add_zero]
      · exact Or.inl (Or.inr (Or.inl ⟨rfl, i, o, dl h1 z, rfl⟩))
    · by_cases z : i = l
      · rw [z] at h1 q1 ⊢
        refine Or.inr ⟨o, h1, 1, tw i' o', Or.inr (Or.inl ⟨rfl, i', o', dd h1.2.1 h2 (by omega) q2 q3, rfl⟩), rfl, ?_⟩
        rw [Nat.pow_one, Nat.mul_comm]
      · have zz := big h1.2.2.1 z
        exact Or.inl (Or.inr (Or.inr (Or.inl ⟨rfl, i, o, i', o', dl h1 z, dl h2 (by omega), q1, q2, q3, rfl⟩)))
    · by_cases z : i = l
      · rw [z] at h1 q1 ⊢
        refine Or.inr ⟨o, h1, 2, 100 * tw i' o' + tw i'' o'', Or.inr (Or.inr (Or.inl ⟨rfl, i', o', i'', o'', dd h1.2.1 h2 (by omega) q2.1 q2.2, dd h1.2.1 h3 (by omega) q3.1 q3.2.2.1, q1.2, q3.2.1, q3.2.2.2, rfl⟩)), rfl, ?_⟩
        rw [show (100 : Nat) ^ 2 = 10000 by decide, Nat.mul_comm (tw l o), Nat.add_assoc]
      · have zz := big h1.2.2.1 z
        exact Or.inl (Or.inr (Or.inr (Or.inr ⟨rfl, i, o, i', o', i'', o'', dl h1 z, dl h2 (by omega), dl h3 (by omega), q1, q2, q3, rfl⟩)))
  · rintro (h | ⟨o, h1, k', r', h, rfl, rfl⟩)
    · rcases h with h | ⟨rfl, i, o, h1, rfl⟩ | ⟨rfl, i, o, i', o', h1, h2, q1, q2, q3, rfl⟩ | ⟨rfl, i, o, i', o', i'', o'', h1, h2, h3, q1, q2, q3, rfl⟩
      · exact Or.inl h
      · exact Or.inr (Or.inl ⟨rfl, i, o, (ud h1).1, rfl⟩)
      · exact Or.inr (Or.inr (Or.inl ⟨rfl, i, o, i', o', (ud h1).1, (ud h2).1, q1, q2, q3, rfl⟩))
      · exact Or.inr (Or.inr (Or.inr ⟨rfl, i, o, i', o', i'', o'', (ud h1).1, (ud h2).1, (ud h3).1, q1, q2, q3, rfl⟩))
    · have o6 := h1.2.1
      rcases h with ⟨rfl, rfl⟩ | ⟨rfl, i', o', h2, rfl⟩ | ⟨rfl, i', o', i'', o'', h2, h3, q1, q2, q3, rfl⟩ | ⟨rfl, h3⟩
      · refine Or.inr (Or.inl ⟨rfl, l, o, h1, ?_⟩)
        rw [Nat.pow_zero, Nat.mul_one, Nat.add_zero]
      · obtain ⟨g2, z1, z2, z3⟩ := ud2 o6 h2
        refine Or.inr (Or.inr (Or.inl ⟨rfl, l, o, i', o', h1, g2, z1, z2, z3, ?_⟩))
        rw [Nat.pow_one, Nat.mul_comm]
      · obtain ⟨g2, z1, z2, z3⟩ := ud2 o6 h2
        obtain ⟨g3, z4, z5, z6⟩ := ud2 o6 h3
        refine Or.inr (Or.inr (Or.inr ⟨rfl, l, o, i', o', i'', o'', h1, g2, g3, ⟨z1, q1⟩, ⟨z2, z3⟩, ⟨z5, q2, z6, q3⟩, ?_⟩))
        rw [show (100 : Nat) ^ 2 = 10000 by decide, Nat.mul_comm (tw l o), Nat.add_assoc]
      · exfalso
        have z := V3_all h3 o6
        rw [del_t _ hS2 o o6 o o6, decide_eq_true rfl] at z
        simp at z
/-! the best row of some -/
def Op (P : Nat → Nat → Prop) (x : Int32) : Prop := ∃ k r, x = nI r ∧ Rg k r ∧ P k r ∧ ∀ k' r', P k' r' → k' < k ∨ (k' = k ∧ r ≤ r')
theorem Op_cg {P Q : Nat → Nat → Prop} {x : Int32} (e : ∀ k r, P k r ↔ Q k r) (H : Op P x) : Op Q x := by
  obtain ⟨k, r, h1, h2, h3, h4⟩ := H
  exact ⟨k, r, h1, h2, (e k r).mp h3, fun k' r' z => h4 k' r' ((e k' r').mpr z)⟩
theorem X4_pairs (h : HS) {k r : Nat} (R : Rg k r) : f_X4_pairsIn h (nI r) = some (nI k) := by
  have r31 : r < 2 ^ 31 := by unfold Rg at R; omega
  unfold f_X4_pairsIn
  rw [L100, show (10000 : Int32) = nI 10000 by decide +kernel]
  rcases R with ⟨rfl, rfl⟩ | ⟨rfl, q1, q2⟩ | ⟨rfl, q1, q2⟩ | ⟨rfl, q1, q2⟩
  · rw [if_pos nI_0]; rfl
  · rw [if_neg (nI_ne0 q1 r31), if_pos (nI_lt q2 (by omega))]; rfl
  · rw [if_neg (nI_ne0 (by omega) r31), if_neg (nI_nlt q1 r31), if_pos (nI_lt q2 (by omega))]; rfl
  · rw [if_neg (nI_ne0 (by omega) r31), if_neg (nI_nlt (by omega) r31), if_neg (nI_nlt q1 r31)]; rfl
theorem X4_better {h : HS} {k1 r1 k2 r2 : Nat} (R1 : Rg k1 r1) (R2 : Rg k2 r2) : f_X4_betterRow h (nI r1) (nI r2) = some (if k1 = k2 then (if r2 < r1 then nI r2 else nI r1) else (if k2 < k1 then nI r1 else nI r2)) := by
  have k31 : k1 < 4 ∧ k2 < 4 ∧ r1 < 2 ^ 31 ∧ r2 < 2 ^ 31 := by unfold Rg at R1 R2; omega
  unfold f_X4_betterRow
  rw [X4_pairs h R1, bd_s, X4_pairs h R2, bd_s]
  by_cases q : k1 = k2
  · rw [if_pos ((nI_eq (by omega) (by omega)).mpr q), if_pos q]
    by_cases q2 : r2 < r1
    · rw [if_pos (nI_lt q2 (by omega)), if_pos q2]
    · rw [if_neg (nI_nlt (by omega) (by omega)), if_neg q2]
  · rw [if_neg (fun z => q ((nI_eq (by omega) (by omega)).mp z)), if_neg q]
    by_cases q2 : k2 < k1
    · rw [if_pos (nI_lt q2 (by omega)), if_pos q2]
    · rw [if_neg (nI_nlt (by omega) (by omega)), if_neg q2]
theorem Op_or (h : HS) {P Q : Nat → Nat → Prop} {x y : Int32} (H1 : Op P x) (H2 : Op Q y) : ∃ z, f_X4_betterRow h x y = some z ∧ Op (fun k r => P k r ∨ Q k r) z := by
  obtain ⟨k1, r1, rfl, R1, p1, m1⟩ := H1
  obtain ⟨k2, r2, rfl, R2, p2, m2⟩ := H2
  refine ⟨_, X4_better R1 R2, ?_⟩
  have fst : (k2 < k1 ∨ (k1 = k2 ∧ r1 ≤ r2)) → Op (fun k r => P k r ∨ Q k r) (nI r1) := fun z => ⟨k1, r1, rfl, R1, Or.inl p1, fun k' r' w => by
    rcases w with w | w
    · exact m1 k' r' w
    · have := m2 k' r' w; omega⟩
  have snd : (k1 < k2 ∨ (k1 = k2 ∧ r2 ≤ r1)) → Op (fun k r => P k r ∨ Q k r) (nI r2) := fun z => ⟨k2, r2, rfl, R2, Or.inr p2, fun k' r' w => by
    rcases w with w | w
    · have := m1 k' r' w; omega
    · exact m2 k' r' w⟩
  by_cases q : k1 = k2
  · rw [if_pos q]
    by_cases q2 : r2 < r1
    · rw [if_pos q2]; exact snd (by omega)
    · rw [if_neg q2]; exact fst (by omega)
  · rw [if_neg q]
    by_cases q2 : k2 < k1
    · rw [if_pos q2]; exact fst (by omega)
    · rw [if_neg q2]; exact snd (by omega)
theorem X4_pow0 : ∀ k, k < 4 → f_X4_power hs0 100 (nI k) = some (nI (100 ^ k)) := by decide +kernel
theorem X4_pow (h : HS) {k : Nat} (hk : k < 4) : f_X4_power h 100 (nI k) = some (nI (100 ^ k)) := X4_pow0 k hk
