/-! what acts do to the 23 ints, and to a Court of the program -/
def shF (f : Nat → Int32) (p j : Nat) : Nat → Int32 := upd f (7 + p) (f (7 + p) ||| (1 <<< (nI j &&& 31)))
def unF (f : Nat → Int32) (p j : Nat) : Nat → Int32 := upd f (7 + p) (f (7 + p) &&& ((1 <<< (nI j &&& 31)) ^^^ (-1)))
def knF (f : Nat → Int32) (j : Nat) (v : Int32) : Nat → Int32 := upd f (13 + j) v
def drF (f : Nat → Int32) (p : Nat) : Nat → Int32 := upd (if f (1 + p) = 2 then upd f (1 + p) 0 else upd f 0 (f 0 ^^^ (1 <<< (nI p &&& 31)))) (17 + p) (f (17 + p) + 1)
/-- the glass is given back to one that was of kind k -/
def reF (f : Nat → Int32) (p : Nat) (k : Int32) : Nat → Int32 := upd (if k = 2 then upd f (1 + p) 2 else upd f 0 (f 0 ^^^ (1 <<< (nI p &&& 31)))) (17 + p) (f (17 + p) + (-1))
theorem upd_s (f : Nat → Int32) (k : Nat) (v : Int32) : upd f k v k = v := by simp [upd]
theorem upd_n (f : Nat → Int32) {k i : Nat} (v : Int32) (h : i ≠ k) : upd f k v i = f i := by simp [upd, h]
/-- the same but for cells of one Court -/
def Oc (a : Nat) (h h' : HS) : Prop := (∀ b k, ¬ (a ≤ b ∧ b ≤ a + 5) → h'.1 b k = h.1 b k) ∧ h'.2 = h.2
theorem Oc.rf (a : Nat) (h : HS) : Oc a h h := ⟨fun _ _ _ => rfl, rfl⟩
theorem Oc.tr {a : Nat} {h1 h2 h3 : HS} (x : Oc a h1 h2) (y : Oc a h2 h3) : Oc a h1 h3 := ⟨fun b k hb => (y.1 b k hb).trans (x.1 b k hb), y.2.trans x.2⟩
theorem Oc.set {a c k : Nat} {h : HS} {v : Int32} (hc : a ≤ c ∧ c ≤ a + 5) : Oc a h (hset h c k v) := ⟨fun b i hb => by
  rw [hs_1, if_neg]
  rintro ⟨e, -⟩
  subst e
  exact hb hc, rfl⟩
theorem CR_congr {h : HS} {a : Nat} {f f' hl : Nat → Int32} {n m : Nat} (H : CR h a f hl n m) (e : ∀ k, k < 23 → f' k = f k) : CR h a f' hl n m := by
  obtain ⟨⟨hn, hm, h6, h4⟩, he, hk, hw, hkn, hfi, hh⟩ := H
  refine ⟨⟨hn, hm, h6, h4⟩, by rw [e 0 (by omega)]; exact he, fun p hp => by rw [e _ (by omega)]; exact hk p hp, fun j hj i hi => ?_, fun j hj => by rw [e _ (by omega)]; exact hkn j hj, fun p hp => by rw [e _ (by omega)]; exact hfi p hp, hh⟩
  rw [hw j hj i hi]
  by_cases q : i < n
  · rw [e _ (by omega)]
  · simp [q]
theorem FR_congr {f f' : Nat → Int32} {n m : Nat} (h6 : n ≤ 6) (H : FR f n m) (e : ∀ k, k < 23 → f' k = f k) : FR f' n m :=
  ⟨fun p hp => by rw [e _ (by omega)]; exact H.1 p hp, fun p hp j hj => by rw [e _ (by omega)]; exact H.2 p hp j hj⟩
/-- a Court whose cells are the same -/
theorem CR_move {h h' : HS} {a : Nat} {f hl : Nat → Int32} {n m : Nat} (H : CR h a f hl n m) (e : ∀ b k, a ≤ b ∧ b ≤ a + 5 → h'.1 b k = h.1 b k) : CR h' a f hl n m := by
  obtain ⟨⟨hn, hm, h6, h4⟩, he, hk, hw, hkn, hfi, hh⟩ := H
  refine ⟨⟨?_, ?_, h6, h4⟩, ?_, fun p hp => ?_, fun j hj i hi => ?_, fun j hj => ?_, fun p hp => ?_, fun j hj => ?_⟩
  · rw [e _ _ (by omega)]; exact hn
  · rw [e _ _ (by omega)]; exact hm
  · rw [e _ _ (by omega)]; exact he
  · rw [e _ _ (by omega), e _ _ (by omega), e _ _ (by omega)]; exact hk p hp
  · rw [e _ _ (by omega)]; exact hw j hj i hi
  · rw [e _ _ (by omega)]; exact hkn j hj
  · rw [e _ _ (by omega)]; exact hfi p hp
  · rw [e _ _ (by omega), e _ _ (by omega)]; exact hh j hj
section ACTS
variable {h : HS} {a : Nat} {f hl : Nat → Int32} {n m : Nat}
theorem hs_o (h : HS) {c k b j : Nat} (v : Int32) (hne : b ≠ c ∨ j ≠ k) : (hset h c k v).1 b j = h.1 b j := by
  rw [hs_1, if_neg]
  rintro ⟨e1, e2⟩
  rcases hne with q | q
  · exact q e1
  · exact q e2
theorem hs_s (h : HS) (c k : Nat) (v : Int32) : (hset h c k v).1 c k = v := by rw [hs_1, if_pos ⟨rfl, rfl⟩]
theorem C_canSee (H : CR h a f hl n m) {p j : Nat} (hp : p < n) (hj : j < m) : f_X1_canSee h a (nI p) (nI j) = some (!bt (f (7 + p)) j) := by
  have h6 := H.1.2.2.1
  have h4 := H.1.2.2.2
  unfold f_X1_canSee
  rw [C_person H hp, C_matter H hj, rd_nI _ _ (by omega) (by omega)]
  simp only [bd_s, if_true]
  rw [bt_get _ (by omega), H.2.2.2.1 j hj p (by omega)]
  simp only [hp, decide_true, Bool.true_and]
  cases bt (f (7 + p)) j <;> rfl
theorem C_letSee (H : CR h a f hl n m) {p j : Nat} (hp : p < n) (hj : j < m) : ∃ h', f_X1_letSee h a (nI p) (nI j) = some h' ∧ CR h' a (shF f p j) hl n m ∧ Oc a h h' := by
  have h6 := H.1.2.2.1
  have h4 := H.1.2.2.2
  refine ⟨hset h (a + 1) j (h.1 (a + 1) j ||| (1 <<< (nI p &&& 31))), ?_, ?_, Oc.set (by omega)⟩
  · unfold f_X1_letSee
    rw [C_matter H hj, rd_nI _ _ (by omega) (by omega)]
    simp only [bd_s, if_true]
    rw [wr_nI _ _ _ (by omega) (by omega)]
    rfl
  · obtain ⟨⟨hn, hm, -, -⟩, he, hk, hw, hkn, hfi, hh⟩ := H
    unfold shF
    refine ⟨⟨?_, ?_, h6, h4⟩, ?_, fun q hq => ?_, fun i hi k hk2 => ?_, fun i hi => ?_, fun q hq => ?_, fun i hi => ?_⟩
    · rw [hs_o _ _ (by omega)]; exact hn
    · rw [hs_o _ _ (by omega)]; exact hm
    · rw [hs_o _ _ (by omega), upd_n _ _ (by omega)]; exact he
    · rw [hs_o _ _ (by omega), hs_o _ _ (by omega), hs_o _ _ (by omega), upd_n _ _ (by omega)]; exact hk q hq
    · by_cases e : i = j
      · subst e
        rw [hs_s, bt_or, bt_one (by omega), hw i hi k hk2]
        by_cases e2 : k = p
        · subst e2
          rw [upd_s, bt_or, bt_one (by omega)]
          simp [hp]
        · rw [upd_n _ _ (by omega)]
          simp [e2]
      · rw [hs_o _ _ (by omega), hw i hi k hk2]
        by_cases e2 : k = p
        · subst e2
          rw [upd_s, bt_or, bt_one (by omega)]
          simp [e]
        · rw [upd_n _ _ (by omega)]
    · rw [hs_o _ _ (by omega), upd_n _ _ (by omega)]; exact hkn i hi
    · rw [hs_o _ _ (by omega), upd_n _ _ (by omega)]; exact hfi q hq
    · rw [hs_o _ _ (by omega), hs_o _ _ (by omega)]; exact hh i hi
theorem C_letUnsee (H : CR h a f hl n m) {p j : Nat} (hp : p < n) (hj : j < m) : ∃ h', f_X1_letUnsee h a (nI p) (nI j) = some h' ∧ CR h' a (unF f p j) hl n m ∧ Oc a h h' := by
  have h6 := H.1.2.2.1
  have h4 := H.1.2.2.2
  refine ⟨hset h (a + 1) j (h.1 (a + 1) j &&& ((1 <<< (nI p &&& 31)) ^^^ (-1))), ?_, ?_, Oc.set (by omega)⟩
  · unfold f_X1_letUnsee
    rw [C_matter H hj, rd_nI _ _ (by omega) (by omega)]
    simp only [bd_s, if_true]
    rw [wr_nI _ _ _ (by omega) (by omega)]
    rfl
  · obtain ⟨⟨hn, hm, -, -⟩, he, hk, hw, hkn, hfi, hh⟩ := H
    unfold unF
    refine ⟨⟨?_, ?_, h6, h4⟩, ?_, fun q hq => ?_, fun i hi k hk2 => ?_, fun i hi => ?_, fun q hq => ?_, fun i hi => ?_⟩
    · rw [hs_o _ _ (by omega)]; exact hn
    · rw [hs_o _ _ (by omega)]; exact hm
    · rw [hs_o _ _ (by omega), upd_n _ _ (by omega)]; exact he
    · rw [hs_o _ _ (by omega), hs_o _ _ (by omega), hs_o _ _ (by omega), upd_n _ _ (by omega)]; exact hk q hq
    · by_cases e : i = j
      · subst e
        rw [hs_s, bt_and, bt_xor, bt_m1, bt_one (by omega), hw i hi k hk2]
        by_cases e2 : k = p
        · subst e2
          rw [upd_s, bt_and, bt_xor, bt_m1, bt_one (by omega)]
          simp [show k < 32 by omega, show i < 32 by omega]
        · rw [upd_n _ _ (by omega)]
          simp [e2, hk2]
      · rw [hs_o _ _ (by omega), hw i hi k hk2]
        by_cases e2 : k = p
        · subst e2
          rw [upd_s, bt_and, bt_xor, bt_m1, bt_one (by omega)]
          simp [e, show i < 32 by omega]
        · rw [upd_n _ _ (by omega)]
    · rw [hs_o _ _ (by omega), upd_n _ _ (by omega)]; exact hkn i hi
    · rw [hs_o _ _ (by omega), upd_n _ _ (by omega)]; exact hfi q hq
    · rw [hs_o _ _ (by omega), hs_o _ _ (by omega)]; exact hh i hi
theorem C_setKnown (H : CR h a f hl n m) {j : Nat} (hj : j < m) (v : Int32) : ∃ h', f_X1_setKnown h a (nI j) v = some h' ∧ CR h' a (knF f j v) hl n m ∧ Oc a h h' := by
  have h6 := H.1.2.2.1
  have h4 := H.1.2.2.2
  refine ⟨hset h (a + 4) j v, ?_, ?_, Oc.set (by omega)⟩
  · unfold f_X1_setKnown
    rw [C_matter H hj]
    simp only [bd_s, if_true]
    rw [wr_nI _ _ _ (by omega) (by omega)]
    rfl
  · obtain ⟨⟨hn, hm, -, -⟩, he, hk, hw, hkn, hfi, hh⟩ := H
    unfold knF
    refine ⟨⟨?_, ?_, h6, h4⟩, ?_, fun q hq => ?_, fun i hi k hk2 => ?_, fun i hi => ?_, fun q hq => ?_, fun i hi => ?_⟩
    · rw [hs_o _ _ (by omega)]; exact hn
    · rw [hs_o _ _ (by omega)]; exact hm
    · rw [hs_o _ _ (by omega), upd_n _ _ (by omega)]; exact he
    · rw [hs_o _ _ (by omega), hs_o _ _ (by omega), hs_o _ _ (by omega), upd_n _ _ (by omega)]; exact hk q hq
    · rw [hs_o _ _ (by omega), hw i hi k hk2]
      by_cases q : k < n
      · rw [upd_n _ _ (by omega)]
      · simp [q]
    · by_cases e : i = j
      · subst e; rw [hs_s, upd_s]
      · rw [hs_o _ _ (by omega), upd_n _ _ (by omega)]; exact hkn i hi
    · rw [hs_o _ _ (by omega), upd_n _ _ (by omega)]; exact hfi q hq
    · rw [hs_o _ _ (by omega), hs_o _ _ (by omega)]; exact hh i hi
/-- kinds are set -/
theorem X1_setKind (h : HS) (a p : Nat) (k : Int32) : f_X1_setKind h a (1 <<< (nI p &&& 31)) k = some (hset (hset (hset h a 3 (if k = 1 then h.1 a 3 ||| (1 <<< (nI p &&& 31)) else h.1 a 3 &&& ((1 <<< (nI p &&& 31)) ^^^ (-1)))) a 4 (if k = 2 then h.1 a 4 ||| (1 <<< (nI p &&& 31)) else h.1 a 4 &&& ((1 <<< (nI p &&& 31)) ^^^ (-1)))) a 5 (if k = 3 then h.1 a 5 ||| (1 <<< (nI p &&& 31)) else h.1 a 5 &&& ((1 <<< (nI p &&& 31)) ^^^ (-1)))) := by
  unfold f_X1_setKind
  simp only [jn_e, Lt_e]
  have e4 : ∀ v, (hset h a 3 v).1 a 4 = h.1 a 4 := fun v => hs_o _ _ (by omega)
  have e5 : ∀ v w, (hset (hset h a 3 v) a 4 w).1 a 5 = h.1 a 5 := fun v w => by rw [hs_o _ _ (by omega), hs_o _ _ (by omega)]
  by_cases k1 : k = 1
  · subst k1
    rw [if_pos rfl, if_pos rfl, if_neg (by decide), if_neg (by decide), if_neg (by decide), if_neg (by decide), e4, e5]
  · rw [if_neg k1, if_neg k1]
    by_cases k2 : k = 2
    · subst k2
      rw [if_pos rfl, if_pos rfl, if_neg (by decide), if_neg (by decide), e4, e5]
    · rw [if_neg k2, if_neg k2]
      by_cases k3 : k = 3
      · rw [if_pos k3, if_pos k3, e4, e5]
      · rw [if_neg k3, if_neg k3, e4, e5]
theorem bt_kset (x : Int32) {p i : Nat} (hp : p < 32) (hi : i < 32) (b : Bool) : bt (if b = true then x ||| (1 <<< (nI p &&& 31)) else x &&& ((1 <<< (nI p &&& 31)) ^^^ (-1))) i = if i = p then b else bt x i := by
  cases b
  · rw [if_neg (by decide), bt_and, bt_xor, bt_m1, bt_one hp]
    by_cases e : i = p
    · simp [e, hp]
    · simp [e, hi]
  · rw [if_pos rfl, bt_or, bt_one hp]
    by_cases e : i = p
    · simp [e]
    · simp [e]
/-- a kind and a fine change -/
theorem CR_kind (H : CR h a f hl n m) {p : Nat} (hp : p < n) (k : Int32) (hk03 : k = 0 ∨ k = 1 ∨ k = 2 ∨ k = 3) : ∃ h', f_X1_setKind h a (1 <<< (nI p &&& 31)) k = some h' ∧ CR h' a (upd f (1 + p) k) hl n m ∧ Oc a h h' := by
  refine ⟨_, X1_setKind h a p k, ?_, (Oc.set (by omega)).tr ((Oc.set (by omega)).tr (Oc.set (by omega)))⟩
  obtain ⟨⟨hn, hm, h6, h4⟩, he, hk, hw, hkn, hfi, hh⟩ := H
  refine ⟨⟨?_, ?_, h6, h4⟩, ?_, fun q hq => ?_, fun i hi k hk2 => ?_, fun i hi => ?_, fun q hq => ?_, fun i hi => ?_⟩
  · rw [hs_o _ _ (by omega), hs_o _ _ (by omega), hs_o _ _ (by omega)]; exact hn
  · rw [hs_o _ _ (by omega), hs_o _ _ (by omega), hs_o _ _ (by omega)]; exact hm
  · rw [hs_o _ _ (by omega), hs_o _ _ (by omega), hs_o _ _ (by omega), upd_n _ _ (by omega)]; exact he
  · obtain ⟨k1, k2, k3⟩ := hk q hq
    rw [hs_o _ _ (show a ≠ a ∨ 3 ≠ 5 by omega), hs_o _ _ (show a ≠ a ∨ 3 ≠ 4 by omega), hs_s, hs_o _ _ (show a ≠ a ∨ 4 ≠ 5 by omega), hs_s, hs_s]
    have e1 := bt_kset (h.1 a 3) (p := p) (i := q) (by omega) (by omega) (decide (k = 1))
    have e2 := bt_kset (h.1 a 4) (p := p) (i := q) (by omega) (by omega) (decide (k = 2))
    have e3 := bt_kset (h.1 a 5) (p := p) (i := q) (by omega) (by omega) (decide (k = 3))
    simp only [decide_eq_true_eq] at e1 e2 e3
    rw [e1, e2, e3]
    by_cases e : q = p
    · subst e
      rw [upd_s, if_pos rfl, if_pos rfl, if_pos rfl]
      exact ⟨rfl, rfl, rfl⟩
    · rw [upd_n _ _ (by omega), if_neg e, if_neg e, if_neg e]
      exact ⟨k1, k2, k3⟩
  · rw [hs_o _ _ (by omega), hs_o _ _ (by omega), hs_o _ _ (by omega), hw i hi k hk2]
    by_cases q : k < n
    · rw [upd_n _ _ (by omega)]
    · simp [q]
  · rw [hs_o _ _ (by omega), hs_o _ _ (by omega), hs_o _ _ (by omega), upd_n _ _ (by omega)]; exact hkn i hi
  · rw [hs_o _ _ (by omega), hs_o _ _ (by omega), hs_o _ _ (by omega), upd_n _ _ (by omega)]; exact hfi q hq
  · rw [hs_o _ _ (by omega), hs_o _ _ (by omega), hs_o _ _ (by omega), hs_o _ _ (by omega), hs_o _ _ (by omega), hs_o _ _ (by omega)]; exact hh i hi
theorem CR_eye (H : CR h a f hl n m) (v : Int32) : CR (hset h a 2 v) a (upd f 0 v) hl n m := by
  obtain ⟨⟨hn, hm, h6, h4⟩, he, hk, hw, hkn, hfi, hh⟩ := H
  refine ⟨⟨?_, ?_, h6, h4⟩, ?_, fun q hq => ?_, fun i hi k hk2 => ?_, fun i hi => ?_, fun q hq => ?_, fun i hi => ?_⟩
  · rw [hs_o _ _ (by omega)]; exact hn
  · rw [hs_o _ _ (by omega)]; exact hm
  · rw [hs_s, upd_s]
  · rw [hs_o _ _ (by omega), hs_o _ _ (by omega), hs_o _ _ (by omega), upd_n _ _ (by omega)]; exact hk q hq
  · rw [hs_o _ _ (by omega), hw i hi k hk2, upd_n _ _ (by omega)]
  · rw [hs_o _ _ (by omega), upd_n _ _ (by omega)]; exact hkn i hi
  · rw [hs_o _ _ (by omega), upd_n _ _ (by omega)]; exact hfi q hq
  · rw [hs_o _ _ (by omega), hs_o _ _ (by omega)]; exact hh i hi
theorem C_fine (H : CR h a f hl n m) {p : Nat} (hp : p < n) (v : Int32) : ∃ h', f_X1_fine h a (nI p) v = some h' ∧ CR h' a (upd f (17 + p) (f (17 + p) + v)) hl n m ∧ Oc a h h' := by
  have h6 := H.1.2.2.1
  have h4 := H.1.2.2.2
  refine ⟨hset h (a + 5) p (h.1 (a + 5) p + v), ?_, ?_, Oc.set (by omega)⟩
  · unfold f_X1_fine
    rw [C_person H hp, rd_nI _ _ (by omega) (by omega)]
    simp only [bd_s, if_true]
    rw [wr_nI _ _ _ (by omega) (by omega)]
    rfl
  · obtain ⟨⟨hn, hm, -, -⟩, he, hk, hw, hkn, hfi, hh⟩ := H
    refine ⟨⟨?_, ?_, h6, h4⟩, ?_, fun q hq => ?_, fun i hi k hk2 => ?_, fun i hi => ?_, fun q hq => ?_, fun i hi => ?_⟩
    · rw [hs_o _ _ (by omega)]; exact hn
    · rw [hs_o _ _ (by omega)]; exact hm
    · rw [hs_o _ _ (by omega), upd_n _ _ (by omega)]; exact he
    · rw [hs_o _ _ (by omega), hs_o _ _ (by omega), hs_o _ _ (by omega), upd_n _ _ (by omega)]; exact hk q hq
    · rw [hs_o _ _ (by omega), hw i hi k hk2]
      by_cases q : k < n
      · rw [upd_n _ _ (by omega)]
      · simp [q]
    · rw [hs_o _ _ (by omega), upd_n _ _ (by omega)]; exact hkn i hi
    · by_cases e : q = p
      · subst e; rw [hs_s, upd_s, hfi q hq]
      · rw [hs_o _ _ (by omega), upd_n _ _ (by omega)]; exact hfi q hq
    · rw [hs_o _ _ (by omega), hs_o _ _ (by omega)]; exact hh i hi
theorem C_loseGlass (H : CR h a f hl n m) (hF : FR f n m) {p : Nat} (hp : p < n) : ∃ h', f_X1_loseGlass h a (nI p) = some h' ∧ CR h' a (drF f p) hl n m ∧ Oc a h h' := by
  have h6 := H.1.2.2.1
  unfold f_X1_loseGlass drF
  simp only [Lt_e, jn_e]
  rw [C_kindOf H hF hp, bd_s]
  by_cases k2 : f (1 + p) = 2
  · obtain ⟨h1, e1, H1, O1⟩ := CR_kind H hp 0 (Or.inl rfl)
    obtain ⟨h2, e2, H2, O2⟩ := C_fine H1 hp 1
    rw [if_pos k2, if_pos k2, e1, bd_s, e2]
    refine ⟨h2, rfl, ?_, O1.tr O2⟩
    rw [upd_n _ _ (show 17 + p ≠ 1 + p by omega)] at H2
    exact H2
  · have H1 := CR_eye H (h.1 a 2 ^^^ (1 <<< (nI p &&& 31)))
    obtain ⟨h2, e2, H2, O2⟩ := C_fine H1 hp 1
    rw [if_neg k2, if_neg k2, e2]
    refine ⟨h2, rfl, ?_, (Oc.set (by omega)).tr O2⟩
    rw [upd_n _ _ (show 17 + p ≠ 0 by omega), H.2.1] at H2
    exact H2
theorem C_regain (H : CR h a f hl n m) {p : Nat} (hp : p < n) (k : Int32) : ∃ h', f_X1_regainGlass h a (nI p) k = some h' ∧ CR h' a (reF f p k) hl n m ∧ Oc a h h' := by
  have h6 := H.1.2.2.1
  unfold f_X1_regainGlass reF
  simp only [Lt_e, jn_e]
  by_cases k2 : k = 2
  · obtain ⟨h1, e1, H1, O1⟩ := CR_kind H hp 2 (Or.inr (Or.inr (Or.inl rfl)))
    obtain ⟨h2, e2, H2, O2⟩ := C_fine H1 hp (-1)
    rw [if_pos k2, if_pos k2, e1, bd_s, e2]
    refine ⟨h2, rfl, ?_, O1.tr O2⟩
    rw [upd_n _ _ (show 17 + p ≠ 1 + p by omega)] at H2
    exact H2
  · have H1 := CR_eye H (h.1 a 2 ^^^ (1 <<< (nI p &&& 31)))
    obtain ⟨h2, e2, H2, O2⟩ := C_fine H1 hp (-1)
    rw [if_neg k2, if_neg k2, e2]
    refine ⟨h2, rfl, ?_, (Oc.set (by omega)).tr O2⟩
    rw [upd_n _ _ (show 17 + p ≠ 0 by omega), H.2.1] at H2
    exact H2
theorem C_canLose (H : CR h a f hl n m) (hF : FR f n m) {p : Nat} (hp : p < n) : f_X1_canLoseGlass h a (nI p) = some (!decide (f (1 + p) = 3)) := by
  unfold f_X1_canLoseGlass
  rw [C_person H hp, C_kindOf H hF hp]
  simp only [bd_s, if_true]
  by_cases k3 : f (1 + p) = 3
  · rw [if_pos k3]; simp [k3]
  · rw [if_neg k3]; simp [k3]
theorem C_canLearn (H : CR h a f hl n m) {i o j : Nat} (hi : i < n) (ho : o < n) (hj : j < m) : f_X1_canLearn h a (nI i) (nI o) (nI j) = some (decide (f (13 + j) = -9) && cp f j i o) := by
  unfold f_X1_canLearn
  rw [C_matter H hj, C_knownAs H hj, C_isCouple H hi ho hj]
  simp only [bd_s, if_true]
  by_cases k9 : f (13 + j) = -9
  · rw [if_pos k9]; cases cp f j i o <;> simp [k9]
  · rw [if_neg k9]; simp [k9]
/-! they stay what they may be -/
theorem FR_sh (h6 : n ≤ 6) (hF : FR f n m) {p j : Nat} (hp : p < n) (hj : j < m) (h4 : m ≤ 4) : FR (shF f p j) n m := by
  unfold shF
  refine ⟨fun q hq => by rw [upd_n _ _ (by omega)]; exact hF.1 q hq, fun q hq i hi => ?_⟩
  by_cases e : q = p
  · subst e
    rw [upd_s, bt_or, bt_one (by omega), hF.2 q hq i hi]
    simp; omega
  · rw [upd_n _ _ (by omega)]; exact hF.2 q hq i hi
theorem FR_kn (h6 : n ≤ 6) (hF : FR f n m) (j : Nat) (v : Int32) : FR (knF f j v) n m := by
  unfold knF
  exact ⟨fun q hq => by rw [upd_n _ _ (by omega)]; exact hF.1 q hq, fun q hq i hi => by rw [upd_n _ _ (by omega)]; exact hF.2 q hq i hi⟩
theorem FR_dr (h6 : n ≤ 6) (hF : FR f n m) {p : Nat} (hp : p < n) : FR (drF f p) n m := by
  unfold drF
  refine ⟨fun q hq => ?_, fun q hq i hi => ?_⟩
  · rw [upd_n _ _ (by omega)]
    by_cases k2 : f (1 + p) = 2
    · rw [if_pos k2]
      by_cases e : q = p
      · subst e; rw [upd_s]; exact Or.inl rfl
      · rw [upd_n _ _ (by omega)]; exact hF.1 q hq
    · rw [if_neg k2, upd_n _ _ (by omega)]; exact hF.1 q hq
  · rw [upd_n _ _ (by omega)]
    by_cases k2 : f (1 + p) = 2
    · rw [if_pos k2, upd_n _ _ (by omega)]; exact hF.2 q hq i hi
    · rw [if_neg k2, upd_n _ _ (by omega)]; exact hF.2 q hq i hi
end ACTS
