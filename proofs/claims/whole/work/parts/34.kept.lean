/-! one Court becomes as another; keeping -/
def bc0 (h : HS) (a p : Nat) : HS := (fun c k => if c = a ∧ k < 6 then h.1 p k else h.1 c k, h.2)
def bc1 (h : HS) (a p i : Nat) : HS := (fun c k => if c = a ∧ k < 6 then h.1 p k else if (a + 1 ≤ c ∧ c ≤ a + 4) ∧ k < i then h.1 (c - a + p) k else h.1 c k, h.2)
def bc2 (h : HS) (a p i : Nat) : HS := (fun c k => if c = a ∧ k < 6 then h.1 p k else if (a + 1 ≤ c ∧ c ≤ a + 4) ∧ k < 4 then h.1 (c - a + p) k else if c = a + 5 ∧ k < i then h.1 (p + 5) k else h.1 c k, h.2)
theorem bc0_e (h : HS) {a p : Nat} (d : p + 6 ≤ a ∨ a + 6 ≤ p) : hset (hset (hset (hset (hset (hset h a 0 (h.1 p 0)) a 1 (h.1 p 1)) a 2 (h.1 p 2)) a 3 (h.1 p 3)) a 4 (h.1 p 4)) a 5 (h.1 p 5) = bc0 h a p := HS_ext (fun c k => by
  rw [hs_1, hs_1, hs_1, hs_1, hs_1, hs_1]
  show _ = (if _ then _ else _)
  by_cases e : c = a
  · subst e
    by_cases k5 : k = 5
    · subst k5; rw [if_pos ⟨rfl, rfl⟩, if_pos ⟨rfl, by omega⟩]
    rw [if_neg (fun z => k5 z.2)]
    by_cases k5 : k = 4
    · subst k5; rw [if_pos ⟨rfl, rfl⟩, if_pos ⟨rfl, by omega⟩]
    rw [if_neg (fun z => k5 z.2)]
    by_cases k5 : k = 3
    · subst k5; rw [if_pos ⟨rfl, rfl⟩, if_pos ⟨rfl, by omega⟩]
    rw [if_neg (fun z => k5 z.2)]
    by_cases k5 : k = 2
    · subst k5; rw [if_pos ⟨rfl, rfl⟩, if_pos ⟨rfl, by omega⟩]
    rw [if_neg (fun z => k5 z.2)]
    by_cases k5 : k = 1
    · subst k5; rw [if_pos ⟨rfl, rfl⟩, if_pos ⟨rfl, by omega⟩]
    rw [if_neg (fun z => k5 z.2)]
    by_cases k5 : k = 0
    · subst k5; rw [if_pos ⟨rfl, rfl⟩, if_pos ⟨rfl, by omega⟩]
    rw [if_neg (fun z => k5 z.2), if_neg (by omega)]
  · rw [if_neg (fun z => e z.1), if_neg (fun z => e z.1), if_neg (fun z => e z.1), if_neg (fun z => e z.1), if_neg (fun z => e z.1), if_neg (fun z => e z.1), if_neg (fun z => e z.1)]) rfl
theorem bc1_0 (h : HS) (a p : Nat) : bc1 h a p 0 = bc0 h a p := HS_ext (fun c k => by
  show (if c = a ∧ k < 6 then _ else if _ then _ else _) = (if c = a ∧ k < 6 then _ else _)
  by_cases e : c = a ∧ k < 6
  · rw [if_pos e, if_pos e]
  · rw [if_neg e, if_neg e, if_neg (by omega)]) rfl
theorem bc1_p (h : HS) {a p : Nat} (d : p + 6 ≤ a ∨ a + 6 ≤ p) {e i k : Nat} (he : e ≤ 5) : (bc1 h a p i).1 (p + e) k = h.1 (p + e) k := by
  show (if _ then _ else if _ then _ else _) = _
  rw [if_neg (by omega), if_neg (by omega)]
theorem bc1_s (h : HS) {a p i : Nat} (d : p + 6 ≤ a ∨ a + 6 ≤ p) : hset (hset (hset (hset (bc1 h a p i) (a + 1) i (h.1 (p + 1) i)) (a + 2) i (h.1 (p + 2) i)) (a + 3) i (h.1 (p + 3) i)) (a + 4) i (h.1 (p + 4) i) = bc1 h a p (i + 1) := HS_ext (fun c k => by
  rw [hs_1, hs_1, hs_1, hs_1]
  show _ = if c = a ∧ k < 6 then h.1 p k else if (a + 1 ≤ c ∧ c ≤ a + 4) ∧ k < i + 1 then h.1 (c - a + p) k else h.1 c k
  have base : ¬ ((a + 1 ≤ c ∧ c ≤ a + 4) ∧ k = i) → (bc1 h a p i).1 c k = if c = a ∧ k < 6 then h.1 p k else if (a + 1 ≤ c ∧ c ≤ a + 4) ∧ k < i + 1 then h.1 (c - a + p) k else h.1 c k := by
    intro z
    show (if c = a ∧ k < 6 then h.1 p k else if (a + 1 ≤ c ∧ c ≤ a + 4) ∧ k < i then h.1 (c - a + p) k else h.1 c k) = _
    by_cases e : c = a ∧ k < 6
    · rw [if_pos e, if_pos e]
    · rw [if_neg e, if_neg e]
      by_cases e2 : (a + 1 ≤ c ∧ c ≤ a + 4) ∧ k < i
      · rw [if_pos e2, if_pos (by omega)]
      · rw [if_neg e2, if_neg (by omega)]
  by_cases k1 : k = i
  · subst k1
    by_cases c4 : c = a + 4
    · subst c4
      rw [if_pos ⟨rfl, rfl⟩, if_neg (by omega), if_pos (by omega), show a + 4 - a + p = p + 4 by omega]
    rw [if_neg (fun z => c4 z.1)]
    by_cases c4 : c = a + 3
    · subst c4
      rw [if_pos ⟨rfl, rfl⟩, if_neg (by omega), if_pos (by omega), show a + 3 - a + p = p + 3 by omega]
    rw [if_neg (fun z => c4 z.1)]
    by_cases c4 : c = a + 2
    · subst c4
      rw [if_pos ⟨rfl, rfl⟩, if_neg (by omega), if_pos (by omega), show a + 2 - a + p = p + 2 by omega]
    rw [if_neg (fun z => c4 z.1)]
    by_cases c4 : c = a + 1
    · subst c4
      rw [if_pos ⟨rfl, rfl⟩, if_neg (by omega), if_pos (by omega), show a + 1 - a + p = p + 1 by omega]
    rw [if_neg (fun z => c4 z.1)]
    exact base (by omega)
  · rw [if_neg (fun z => k1 z.2), if_neg (fun z => k1 z.2), if_neg (fun z => k1 z.2), if_neg (fun z => k1 z.2)]
    exact base (by omega)) rfl
theorem bc2_0 (h : HS) (a p : Nat) : bc2 h a p 0 = bc1 h a p 4 := HS_ext (fun c k => by
  show (if c = a ∧ k < 6 then h.1 p k else if (a + 1 ≤ c ∧ c ≤ a + 4) ∧ k < 4 then h.1 (c - a + p) k else if c = a + 5 ∧ k < 0 then h.1 (p + 5) k else h.1 c k) = if c = a ∧ k < 6 then h.1 p k else if (a + 1 ≤ c ∧ c ≤ a + 4) ∧ k < 4 then h.1 (c - a + p) k else h.1 c k
  rw [show (if c = a + 5 ∧ k < 0 then h.1 (p + 5) k else h.1 c k) = h.1 c k from if_neg (by omega)]) rfl
theorem bc2_p (h : HS) {a p : Nat} (d : p + 6 ≤ a ∨ a + 6 ≤ p) {e i k : Nat} (he : e ≤ 5) : (bc2 h a p i).1 (p + e) k = h.1 (p + e) k := by
  show (if _ then _ else if _ then _ else if _ then _ else _) = _
  rw [if_neg (by omega), if_neg (by omega), if_neg (by omega)]
theorem bc2_s (h : HS) {a p i : Nat} : hset (bc2 h a p i) (a + 5) i (h.1 (p + 5) i) = bc2 h a p (i + 1) := HS_ext (fun c k => by
  rw [hs_1]
  show (if c = a + 5 ∧ k = i then _ else if c = a ∧ k < 6 then h.1 p k else if (a + 1 ≤ c ∧ c ≤ a + 4) ∧ k < 4 then h.1 (c - a + p) k else if c = a + 5 ∧ k < i then h.1 (p + 5) k else h.1 c k) = if c = a ∧ k < 6 then h.1 p k else if (a + 1 ≤ c ∧ c ≤ a + 4) ∧ k < 4 then h.1 (c - a + p) k else if c = a + 5 ∧ k < i + 1 then h.1 (p + 5) k else h.1 c k
  by_cases e : c = a + 5 ∧ k = i
  · rw [if_pos e, if_neg (by omega), if_neg (by omega), if_pos (by omega), e.2]
  · rw [if_neg e]
    have : (if c = a + 5 ∧ k < i then h.1 (p + 5) k else h.1 c k) = if c = a + 5 ∧ k < i + 1 then h.1 (p + 5) k else h.1 c k := by
      by_cases e2 : c = a + 5 ∧ k < i
      · rw [if_pos e2, if_pos (by omega)]
      · rw [if_neg e2, if_neg (by omega)]
    rw [this]) rfl
set_option maxRecDepth 100000 in
theorem X1_become (h : HS) {a p : Nat} (d : p + 6 ≤ a ∨ a + 6 ≤ p) : f_X1_become h a p = some (bc2 h a p 6) := by
  unfold f_X1_become
  rw [Lt_e, hs_o _ _ (by omega), Lt_e, hs_o _ _ (by omega), hs_o _ _ (by omega), Lt_e, hs_o _ _ (by omega), hs_o _ _ (by omega), hs_o _ _ (by omega), Lt_e, hs_o _ _ (by omega), hs_o _ _ (by omega), hs_o _ _ (by omega), hs_o _ _ (by omega), Lt_e, hs_o _ _ (by omega), hs_o _ _ (by omega), hs_o _ _ (by omega), hs_o _ _ (by omega), hs_o _ _ (by omega), Lt_e, bc0_e h d, ← bc1_0]
  refine fin2 (fun i => nI i) (fun i => bc1 h a p i) 4 (fun rec i hi => ?_) (fun rec => ?_) 400 0 (by omega) (by omega)
  · rw [L4, if_pos (nI_lt hi (by omega)), rd_nI _ _ (by omega) (by omega), bd_s, wr_nI _ _ _ (by omega) (by omega), bd_s, rd_nI _ _ (by omega) (by omega), bd_s, wr_nI _ _ _ (by omega) (by omega), bd_s, rd_nI _ _ (by omega) (by omega), bd_s, wr_nI _ _ _ (by omega) (by omega), bd_s, rd_nI _ _ (by omega) (by omega), bd_s, wr_nI _ _ _ (by omega) (by omega), bd_s, nI_p1]
    rw [hs_o _ _ (by omega), hs_o _ _ (by omega), hs_o _ _ (by omega), hs_o _ _ (by omega), hs_o _ _ (by omega), hs_o _ _ (by omega), bc1_p h d (by omega), bc1_p h d (by omega), bc1_p h d (by omega), bc1_p h d (by omega), bc1_s h d]
  · rw [L4, if_neg (nI_nlt (by omega) (by omega)), ← bc2_0]
    refine fin2 (fun i => nI i) (fun i => bc2 h a p i) 6 (fun rec i hi => ?_) (fun rec => ?_) 400 0 (by omega) (by omega)
    · rw [L6, if_pos (nI_lt hi (by omega)), rd_nI _ _ (by omega) (by omega), bd_s, wr_nI _ _ _ (by omega) (by omega), bd_s, nI_p1, bc2_p h d (by omega), bc2_s]
    · rw [L6, if_neg (nI_nlt (by omega) (by omega))]
theorem C_become {h : HS} {a p : Nat} {f hl : Nat → Int32} {n m : Nat} (H : CR h p f hl n m) (d : p + 6 ≤ a ∨ a + 6 ≤ p) : ∃ h', f_X1_become h a p = some h' ∧ CR h' a f hl n m ∧ Oc a h h' := by
  refine ⟨_, X1_become h d, ?_, fun b k hb => ?_, rfl⟩
  · obtain ⟨⟨hn, hm, h6, h4⟩, he, hk, hw, hkn, hfi, hh⟩ := H
    have e0 : ∀ k, k < 6 → (bc2 h a p 6).1 a k = h.1 p k := fun k hk => by
      show (if _ then _ else _) = _
      rw [if_pos ⟨rfl, hk⟩]
    have e1 : ∀ e k, 1 ≤ e → e ≤ 4 → k < 4 → (bc2 h a p 6).1 (a + e) k = h.1 (p + e) k := fun e k z1 z2 hk => by
      show (if _ then _ else if _ then _ else _) = _
      rw [if_neg (by omega), if_pos (by omega), show a + e - a + p = p + e by omega]
    have e5 : ∀ k, k < 6 → (bc2 h a p 6).1 (a + 5) k = h.1 (p + 5) k := fun k hk => by
      show (if _ then _ else if _ then _ else if _ then _ else _) = _
      rw [if_neg (by omega), if_neg (by omega), if_pos ⟨rfl, hk⟩]
    refine ⟨⟨?_, ?_, h6, h4⟩, ?_, fun q hq => ?_, fun j hj i hi => ?_, fun j hj => ?_, fun q hq => ?_, fun j hj => ?_⟩
    · rw [e0 _ (by omega)]; exact hn
    · rw [e0 _ (by omega)]; exact hm
    · rw [e0 _ (by omega)]; exact he
    · rw [e0 _ (by omega), e0 _ (by omega), e0 _ (by omega)]; exact hk q hq
    · rw [e1 _ _ (by omega) (by omega) (by omega)]; exact hw j hj i hi
    · rw [e1 _ _ (by omega) (by omega) (by omega)]; exact hkn j hj
    · rw [e5 _ (by omega)]; exact hfi q hq
    · rw [e1 _ _ (by omega) (by omega) (by omega), e1 _ _ (by omega) (by omega) (by omega)]; exact hh j hj
  · show (if _ then _ else if _ then _ else if _ then _ else _) = _
    rw [if_neg (by omega), if_neg (by omega), if_neg (by omega)]
theorem mkk_cg {g g' : Nat → Bool} {n : Nat} (hn : n ≤ 32) (e : ∀ i, i < n → g i = g' i) : mkk g n = mkk g' n := by
  apply bt_ext
  intro i hi
  rw [bt_mkk g n hn, bt_mkk g' n hn]
  by_cases q : i < n
  · rw [e i q]
  · simp [q]
theorem kw_congr {f f' : Nat → Int32} {m : Nat} (m4 : m ≤ 4) (e : ∀ k, k < 23 → f' k = f k) : kw f' m = kw f m :=
  mkk_cg (by omega) fun i hi => by rw [e _ (by omega)]
theorem X4_isSlot (h : HS) (p : Int32) : f_X4_isSlot h p = some (inB p 2) := by
  unfold f_X4_isSlot
  rcases nI_rng p 2 (by omega) with ⟨k, hk, rfl⟩ | hz
  · rw [inB_nI hk (by omega), if_neg (nI_pos (by omega)), L2, if_pos (nI_lt hk (by omega))]
  · rw [inB_out hz]
    by_cases c1 : p < 0
    · rw [if_pos c1]
    · rw [if_neg c1, if_neg]
      intro c2
      rw [Int32.lt_iff_toInt_lt] at c1 c2
      rw [show (2 : Int32).toInt = 2 by decide] at c2
      rw [Int32.toInt_zero] at c1
      omega
