/-! the court is laid, the model -/
def ctC (rec15 : Int32 → HS → Option (Int32 × HS)) (i13 : Int32) (h14 : HS) : Option (Int32 × HS) := if i13 < 8 then (bd (rd h14 40 8 i13) fun r20 => bd (wr h14 37 8 i13 r20) fun h21 => rec15 (i13 + 1) h21) else (Lt (hset h14 36 13 0) fun h17 => bd (wr h17 48 2 0 0) fun h18 => bd (wr h18 48 2 1 0) fun h19 => some (((10 * (h19.1 36 0)) + (h19.1 36 1)), h19))
def ctB (rec11 : Int32 → HS → Option (Int32 × HS)) (i9 : Int32) (h10 : HS) : Option (Int32 × HS) := if i9 < (h10.1 36 0) then (bd (rd h10 38 46 0) fun r22 => bd (rd h10 39 12 (2 * i9)) fun r23 => bd (wr h10 38 46 0 (r22 ||| (r23 <<< (i9 &&& 31)))) fun h24 => bd (rd h24 39 12 ((2 * i9) + 1)) fun r25 => bd (wr h24 38 46 (1 + i9) r25) fun h26 => bd (rd h26 41 6 i9) fun r27 => bd (wr h26 38 46 (7 + i9) r27) fun h28 => rec11 (i9 + 1) h28) else (loop2 ctC 400 0 h10)
def ctA (rec7 : Int32 → HS → Option (Int32 × HS)) (i5 : Int32) (h6 : HS) : Option (Int32 × HS) := if i5 < 23 then (bd (f_X5_in h6 (Int32.toInt64 i5) 13 16) fun r29 => jn (fun (t30 : Int32) => bd (wr h6 38 46 i5 t30) fun h33 => rec7 (i5 + 1) h33) (fun j31 => if r29 = true then (j31 (-9)) else (j31 0))) else (loop2 ctB 400 0 h6)
theorem X5_court_e (h : HS) : f_X5_court h = bd2 (f_X5_readText h) fun r1 h2 => if r1 = (-9) then (Lt (hset h2 36 0 (h2.1 36 7)) fun h3 => Lt (hset h3 36 1 (h3.1 36 8)) fun h4 => loop2 ctA 400 0 h4) else (some ((-3), h2)) := rfl
def lfC (g : HS) : HS := hset (hset (hset (cpH g 37 0 (g.1 40) 8) 36 13 0) 48 0 0) 48 1 0
theorem ctC_run {g : HS} {n m : Nat} (e0 : g.1 36 0 = nI n) (e1 : g.1 36 1 = nI m) : loop2 ctC 400 0 g = some (10 * nI n + nI m, lfC g) := by
  have e := fin2 (body := ctC) (res := some (10 * nI n + nI m, lfC g)) (fun i => nI i) (fun i => cpH g 37 0 (g.1 40) i) 8 (fun rec i hi => by
    unfold ctC
    rw [show (8 : Int32) = nI 8 by decide +kernel, if_pos (nI_lt hi (by omega)), rd_nI _ _ (by omega) (by omega), bd_s, cp_o _ _ (Or.inl (by decide)), wr_nI _ _ _ (by omega) (by omega), bd_s, nI_p1]
    have := cp_s g 37 0 (g.1 40) i
    rw [Nat.zero_add] at this
    rw [this]) (fun rec => by
    unfold ctC
    have w0 : ∀ h : HS, wr h 48 2 0 0 = some (hset h 48 0 0) := fun h => by
      have := wr_nI h 48 (n := 2) (j := 0) 0 (by omega) (by omega)
      rw [nI_0] at this
      exact this
    have w1 : ∀ h : HS, wr h 48 2 1 0 = some (hset h 48 1 0) := fun h => by
      have := wr_nI h 48 (n := 2) (j := 1) 0 (by omega) (by omega)
      rw [← one_nI] at this
      exact this
    rw [show (8 : Int32) = nI 8 by decide +kernel, if_neg (nI_nlt (by omega) (by omega)), Lt_e, w0, bd_s, w1, bd_s, hs_o _ _ (by omega), hs_o _ _ (by omega), hs_o _ _ (by omega), hs_o _ _ (by omega), hs_o _ _ (by omega), hs_o _ _ (by omega), cp_o _ _ (Or.inl (by decide)), cp_o _ _ (Or.inl (by decide)), e0, e1]
    rfl) 400 0 (by omega) (by omega)
  rw [cp_0] at e
  exact e
def crG (g : HS) : Nat → HS
  | 0 => g
  | i + 1 => hset (hset (hset (crG g i) 38 0 ((crG g i).1 38 0 ||| (g.1 39 (2 * i) <<< (nI i &&& 31)))) 38 (1 + i) (g.1 39 (2 * i + 1))) 38 (7 + i) (g.1 41 i)
theorem crG_o (g : HS) {b k : Nat} : ∀ i, b ≠ 38 ∨ 13 ≤ k → i ≤ 6 → (crG g i).1 b k = g.1 b k
  | 0, _, _ => rfl
  | i + 1, hb, hi => by
    rw [crG, hs_o _ _ (by omega), hs_o _ _ (by omega), hs_o _ _ (by omega)]
    exact crG_o g i hb (by omega)
theorem crG_2 (g : HS) : ∀ i, (crG g i).2 = g.2
  | 0 => rfl
  | i + 1 => crG_2 g i
theorem crG_1 (g : HS) : ∀ i, i ≤ 6 → ∀ p, p < 6 → (crG g i).1 38 (1 + p) = (if p < i then g.1 39 (2 * p + 1) else g.1 38 (1 + p)) ∧ (crG g i).1 38 (7 + p) = (if p < i then g.1 41 p else g.1 38 (7 + p))
  | 0, _, p, _ => by
    rw [if_neg (by omega), if_neg (by omega)]
    exact ⟨rfl, rfl⟩
  | i + 1, hi, p, hp => by
    obtain ⟨h1, h2⟩ := crG_1 g i (by omega) p hp
    rw [crG]
    by_cases e : p = i
    · subst e
      rw [if_pos (by omega), if_pos (by omega), hs_o _ _ (by omega), hs_s, hs_s]
      exact ⟨rfl, rfl⟩
    · rw [hs_o _ _ (by omega), hs_o _ _ (by omega), hs_o _ _ (by omega), hs_o _ _ (by omega), hs_o _ _ (by omega), hs_o _ _ (by omega), h1, h2]
      by_cases q : p < i
      · rw [if_pos q, if_pos q, if_pos (by omega), if_pos (by omega)]
        exact ⟨rfl, rfl⟩
      · rw [if_neg q, if_neg q, if_neg (by omega), if_neg (by omega)]
        exact ⟨rfl, rfl⟩
theorem crG_0 (g : HS) (x : Int32) (z : g.1 38 0 = 0) : ∀ i, i ≤ 6 → (∀ p, p < i → g.1 39 (2 * p) = b2i (bt x p)) → ∀ q, q < 32 → bt ((crG g i).1 38 0) q = (decide (q < i) && bt x q)
  | 0, _, _, q, _ => by
    show bt (g.1 38 0) q = _
    rw [z, bt_0, decide_eq_false (by omega), Bool.false_and]
  | i + 1, hi, H, q, hq => by
    have ih := crG_0 g x z i (by omega) (fun p hp => H p (by omega)) q hq
    rw [crG, hs_o _ _ (by omega), hs_o _ _ (by omega), hs_s, bt_or, ih, H i (by omega), bt_shl _ (by omega), bt_b2i, decide_eq_true hq, Bool.true_and]
    by_cases e : q = i
    · subst e
      simp
    · by_cases q2 : q < i
      · rw [decide_eq_true q2, decide_eq_true (show q < i + 1 by omega), decide_eq_false (show ¬ i ≤ q by omega)]
        simp
      · rw [decide_eq_false q2, decide_eq_false (show ¬ q < i + 1 by omega), decide_eq_false (show ¬ q - i = 0 by omega)]
        simp
theorem ctB_run {g : HS} {n m : Nat} (n6 : n ≤ 6) (e0 : g.1 36 0 = nI n) (e1 : g.1 36 1 = nI m) : loop2 ctB 400 0 g = some (10 * nI n + nI m, lfC (crG g n)) := by
  refine fin2 (body := ctB) (fun i => nI i) (fun i => crG g i) n (fun rec i hi => ?_) (fun rec => ?_) 400 0 (by omega) (by omega)
  · have r0 : rd (crG g i) 38 46 0 = some ((crG g i).1 38 0) := by
      have := rd38 (crG g i) (k := 0) (by omega)
      rw [nI_0] at this
      exact this
    have w0 : ∀ (h : HS) v, wr h 38 46 0 v = some (hset h 38 0 v) := fun h v => by
      have := wr_nI h 38 (n := 46) (j := 0) v (by omega) (by omega)
      rw [nI_0] at this
      exact this
    unfold ctB
    rw [crG_o g i (by omega) (by omega), e0, if_pos (nI_lt hi (by omega)), r0, bd_s, L2, pk_mul, rd_nI _ _ (by omega) (by omega), bd_s, w0, bd_s, nI_p1, rd_nI _ _ (by omega) (by omega), bd_s, one_nI, nI_add, wr_nI _ _ _ (by omega) (by omega), bd_s, rd_nI _ _ (by omega) (by omega), bd_s, L7, nI_add, wr_nI _ _ _ (by omega) (by omega), bd_s, nI_add, crG, hs_o _ _ (by omega), hs_o _ _ (by omega), hs_o _ _ (by omega), crG_o g i (b := 39) (k := 2 * i) (by omega) (by omega), crG_o g i (b := 39) (k := 2 * i + 1) (by omega) (by omega), crG_o g i (b := 41) (by omega) (by omega)]
  · unfold ctB
    rw [crG_o g n (by omega) (by omega), e0, if_neg (nI_nlt (Nat.le_refl _) (by omega)), ctC_run (n := n) (m := m)]
    · rw [crG_o g n (by omega) (by omega)]; exact e0
    · rw [crG_o g n (by omega) (by omega)]; exact e1
theorem ctA_run {g : HS} {n m : Nat} (n6 : n ≤ 6) (e0 : g.1 36 0 = nI n) (e1 : g.1 36 1 = nI m) : loop2 ctA 400 0 g = some (10 * nI n + nI m, lfC (crG (cpH g 38 0 f00 23) n)) := by
  have e := fin2 (body := ctA) (res := some (10 * nI n + nI m, lfC (crG (cpH g 38 0 f00 23) n))) (fun i => nI i) (fun i => cpH g 38 0 f00 i) 23 (fun rec i hi => by
    unfold ctA
    have e13 : (13 : Int64).toInt = 13 := by decide
    have e16 : (16 : Int64).toInt = 16 := by decide
    rw [L23, if_pos (nI_lt hi (by omega)), M_in, bd_s, toI64, nI_toInt (by omega), e13, e16]
    simp only [jn_e]
    have := cp_s g 38 0 f00 i
    rw [Nat.zero_add] at this
    by_cases q : 13 ≤ i ∧ i ≤ 16
    · have ef : f00 i = -9 := if_pos q
      rw [ef] at this
      rw [dTT (by omega) (by omega), if_pos rfl, wr_nI _ _ _ (by omega) (by omega), bd_s, nI_p1, this]
    · have ef : f00 i = 0 := if_neg q
      rw [ef] at this
      rw [dFF (by omega), if_neg (by decide), wr_nI _ _ _ (by omega) (by omega), bd_s, nI_p1, this]) (fun rec => by
    unfold ctA
    rw [L23, if_neg (nI_nlt (by omega) (by omega)), ctB_run (n := n) (m := m) n6]
    · rw [cp_o _ _ (Or.inl (by decide))]; exact e0
    · rw [cp_o _ _ (Or.inl (by decide))]; exact e1) 400 0 (by omega) (by omega)
  rw [cp_0] at e
  exact e
theorem M_court {h : HS} {T : Nat → Int32} {len n m : Nat} {f hl : Nat → Int32} (S : MS h T len len (n, m, f, hl)) (P : PS f n m) :
    ∃ h', loop2 ctA 400 0 (hset (hset h 36 0 (nI n)) 36 1 (nI m)) = some (10 * nI n + nI m, h') ∧
      (∀ b k, ¬ (b = 36 ∧ (k = 0 ∨ k = 1 ∨ k = 13)) → b ≠ 37 → ¬ (b = 38 ∧ k < 23) → ¬ (b = 48 ∧ k < 2) → h'.1 b k = h.1 b k) ∧ h'.2 = h.2 ∧
      h'.1 36 0 = nI n ∧ h'.1 36 1 = nI m ∧ h'.1 36 13 = nI 0 ∧ h'.1 48 0 = 0 ∧ h'.1 48 1 = 0 ∧ (∀ k, k < 23 → h'.1 38 k = f k) ∧ (∀ j, j < m → h'.1 37 j = hl j ∧ h'.1 37 (4 + j) = hl (4 + j)) := by
  obtain ⟨L, e11, e12, e7, e8, s41, s39, s40, sz⟩ := S
  obtain ⟨hF, n6, m4, P1, P2, P3⟩ := P
  simp only at e7 e8 s41 s39 s40 sz
  have g0o : ∀ b k, ¬ (b = 36 ∧ k < 2) → (hset (hset h 36 0 (nI n)) 36 1 (nI m)).1 b k = h.1 b k := fun b k z => by rw [hs_o _ _ (by omega), hs_o _ _ (by omega)]
  have g00 : (hset (hset h 36 0 (nI n)) 36 1 (nI m)).1 36 0 = nI n := by rw [hs_o _ _ (by omega), hs_s]
  have g01 : (hset (hset h 36 0 (nI n)) 36 1 (nI m)).1 36 1 = nI m := hs_s _ _ _ _
  have g2 : (hset (hset h 36 0 (nI n)) 36 1 (nI m)).2 = h.2 := rfl
  generalize hset (hset h 36 0 (nI n)) 36 1 (nI m) = g at g0o g00 g01 g2
  have c38 : ∀ k, k < 23 → (cpH g 38 0 f00 23).1 38 k = f00 k := fun k hk => by
    have := cp_i g (b := 38) (t := 0) f00 hk
    rw [Nat.zero_add] at this
    exact this
  have co : ∀ b k, ¬ (b = 38 ∧ k < 23) → (cpH g 38 0 f00 23).1 b k = g.1 b k := fun b k z => cp_o _ _ (by omega)
  have fz : ∀ k, ¬ (13 ≤ k ∧ k ≤ 16) → f00 k = 0 := fun k z => if_neg z
  have c39 : ∀ p, p < n → (cpH g 38 0 f00 23).1 39 (2 * p) = b2i (bt (f 0) p) ∧ (cpH g 38 0 f00 23).1 39 (2 * p + 1) = f (1 + p) := fun p hp => by
    rw [co _ _ (by omega), co _ _ (by omega), g0o _ _ (by omega), g0o _ _ (by omega)]
    exact s39 p hp
  have c41 : ∀ p, p < 6 → (cpH g 38 0 f00 23).1 41 p = f (7 + p) := fun p hp => by
    rw [co _ _ (by omega), g0o _ _ (by omega)]
    exact s41 p hp
  refine ⟨_, ctA_run n6 g00 g01, fun b k z1 z2 z3 z4 => ?_, ?_, ?_, ?_, ?_, ?_, ?_, fun k hk => ?_, fun j hj => ?_⟩ <;> unfold lfC
  · rw [hs_o _ _ (by omega), hs_o _ _ (by omega), hs_o _ _ (by omega), cp_o _ _ (by omega)]
    by_cases q : b = 38
    · rw [crG_o _ n (by omega) n6, co _ _ (by omega), g0o _ _ (by omega)]
    · rw [crG_o _ n (by omega) n6, co _ _ (by omega), g0o _ _ (by omega)]
  · show (crG (cpH g 38 0 f00 23) n).2 = h.2
    rw [crG_2]
    exact g2
  · rw [hs_o _ _ (by omega), hs_o _ _ (by omega), hs_o _ _ (by omega), cp_o _ _ (by omega), crG_o _ n (by omega) n6, co _ _ (by omega), g00]
  · rw [hs_o _ _ (by omega), hs_o _ _ (by omega), hs_o _ _ (by omega), cp_o _ _ (by omega), crG_o _ n (by omega) n6, co _ _ (by omega), g01]
  · rw [hs_o _ _ (by omega), hs_o _ _ (by omega), hs_s, nI_0]
  · rw [hs_o _ _ (by omega), hs_s]
  · rw [hs_s]
  · rw [hs_o _ _ (by omega), hs_o _ _ (by omega), hs_o _ _ (by omega), cp_o _ _ (by omega)]
    have cs : k = 0 ∨ (∃ p, p < 6 ∧ k = 1 + p) ∨ (∃ p, p < 6 ∧ k = 7 + p) ∨ (∃ j, j < 4 ∧ k = 13 + j) ∨ (∃ p, p < 6 ∧ k = 17 + p) := by
      rcases (by omega : k = 0 ∨ (1 ≤ k ∧ k < 7) ∨ (7 ≤ k ∧ k < 13) ∨ (13 ≤ k ∧ k < 17) ∨ (17 ≤ k ∧ k < 23)) with z | z | z | z | z
      · exact Or.inl z
      · exact Or.inr (Or.inl ⟨k - 1, by omega, by omega⟩)
      · exact Or.inr (Or.inr (Or.inl ⟨k - 7, by omega, by omega⟩))
      · exact Or.inr (Or.inr (Or.inr (Or.inl ⟨k - 13, by omega, by omega⟩)))
      · exact Or.inr (Or.inr (Or.inr (Or.inr ⟨k - 17, by omega, by omega⟩)))
    rcases cs with rfl | ⟨p, hp, rfl⟩ | ⟨p, hp, rfl⟩ | ⟨j, hj, rfl⟩ | ⟨p, hp, rfl⟩
    · apply bt_ext
      intro i hi
      rw [crG_0 _ (f 0) (by rw [c38 0 (by omega), fz 0 (by omega)]) n n6 (fun p hp => (c39 p hp).1) i hi]
      by_cases q : i < n
      · rw [decide_eq_true q, Bool.true_and]
      · rw [decide_eq_false q, Bool.false_and, sz i (by omega) hi]
    · rw [(crG_1 _ n n6 p hp).1]
      by_cases q : p < n
      · rw [if_pos q, (c39 p q).2]
      · rw [if_neg q, c38 _ (by omega), fz _ (by omega), (P1 p (by omega) hp).2]
    · rw [(crG_1 _ n n6 p hp).2]
      by_cases q : p < n
      · rw [if_pos q, c41 p hp]
      · rw [if_neg q, c38 _ (by omega), fz _ (by omega), (P1 p (by omega) hp).1]
    · rw [crG_o _ n (by omega) n6, c38 _ (by omega), P2 j hj]
      exact if_pos (by omega)
    · rw [crG_o _ n (by omega) n6, c38 _ (by omega), P3 p hp, fz _ (by omega)]
  · have i37 : ∀ k, k < 8 → (cpH (crG (cpH g 38 0 f00 23) n) 37 0 ((crG (cpH g 38 0 f00 23) n).1 40) 8).1 37 k = h.1 40 k := fun k hk => by
      have := cp_i (crG (cpH g 38 0 f00 23) n) (b := 37) (t := 0) ((crG (cpH g 38 0 f00 23) n).1 40) hk
      rw [Nat.zero_add] at this
      rw [this, crG_o _ n (by omega) n6, co _ _ (by omega), g0o _ _ (by omega)]
    rw [hs_o _ _ (by omega), hs_o _ _ (by omega), hs_o _ _ (by omega), hs_o _ _ (by omega), hs_o _ _ (by omega), hs_o _ _ (by omega), i37 _ (by omega), i37 _ (by omega)]
    exact s40 j hj
theorem st_court {h : HS} (I : IV h) : St (fun h => f_X4_court h) (fun h => f_X5_court h) h := by
  obtain ⟨n0, m0, I'⟩ := id I
  obtain ⟨len, LC, LM⟩ := both_LT I'.2.2.2.1
  by_cases hr : (rdR (h.1 2) len).1 = -9
  · obtain ⟨h1, e1, H1, P, z27, z05, O1, s1⟩ := C_court LC hr
    have LM1 : MT h1 (h.1 2) len := ⟨by rw [O1 _ _ (by omega) (by omega) (by omega)]; exact LM.1, LM.2.1, fun j hj => by rw [O1 _ _ (by omega) (by omega) (by omega)]; exact LM.2.2 j hj⟩
    obtain ⟨h2, e2, O2, X⟩ := M_read LM1
    obtain ⟨S, -⟩ := X hr
    obtain ⟨h3, e3, O3, s3, a0, a1, a13, k0, k1, a38, a37⟩ := M_court (n := (rdR (h.1 2) len).2.1) (m := (rdR (h.1 2) len).2.2.1) (f := (rdR (h.1 2) len).2.2.2.1) (hl := (rdR (h.1 2) len).2.2.2.2) S P
    have e7 : h2.1 36 7 = nI (rdR (h.1 2) len).2.1 := S.2.2.2.1
    have e8 : h2.1 36 8 = nI (rdR (h.1 2) len).2.2.1 := S.2.2.2.2.1
    have em : f_X5_court h1 = some (10 * nI (rdR (h.1 2) len).2.1 + nI (rdR (h.1 2) len).2.2.1, h3) := by
      rw [X5_court_e, e2, bd2_s, if_pos hr, Lt_e, Lt_e, hs_o _ _ (by omega), e7, e8]
      exact e3
    refine ⟨_, h1, h3, e1, em, (rdR (h.1 2) len).2.1, (rdR (h.1 2) len).2.2.1, ?_⟩
    clear em e3 X S e1 e2 e7 e8
    generalize (rdR (h.1 2) len).2.1 = n at *
    generalize (rdR (h.1 2) len).2.2.1 = m at *
    generalize (rdR (h.1 2) len).2.2.2.1 = f at *
    generalize (rdR (h.1 2) len).2.2.2.2 = hl at *
    have n6 := P.2.1
    obtain ⟨B, ⟨x, c, ⟨x14, c14, y1, y2, y3⟩, -⟩, ⟨q, H⟩, T, K, s⟩ := I'
    have O : ∀ b k, ¬ (3 ≤ b ∧ b ≤ 14) → ¬ (b = 27 ∧ k = 3) → ¬ (b = 0 ∧ k = 5) → ¬ (b = 36 ∧ (k = 0 ∨ k = 1 ∨ k = 7 ∨ k = 8 ∨ k = 11 ∨ k = 12 ∨ k = 13)) → ¬ (37 ≤ b ∧ b ≤ 41) → b ≠ 48 → h3.1 b k = h.1 b k := fun b k w1 w2 w3 w4 w5 w6 => by
      rw [O3 b k (by omega) (by omega) (by omega) (by omega), O2.1 b k (by omega) (by omega), O1 b k (by omega) (by omega) (by omega)]
    have O13 : ∀ b k, b < 36 → h3.1 b k = h1.1 b k := fun b k w => by
      rw [O3 b k (by omega) (by omega) (by omega) (by omega), O2.1 b k (by omega) (by omega)]
    have ef : ∀ k, k < 23 → lvf h3 0 k = f k := fun k hk => by rw [lv0, a38 k hk]
    refine ⟨⟨CR_congr (CR_hl2 (CR_move H1 (fun b k hb => O13 b k (by omega))) a37) ef, FR_congr n6 P.1 ef, a0, a1⟩, ⟨x, 0, ⟨x14, by omega, ?_, a13, ?_⟩, fun i hi => absurd hi (by omega)⟩, ⟨q, H.mv fun b k hb => O b k (by omega) (by omega) (by omega) (by omega) (by omega) (by omega)⟩, T.mv fun b k hb => O b k (by omega) (by omega) (by omega) (by omega) (by omega) (by omega), fun t ht => ?_, ?_⟩
    · rw [O13 _ _ (by omega), z27, nI_0]
    · rw [O _ _ (by omega) (by omega) (by omega) (by omega) (by omega) (by omega)]; exact y3
    · have kz : h3.1 48 t = 0 := by rcases nI01 ht with rfl | rfl <;> assumption
      rw [kz, O13 _ _ (by omega), z05, bt_0]
      exact ⟨(decide_eq_false (by simp)).symm, fun z => absurd rfl z⟩
    · rw [s3, O2.2, s1]; exact s
  · obtain ⟨h1, e1, O1, -⟩ := C_read LC
    have LM1 : MT h1 (h.1 2) len := ⟨by rw [O1.1 _ _ (by omega)]; exact LM.1, LM.2.1, fun j hj => by rw [O1.1 _ _ (by omega)]; exact LM.2.2 j hj⟩
    obtain ⟨h2, e2, O2, -⟩ := M_read LM1
    refine ⟨-3, h1, h2, ?_, ?_, n0, m0, (I'.mv O1.sq).mv O2.sq⟩
    · show f_X4_court h = _
      unfold f_X4_court
      rw [e1, bd2_s, if_neg hr]
    · show f_X5_court h1 = _
      rw [X5_court_e, e2, bd2_s, if_neg hr]
