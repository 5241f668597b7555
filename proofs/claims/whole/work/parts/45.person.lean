/-! a part that is a person -/
theorem M80_e {h : HS} {i n : Nat} (e11 : h.1 36 11 = nI i) (e7 : h.1 36 7 = nI n) (n6 : n < 6) : f_X5_readPart h 80 = bd2 (f_X5_figureOf (hset h 36 11 (nI (i + 1))) 3) fun r30 h31 => bd (wr h31 39 12 (nI (2 * n)) r30) fun h32 => bd2 (f_X5_figureOf h32 15) fun r33 h34 => bd (wr h34 39 12 ((2 * (h32.1 36 7)) + 1) r33) fun h35 => Lt (hset h35 36 7 ((h35.1 36 7) + 1)) fun h36 => some h36 := by
  unfold f_X5_readPart
  rw [jn_e, if_pos rfl, e7, L6, if_pos (nI_lt n6 (by omega)), Lt_e, e11, nI_p1, hs_o _ _ (by omega), e7, show (2 : Int32) * nI n = nI (2 * n) by rw [L2, pk_mul]]
theorem b3 {j : Nat} (hj : j < 10) : bt 3 j = decide (j < 2) := by
  have : ∀ j, j < 10 → bt 3 j = decide (j < 2) := by decide +kernel
  exact this j hj
theorem b15 {j : Nat} (hj : j < 10) : bt 15 j = decide (j < 4) := by
  have : ∀ j, j < 10 → bt 15 j = decide (j < 4) := by decide +kernel
  exact this j hj
theorem M_part80 {h : HS} {T : Nat → Int32} {len i n m : Nat} {f hl : Nat → Int32} (S : MS h T len i (n, m, f, hl)) (hi : i < len) (n6 : n < 6) :
    (∃ h' a, f_X5_readPart h 80 = some h' ∧ OMR h h' ∧ h'.1 36 12 = nI a ∧ (a = i + 1 ∧ FBad T len (i + 1) 3 ∨ (a = i + 2 ∧ ∃ p, p < 2 ∧ i + 1 < len ∧ T (i + 1) - 48 = nI p ∧ FBad T len (i + 2) 15))) ∨
    (∃ h' p j, f_X5_readPart h 80 = some h' ∧ OMR h h' ∧ p < 2 ∧ j < 4 ∧ i + 2 < len ∧ T (i + 1) - 48 = nI p ∧ T (i + 2) - 48 = nI j ∧ MS h' T len (i + 3) (n + 1, m, adF f n (decide (p = 1)) (nI j), hl)) := by
  obtain ⟨L, e11, e12, e7, e8, s41, s39, s40, sz⟩ := S
  have l48 := L.2.1
  simp only at e7 e8 s41 s39 s40 sz
  have O1 : OMR h (hset h 36 11 (nI (i + 1))) := OMR.set (by omega)
  have E := M80_e e11 e7 n6
  have ix : (2 : Int32) * nI n + 1 = nI (2 * n + 1) := by rw [L2, pk_mul, nI_p1]
  rcases M_fig (L.omr O1) (by rw [hs_o _ _ (by omega)]; exact e12) (hs_s _ _ _ _) (by omega) 3 with ⟨p, hp, q1, ep, hbp, ef⟩ | ⟨bad, ef⟩
  · rw [b3 hp, decide_eq_true_eq] at hbp
    rw [ef, bd2_s, wr_nI _ _ _ (by omega) (by omega), bd_s] at E
    have O2 : OMR h (hset (hset (hset h 36 11 (nI (i + 1))) 36 11 (nI (i + 1 + 1))) 39 (2 * n) (nI p)) := (O1.tr (OMR.set (by omega))).tr (OMR.set (by omega))
    rcases M_fig (L.omr O2) (by rw [hs_o _ _ (by omega), hs_o _ _ (by omega), hs_o _ _ (by omega)]; exact e12) (by rw [hs_o _ _ (by omega), hs_s]) (by omega) 15 with ⟨j, hj, q2, ej, hbj, ef2⟩ | ⟨bad, ef2⟩
    · rw [b15 hj, decide_eq_true_eq] at hbj
      rw [ef2, bd2_s, hs_o _ _ (by omega), hs_o _ _ (by omega), hs_o _ _ (by omega), e7, ix, wr_nI _ _ _ (by omega) (by omega), bd_s, Lt_e, hs_o _ _ (by omega), hs_o _ _ (by omega), hs_o _ _ (by omega), hs_o _ _ (by omega), hs_o _ _ (by omega), e7, nI_p1] at E
      have O3 := ((O2.tr (OMR.set (c := 36) (k := 11) (v := nI (i + 1 + 1 + 1)) (by omega))).tr (OMR.set (c := 39) (k := 2 * n + 1) (v := nI j) (by omega))).tr (OMR.set (c := 36) (k := 7) (v := nI (n + 1)) (by omega))
      have eb : nI p = b2i (decide (p = 1)) := by rcases nI01 hbp with rfl | rfl <;> decide +kernel
      have f0 : ∀ q, q < 32 → bt (adF f n (decide (p = 1)) (nI j) 0) q = if q = n then decide (p = 1) else bt (f 0) q := fun q hq => by
        unfold adF
        rw [upd_n _ _ (by omega), upd_s]
        by_cases e1 : p = 1
        · rw [decide_eq_true e1, if_pos rfl, bt_or, bt_one (by omega)]
          by_cases e : q = n
          · simp [e]
          · simp [e]
        · rw [decide_eq_false e1, if_neg (by decide)]
          by_cases e : q = n
          · subst e; rw [if_pos rfl, sz q (Nat.le_refl _) hq]
          · rw [if_neg e]
      refine Or.inr ⟨_, p, j, E, O3, hbp, hbj, q2, ep, ej, L.omr O3, ?_, ?_, ?_, ?_, fun q hq => ?_, fun q hq => ?_, fun q hq => ⟨?_, ?_⟩, fun q hq hq2 => ?_⟩
      · rw [hs_o _ _ (by omega), hs_o _ _ (by omega), hs_s]
      · rw [hs_o _ _ (by omega), hs_o _ _ (by omega), hs_o _ _ (by omega), hs_o _ _ (by omega), hs_o _ _ (by omega), hs_o _ _ (by omega)]; exact e12
      · rw [hs_s]
      · rw [hs_o _ _ (by omega), hs_o _ _ (by omega), hs_o _ _ (by omega), hs_o _ _ (by omega), hs_o _ _ (by omega), hs_o _ _ (by omega)]; exact e8
      · show _ = adF f n (decide (p = 1)) (nI j) (7 + q)
        unfold adF
        rw [upd_n _ _ (by omega), upd_n _ _ (by omega), hs_o _ _ (by omega), hs_o _ _ (by omega), hs_o _ _ (by omega), hs_o _ _ (by omega), hs_o _ _ (by omega), hs_o _ _ (by omega)]; exact s41 q hq
      · show _ = b2i (bt (adF f n (decide (p = 1)) (nI j) 0) q) ∧ _ = adF f n (decide (p = 1)) (nI j) (1 + q)
        simp only at hq
        rw [f0 q (by omega)]
        by_cases e : q = n
        · subst e
          rw [if_pos rfl, ← eb, hs_o _ _ (by omega), hs_o _ _ (by omega), hs_o _ _ (by omega), hs_s, hs_o _ _ (by omega), hs_s]
          refine ⟨rfl, ?_⟩
          unfold adF
          rw [upd_s]
        · rw [if_neg e, hs_o _ _ (by omega), hs_o _ _ (by omega), hs_o _ _ (by omega), hs_o _ _ (by omega), hs_o _ _ (by omega), hs_o _ _ (by omega), hs_o _ _ (by omega), hs_o _ _ (by omega), hs_o _ _ (by omega), hs_o _ _ (by omega), hs_o _ _ (by omega), hs_o _ _ (by omega)]
          unfold adF
          rw [upd_n _ _ (by omega), upd_n _ _ (by omega)]
          exact s39 q (by omega)
      · rw [hs_o _ _ (by omega), hs_o _ _ (by omega), hs_o _ _ (by omega), hs_o _ _ (by omega), hs_o _ _ (by omega), hs_o _ _ (by omega)]; exact (s40 q hq).1
      · rw [hs_o _ _ (by omega), hs_o _ _ (by omega), hs_o _ _ (by omega), hs_o _ _ (by omega), hs_o _ _ (by omega), hs_o _ _ (by omega)]; exact (s40 q hq).2
      · show bt (adF f n (decide (p = 1)) (nI j) 0) q = false
        simp only at hq
        rw [f0 q hq2, if_neg (by omega)]
        exact sz q (by omega) hq2
    · rw [ef2, bd2_s, hs_o _ _ (by omega), hs_o _ _ (by omega), hs_o _ _ (by omega), e7, ix, wr_nI _ _ _ (by omega) (by omega), bd_s, Lt_e] at E
      refine Or.inl ⟨_, i + 2, E, (((O2.tr (OMR.set (by omega))).tr (OMR.set (by omega))).tr (OMR.set (by omega))), ?_, Or.inr ⟨rfl, p, hbp, q1, ep, bad⟩⟩
      rw [hs_o _ _ (by omega), hs_o _ _ (by omega), hs_s]
  · rw [ef, bd2_s, wr_nI _ _ _ (by omega) (by omega), bd_s] at E
    have e12' : (hset (hset (hset h 36 11 (nI (i + 1))) 36 12 (nI (i + 1))) 39 (2 * n) 0).1 36 12 = nI (i + 1) := by rw [hs_o _ _ (by omega), hs_s]
    rw [M_fig_bad _ _ (by rw [e12']; exact nI9 (by omega)), e12', bd2_s, hs_o _ _ (by omega), hs_o _ _ (by omega), hs_o _ _ (by omega), e7, ix, wr_nI _ _ _ (by omega) (by omega), bd_s, Lt_e] at E
    refine Or.inl ⟨_, i + 1, E, ((((O1.tr (OMR.set (by omega))).tr (OMR.set (by omega))).tr (OMR.set (by omega))).tr (OMR.set (by omega))).tr (OMR.set (by omega)), ?_, Or.inl ⟨rfl, bad⟩⟩
    rw [hs_o _ _ (by omega), hs_o _ _ (by omega), hs_s]
