/-! a part that tells who saw -/
theorem bt_FL (f : Nat → Int32) {n m p : Nat} (n6 : n ≤ 6) : bt (FL f n m) p = (decide (p < n) && UL f m p) := bt_mkk _ n (by omega) p
theorem M83_e {h : HS} {f : Nat → Int32} {i n m : Nat} (n6 : n ≤ 6) (m4 : m ≤ 4) (e11 : h.1 36 11 = nI i) (h7 : h.1 36 7 = nI n) (h8 : h.1 36 8 = nI m) (h41 : ∀ p, p < 6 → h.1 41 p = f (7 + p)) (hU : UA f n m = true) : f_X5_readPart h 83 = bd2 (f_X5_figureOf (hset h 36 11 (nI (i + 1))) (FL f n m)) fun r11 h12 => bd (f_X5_left h12 r11) fun r13 => bd2 (f_X5_figureOf h12 r13) fun r14 h15 => bd (rd h15 41 6 r11) fun r16 => if (h15.1 36 12) = (-9) then (bd (wr h15 41 6 r11 (r16 ||| (1 <<< (r14 &&& 31)))) fun h20 => some h20) else (bd (wr h15 41 6 r11 (r16 ||| 0)) fun h20 => some h20) := by
  have ne : ¬ FL f n m = 0 := by
    have := FL_ne f (m := m) n6
    rw [hU, decide_eq_true_eq] at this
    exact this
  unfold f_X5_readPart
  rw [jn_e, if_neg (show ¬ (83 : Int32) = 80 by decide), jn_e, if_neg (show ¬ (83 : Int32) = 77 by decide), jn_e, if_pos rfl, M_firsts n6 m4 h7 h8 h41, bd_s, if_neg ne, Lt_e, e11, nI_p1, M_firsts (f := f) n6 m4 (by rw [hs_o _ _ (by omega)]; exact h7) (by rw [hs_o _ _ (by omega)]; exact h8) (fun p hp => by rw [hs_o _ _ (by omega)]; exact h41 p hp), bd_s]
  rfl
theorem M_part83 {h : HS} {T : Nat → Int32} {len i n m : Nat} {f hl : Nat → Int32} (S : MS h T len i (n, m, f, hl)) (n6 : n ≤ 6) (m4 : m ≤ 4) (hi : i < len) (hU : UA f n m = true) :
    (∃ h' a, f_X5_readPart h 83 = some h' ∧ OMR h h' ∧ h'.1 36 12 = nI a ∧ (a = i + 1 ∧ FBad T len (i + 1) (FL f n m) ∨ (a = i + 2 ∧ ∃ p, p < n ∧ UL f m p = true ∧ i + 1 < len ∧ T (i + 1) - 48 = nI p ∧ FBad T len (i + 2) (LF f m p)))) ∨
    (∃ h' p j, f_X5_readPart h 83 = some h' ∧ OMR h h' ∧ p < n ∧ UL f m p = true ∧ j < m ∧ bt (f (7 + p)) j = false ∧ i + 2 < len ∧ T (i + 1) - 48 = nI p ∧ T (i + 2) - 48 = nI j ∧ MS h' T len (i + 3) (n, m, shF f p j, hl)) := by
  obtain ⟨L, e11, e12, e7, e8, s41, s39, s40, sz⟩ := S
  have l48 := L.2.1
  simp only at e7 e8 s41 s39 s40 sz
  have O1 : OMR h (hset h 36 11 (nI (i + 1))) := OMR.set (by omega)
  have E := M83_e n6 m4 e11 e7 e8 s41 hU
  rcases M_fig (L.omr O1) (by rw [hs_o _ _ (by omega)]; exact e12) (hs_s _ _ _ _) (by omega) (FL f n m) with ⟨p, hp, q1, ep, hbp, ef⟩ | ⟨bad, ef⟩
  · rw [bt_FL f n6, Bool.and_eq_true, decide_eq_true_eq] at hbp
    rw [ef, bd2_s, M_left (f := f) (m := m) (by rw [hs_o _ _ (by omega), hs_o _ _ (by omega)]; exact e8) (fun p hp => by rw [hs_o _ _ (by omega), hs_o _ _ (by omega)]; exact s41 p hp) (by omega), bd_s] at E
    have O2 : OMR h (hset (hset h 36 11 (nI (i + 1))) 36 11 (nI (i + 1 + 1))) := O1.tr (OMR.set (by omega))
    rcases M_fig (L.omr O2) (by rw [hs_o _ _ (by omega), hs_o _ _ (by omega)]; exact e12) (hs_s _ _ _ _) (by omega) (LF f m p) with ⟨j, hj, q2, ej, hbj, ef2⟩ | ⟨bad, ef2⟩
    · rw [bt_LF f m4 p (by omega), Bool.and_eq_true, decide_eq_true_eq, Bool.not_eq_true'] at hbj
      rw [ef2, bd2_s, rd_nI _ _ (by omega) (by omega), bd_s, hs_o _ _ (show 36 ≠ 36 ∨ 12 ≠ 11 by omega), hs_o _ _ (show 36 ≠ 36 ∨ 12 ≠ 11 by omega), hs_o _ _ (show 36 ≠ 36 ∨ 12 ≠ 11 by omega), if_pos e12, wr_nI _ _ _ (by omega) (by omega), bd_s, hs_o _ _ (show 41 ≠ 36 ∨ p ≠ 11 by omega), hs_o _ _ (show 41 ≠ 36 ∨ p ≠ 11 by omega), hs_o _ _ (show 41 ≠ 36 ∨ p ≠ 11 by omega), s41 p (by omega)] at E
      have O3 := (O2.tr (OMR.set (c := 36) (k := 11) (v := nI (i + 1 + 1 + 1)) (by omega))).tr (OMR.set (c := 41) (k := p) (v := f (7 + p) ||| 1 <<< (nI j &&& 31)) (by omega))
      refine Or.inr ⟨_, p, j, E, O3, hbp.1, hbp.2, hbj.1, hbj.2, q2, ep, ej, L.omr O3, ?_, ?_, ?_, ?_, fun q hq => ?_, fun q hq => ?_, fun q hq => ⟨?_, ?_⟩, fun q hq hq2 => ?_⟩
      · rw [hs_o _ _ (by omega), hs_s]
      · rw [hs_o _ _ (by omega), hs_o _ _ (by omega), hs_o _ _ (by omega), hs_o _ _ (by omega)]; exact e12
      · rw [hs_o _ _ (by omega), hs_o _ _ (by omega), hs_o _ _ (by omega), hs_o _ _ (by omega)]; exact e7
      · rw [hs_o _ _ (by omega), hs_o _ _ (by omega), hs_o _ _ (by omega), hs_o _ _ (by omega)]; exact e8
      · show _ = shF f p j (7 + q)
        unfold shF
        by_cases e : q = p
        · subst e; rw [hs_s, upd_s]
        · rw [hs_o _ _ (by omega), hs_o _ _ (by omega), hs_o _ _ (by omega), hs_o _ _ (by omega), upd_n _ _ (by omega)]; exact s41 q hq
      · show _ = b2i (bt (shF f p j 0) q) ∧ _ = shF f p j (1 + q)
        simp only at hq
        unfold shF
        rw [upd_n _ _ (by omega), upd_n _ _ (by omega), hs_o _ _ (by omega), hs_o _ _ (by omega), hs_o _ _ (by omega), hs_o _ _ (by omega), hs_o _ _ (by omega), hs_o _ _ (by omega), hs_o _ _ (by omega), hs_o _ _ (by omega)]
        exact s39 q hq
      · rw [hs_o _ _ (by omega), hs_o _ _ (by omega), hs_o _ _ (by omega), hs_o _ _ (by omega)]; exact (s40 q hq).1
      · rw [hs_o _ _ (by omega), hs_o _ _ (by omega), hs_o _ _ (by omega), hs_o _ _ (by omega)]; exact (s40 q hq).2
      · show bt (shF f p j 0) q = false
        unfold shF
        rw [upd_n _ _ (by omega)]
        exact sz q hq hq2
    · have n12 : (hset (hset (hset h 36 11 (nI (i + 1))) 36 11 (nI (i + 1 + 1))) 36 12 (nI (i + 1 + 1))).1 36 12 = nI (i + 2) := hs_s _ _ _ _
      rw [ef2, bd2_s, rd_nI _ _ (by omega) (by omega), bd_s, if_neg (by rw [n12]; exact nI9 (by omega)), wr_nI _ _ _ (by omega) (by omega), bd_s] at E
      refine Or.inl ⟨_, i + 2, E, (O2.tr (OMR.set (by omega))).tr (OMR.set (by omega)), ?_, Or.inr ⟨rfl, p, hbp.1, hbp.2, q1, ep, bad⟩⟩
      rw [hs_o _ _ (by omega), hs_s]
  · have e12' : (hset (hset h 36 11 (nI (i + 1))) 36 12 (nI (i + 1))).1 36 12 = nI (i + 1) := hs_s _ _ _ _
    have r0 : ∀ g : HS, rd g 41 6 0 = some (g.1 41 0) := fun g => rd_nI g 41 (j := 0) (by omega) (by omega)
    have w0 : ∀ (g : HS) (v : Int32), wr g 41 6 0 v = some (hset g 41 0 v) := fun g v => wr_nI g 41 (j := 0) v (by omega) (by omega)
    have l0 := M_left (h := hset (hset h 36 11 (nI (i + 1))) 36 12 (nI (i + 1))) (f := f) (m := m) (p := 0) (by rw [hs_o _ _ (by omega), hs_o _ _ (by omega)]; exact e8) (fun p hp => by rw [hs_o _ _ (by omega), hs_o _ _ (by omega)]; exact s41 p hp) (by omega)
    rw [nI_0] at l0
    rw [ef, bd2_s, l0, bd_s, M_fig_bad _ _ (by rw [e12']; exact nI9 (by omega)), e12', bd2_s, r0, bd_s, if_neg (by rw [hs_s]; exact nI9 (by omega)), w0, bd_s] at E
    refine Or.inl ⟨_, i + 1, E, ((O1.tr (OMR.set (by omega))).tr (OMR.set (by omega))).tr (OMR.set (by omega)), ?_, Or.inl ⟨rfl, bad⟩⟩
    rw [hs_o _ _ (by omega), hs_s]
