/-! the court is laid, the program -/
theorem CR_hl2 {h : HS} {a : Nat} {f hl hl' : Nat → Int32} {n m : Nat} (H : CR h a f hl n m) (e : ∀ j, j < m → hl' j = hl j ∧ hl' (4 + j) = hl (4 + j)) : CR h a f hl' n m := by
  obtain ⟨⟨hn, hm, h6, h4⟩, he, hk, hw, hkn, hfi, hh⟩ := H
  refine ⟨⟨hn, hm, h6, h4⟩, he, hk, hw, hkn, hfi, fun j hj => ?_⟩
  rw [(e j hj).1, (e j hj).2]
  exact hh j hj
theorem C_court {h : HS} {T : Nat → Int32} {len : Nat} (L : LT h T len) (hr : (rdR T len).1 = -9) : ∃ h', f_X4_court h = some (10 * nI (rdR T len).2.1 + nI (rdR T len).2.2.1, h') ∧
    CR h' 3 (rdR T len).2.2.2.1 (rdR T len).2.2.2.2 (rdR T len).2.1 (rdR T len).2.2.1 ∧ PS (rdR T len).2.2.2.1 (rdR T len).2.1 (rdR T len).2.2.1 ∧ h'.1 27 3 = 0 ∧ h'.1 0 5 = 0 ∧
    (∀ b k, ¬ (3 ≤ b ∧ b ≤ 14) → ¬ (b = 27 ∧ k = 3) → ¬ (b = 0 ∧ k = 5) → h'.1 b k = h.1 b k) ∧ h'.2 = h.2 := by
  obtain ⟨h1, e1, O1, X1⟩ := C_read L
  obtain ⟨C1, P1⟩ := X1 hr
  obtain ⟨g, eg, Cg, Og⟩ := C_become C1 (a := 3) (by omega)
  have C2 : CR (hset (hset g 27 3 0) 0 5 0) 3 (rdR T len).2.2.2.1 (rdR T len).2.2.2.2 (rdR T len).2.1 (rdR T len).2.2.1 := CR_move Cg fun b k hb => by rw [hs_o _ _ (by omega), hs_o _ _ (by omega)]
  refine ⟨hset (hset g 27 3 0) 0 5 0, ?_, C2, P1, ?_, hs_s _ _ _ _, fun b k z1 z2 z3 => ?_, ?_⟩
  · unfold f_X4_court
    rw [e1, bd2_s, if_pos hr, eg, bd_s, Lt_e, Lt_e, C2.1.1, C2.1.2.1]
  · rw [hs_o _ _ (by omega), hs_s]
  · rw [hs_o _ _ (by omega), hs_o _ _ (by omega), Og.1 _ _ (by omega), O1.1 _ _ (by omega)]
  · show g.2 = h.2
    rw [Og.2, O1.2]
