/-! one part, the model -/
def FBad (T : Nat → Int32) (len a : Nat) (M : Int32) : Prop := ¬ a < len ∨ (a < len ∧ (inB (T a - 48) 10 = false ∨ ∃ j, j < 10 ∧ T a - 48 = nI j ∧ bt M j = false))
def MT (h : HS) (T : Nat → Int32) (len : Nat) : Prop := h.1 36 10 = nI len ∧ len ≤ 48 ∧ ∀ j, j < len → h.1 42 j = T j
theorem M_fig {h : HS} {T : Nat → Int32} {len a : Nat} (L : MT h T len) (e12 : h.1 36 12 = -9) (e11 : h.1 36 11 = nI a) (a48 : a ≤ 48) (M : Int32) :
    (∃ j, j < 10 ∧ a < len ∧ T a - 48 = nI j ∧ bt M j = true ∧ f_X5_figureOf h M = some (nI j, hset h 36 11 (nI (a + 1)))) ∨ (FBad T len a M ∧ f_X5_figureOf h M = some (0, hset h 36 12 (nI a))) := by
  obtain ⟨l1, l2, l3⟩ := L
  by_cases q : a < len
  · rcases nI_rg (T a - 48) 10 (by omega) with z | ⟨j, hj, ej⟩
    · exact Or.inr ⟨Or.inr ⟨q, Or.inl z⟩, M_fig_no e12 e11 l1 l2 q (l3 a q) (Or.inl z)⟩
    · by_cases hb : bt M j = true
      · exact Or.inl ⟨j, hj, q, ej, hb, M_fig_ok e12 e11 l1 l2 q (l3 a q) hj ej hb⟩
      · have hb0 := b2n hb
        exact Or.inr ⟨Or.inr ⟨q, Or.inr ⟨j, hj, ej, hb0⟩⟩, M_fig_no e12 e11 l1 l2 q (l3 a q) (Or.inr ⟨j, hj, ej, hb0⟩)⟩
  · exact Or.inr ⟨Or.inl q, M_fig_end e12 e11 l1 l2 a48 q⟩
def OMR (h h' : HS) : Prop := (∀ b k, ¬ (b = 36 ∧ (k = 7 ∨ k = 8 ∨ k = 11 ∨ k = 12)) → ¬ (39 ≤ b ∧ b ≤ 41) → h'.1 b k = h.1 b k) ∧ h'.2 = h.2
theorem OMR.sq {h h' : HS} (O : OMR h h') : Sq h h' := ⟨fun b k z => O.1 b k (fun z2 => z (by unfold SCR; omega)) (fun z2 => z (by unfold SCR; omega)), O.2⟩
theorem OMR.tr {h1 h2 h3 : HS} (x : OMR h1 h2) (y : OMR h2 h3) : OMR h1 h3 := ⟨fun b k z1 z2 => (y.1 b k z1 z2).trans (x.1 b k z1 z2), y.2.trans x.2⟩
theorem OMR.set {h : HS} {c k : Nat} {v : Int32} (hc : (c = 36 ∧ (k = 7 ∨ k = 8 ∨ k = 11 ∨ k = 12)) ∨ (39 ≤ c ∧ c ≤ 41)) : OMR h (hset h c k v) := ⟨fun b j z1 z2 => by rw [hs_o _ _ (by omega)], rfl⟩
theorem MT.omr {h h' : HS} {T : Nat → Int32} {len : Nat} (L : MT h T len) (O : OMR h h') : MT h' T len := by
  obtain ⟨l1, l2, l3⟩ := L
  exact ⟨by rw [O.1 _ _ (by omega) (by omega)]; exact l1, l2, fun j hj => by rw [O.1 _ _ (by omega) (by omega)]; exact l3 j hj⟩
/-- what the model has read -/
def MS (h : HS) (T : Nat → Int32) (len i : Nat) (s : Nat × Nat × (Nat → Int32) × (Nat → Int32)) : Prop := MT h T len ∧ h.1 36 11 = nI i ∧ h.1 36 12 = -9 ∧ h.1 36 7 = nI s.1 ∧ h.1 36 8 = nI s.2.1 ∧ (∀ p, p < 6 → h.1 41 p = s.2.2.1 (7 + p)) ∧ (∀ p, p < s.1 → h.1 39 (2 * p) = b2i (bt (s.2.2.1 0) p) ∧ h.1 39 (2 * p + 1) = s.2.2.1 (1 + p)) ∧ (∀ j, j < s.2.1 → h.1 40 j = s.2.2.2 j ∧ h.1 40 (4 + j) = s.2.2.2 (4 + j)) ∧ (∀ p, s.1 ≤ p → p < 32 → bt (s.2.2.1 0) p = false)
theorem b1023 {j : Nat} (hj : j < 10) : bt 1023 j = true := by
  have : ∀ j, j < 10 → bt 1023 j = true := by decide +kernel
  exact this j hj
theorem M77_e {h : HS} {i m : Nat} (e11 : h.1 36 11 = nI i) (e8 : h.1 36 8 = nI m) (m4 : m < 4) : f_X5_readPart h 77 = bd2 (f_X5_figureOf (hset h 36 11 (nI (i + 1))) 1023) fun r22 h23 => bd (wr h23 40 8 (nI m) r22) fun h24 => bd2 (f_X5_figureOf h24 1023) fun r25 h26 => bd (wr h26 40 8 (4 + (h24.1 36 8)) r25) fun h27 => Lt (hset h27 36 8 ((h27.1 36 8) + 1)) fun h28 => some h28 := by
  unfold f_X5_readPart
  rw [jn_e, if_neg (show ¬ (77 : Int32) = 80 by decide), jn_e, if_pos rfl, e8, L4, if_pos (nI_lt m4 (by omega)), Lt_e, e11, nI_p1, hs_o _ _ (by omega), e8]
/-- a part that is a matter -/
theorem M_part77 {h : HS} {T : Nat → Int32} {len i n m : Nat} {f hl : Nat → Int32} (S : MS h T len i (n, m, f, hl)) (hi : i < len) (m4 : m < 4) :
    (∃ h' a, f_X5_readPart h 77 = some h' ∧ OMR h h' ∧ h'.1 36 12 = nI a ∧ (a = i + 1 ∧ FBad T len (i + 1) 1023 ∨ (a = i + 2 ∧ ∃ p, p < 10 ∧ i + 1 < len ∧ T (i + 1) - 48 = nI p ∧ FBad T len (i + 2) 1023))) ∨
    (∃ h' p j, f_X5_readPart h 77 = some h' ∧ OMR h h' ∧ p < 10 ∧ j < 10 ∧ i + 2 < len ∧ T (i + 1) - 48 = nI p ∧ T (i + 2) - 48 = nI j ∧ MS h' T len (i + 3) (n, m + 1, f, adL hl m (nI p) (nI j))) := by
  obtain ⟨L, e11, e12, e7, e8, s41, s39, s40, sz⟩ := S
  have l48 := L.2.1
  simp only at e7 e8 s41 s39 s40 sz
  have O1 : OMR h (hset h 36 11 (nI (i + 1))) := OMR.set (by omega)
  have E := M77_e e11 e8 m4
  rcases M_fig (L.omr O1) (by rw [hs_o _ _ (by omega)]; exact e12) (hs_s _ _ _ _) (by omega) 1023 with ⟨p, hp, q1, ep, -, ef⟩ | ⟨bad, ef⟩
  · rw [ef, bd2_s, wr_nI _ _ _ (by omega) (by omega), bd_s] at E
    have O2 : OMR h (hset (hset (hset h 36 11 (nI (i + 1))) 36 11 (nI (i + 1 + 1))) 40 m (nI p)) := (O1.tr (OMR.set (by omega))).tr (OMR.set (by omega))
    rcases M_fig (L.omr O2) (by rw [hs_o _ _ (by omega), hs_o _ _ (by omega), hs_o _ _ (by omega)]; exact e12) (by rw [hs_o _ _ (by omega), hs_s]) (by omega) 1023 with ⟨j, hj, q2, ej, -, ef2⟩ | ⟨bad, ef2⟩
    · rw [ef2, bd2_s, hs_o _ _ (by omega), hs_o _ _ (by omega), hs_o _ _ (by omega), e8, L4, nI_add, wr_nI _ _ _ (by omega) (by omega), bd_s, Lt_e, hs_o _ _ (by omega), hs_o _ _ (by omega), hs_o _ _ (by omega), hs_o _ _ (by omega), hs_o _ _ (by omega), e8, nI_p1] at E
      have O3 := ((O2.tr (OMR.set (c := 36) (k := 11) (v := nI (i + 1 + 1 + 1)) (by omega))).tr (OMR.set (c := 40) (k := 4 + m) (v := nI j) (by omega))).tr (OMR.set (c := 36) (k := 8) (v := nI (m + 1)) (by omega))
      refine Or.inr ⟨_, p, j, E, O3, hp, hj, q2, ep, ej, L.omr O3, ?_, ?_, ?_, ?_, fun q hq => ?_, fun q hq => ⟨?_, ?_⟩, fun q hq => ?_, sz⟩
      · rw [hs_o _ _ (by omega), hs_o _ _ (by omega), hs_s]
      · rw [hs_o _ _ (by omega), hs_o _ _ (by omega), hs_o _ _ (by omega), hs_o _ _ (by omega), hs_o _ _ (by omega), hs_o _ _ (by omega)]; exact e12
      · rw [hs_o _ _ (by omega), hs_o _ _ (by omega), hs_o _ _ (by omega), hs_o _ _ (by omega), hs_o _ _ (by omega), hs_o _ _ (by omega)]; exact e7
      · rw [hs_s]
      · rw [hs_o _ _ (by omega), hs_o _ _ (by omega), hs_o _ _ (by omega), hs_o _ _ (by omega), hs_o _ _ (by omega), hs_o _ _ (by omega)]; exact s41 q hq
      · rw [hs_o _ _ (by omega), hs_o _ _ (by omega), hs_o _ _ (by omega), hs_o _ _ (by omega), hs_o _ _ (by omega), hs_o _ _ (by omega)]; exact (s39 q hq).1
      · rw [hs_o _ _ (by omega), hs_o _ _ (by omega), hs_o _ _ (by omega), hs_o _ _ (by omega), hs_o _ _ (by omega), hs_o _ _ (by omega)]; exact (s39 q hq).2
      · show _ = adL hl m (nI p) (nI j) q ∧ _ = adL hl m (nI p) (nI j) (4 + q)
        simp only at hq
        unfold adL
        by_cases e : q = m
        · subst e
          rw [upd_s, upd_n _ _ (by omega), upd_s, hs_o _ _ (by omega), hs_o _ _ (by omega), hs_o _ _ (by omega), hs_s, hs_o _ _ (by omega), hs_s]
          exact ⟨rfl, rfl⟩
        · rw [hs_o _ _ (by omega), hs_o _ _ (by omega), hs_o _ _ (by omega), hs_o _ _ (by omega), hs_o _ _ (by omega), hs_o _ _ (by omega), hs_o _ _ (by omega), hs_o _ _ (by omega), hs_o _ _ (by omega), hs_o _ _ (by omega), hs_o _ _ (by omega), hs_o _ _ (by omega), upd_n _ _ (by omega), upd_n _ _ (by omega), upd_n _ _ (by omega), upd_n _ _ (by omega)]
          exact s40 q (by omega)
    · rw [ef2, bd2_s, hs_o _ _ (by omega), hs_o _ _ (by omega), hs_o _ _ (by omega), e8, L4, nI_add, wr_nI _ _ _ (by omega) (by omega), bd_s, Lt_e] at E
      refine Or.inl ⟨_, i + 2, E, (((O2.tr (OMR.set (by omega))).tr (OMR.set (by omega))).tr (OMR.set (by omega))), ?_, Or.inr ⟨rfl, p, hp, q1, ep, bad⟩⟩
      rw [hs_o _ _ (by omega), hs_o _ _ (by omega), hs_s]
  · rw [ef, bd2_s, wr_nI _ _ _ (by omega) (by omega), bd_s] at E
    have e12' : (hset (hset (hset h 36 11 (nI (i + 1))) 36 12 (nI (i + 1))) 40 m 0).1 36 12 = nI (i + 1) := by rw [hs_o _ _ (by omega), hs_s]
    rw [M_fig_bad _ _ (by rw [e12']; exact nI9 (by omega)), e12', bd2_s, hs_o _ _ (by omega), hs_o _ _ (by omega), hs_o _ _ (by omega), e8, L4, nI_add, wr_nI _ _ _ (by omega) (by omega), bd_s, Lt_e] at E
    refine Or.inl ⟨_, i + 1, E, ((((O1.tr (OMR.set (by omega))).tr (OMR.set (by omega))).tr (OMR.set (by omega))).tr (OMR.set (by omega))).tr (OMR.set (by omega)), ?_, Or.inl ⟨rfl, bad⟩⟩
    rw [hs_o _ _ (by omega), hs_o _ _ (by omega), hs_s]
