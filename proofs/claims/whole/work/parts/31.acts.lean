/-! acts on both sides -/
theorem AC_add {h h' : HS} {n m x c : Nat} {w a b : Int32} (n6 : n ≤ 6) (m4 : m ≤ 4) (A : ACx h n m x c)
    (r1 : h'.1 27 3 = nI (if c < 14 then c + 1 else 14))
    (r2 : ∀ i, i < (if c < 14 then c else 13) → h'.1 28 i = h.1 28 (if c < 14 then i else i + 1) ∧ h'.1 29 i = h.1 29 (if c < 14 then i else i + 1) ∧ h'.1 30 i = h.1 30 (if c < 14 then i else i + 1))
    (r3 : h'.1 28 (if c < 14 then c else 13) = w ∧ h'.1 29 (if c < 14 then c else 13) = a ∧ h'.1 30 (if c < 14 then c else 13) = b)
    (r4 : ∀ k, h'.1 43 k = (cpH h 43 (23 * x) (h.1 38) 23).1 43 k) (r5 : h'.1 36 14 = nI ((x + 1) % 14)) (r6 : h'.1 36 13 = nI (if c < 14 then c + 1 else 14))
    (U : UN n m w a b (h'.1 38) (h.1 38)) : AC h' n m := by
  obtain ⟨⟨x14, c14, e1, e2, e3⟩, H⟩ := A
  have slot : ∀ y k, y < 14 → y ≠ x → k < 23 → h'.1 43 (23 * y + k) = h.1 43 (23 * y + k) := by
    intro y k hy hx hk
    rw [r4, cp_o _ _ (Or.inr (by omega))]
  have slotx : ∀ k, k < 23 → h'.1 43 (23 * x + k) = h.1 38 k := by
    intro k hk
    rw [r4, cp_i _ _ hk]
  by_cases q : c < 14
  · simp only [if_pos q] at r1 r2 r3 r6
    refine ⟨(x + 1) % 14, c + 1, ⟨Nat.mod_lt _ (by omega), by omega, r1, r6, r5⟩, fun i hi => ?_⟩
    have old : ∀ i k, i ≤ c → k < 23 → sn h' ((x + 1) % 14) (c + 1) i k = sn h x c i k := by
      intro i k hi hk
      unfold sn
      rw [if_pos (by omega)]
      by_cases e : i < c
      · rw [if_pos e, show ((x + 1) % 14 + 14 - (c + 1) + i) % 14 = (x + 14 - c + i) % 14 by omega, slot _ _ (by omega) (by omega) hk]
      · rw [if_neg e, show ((x + 1) % 14 + 14 - (c + 1) + i) % 14 = x by omega, slotx _ hk]
    by_cases e : i < c
    · rw [(r2 i e).1, (r2 i e).2.1, (r2 i e).2.2]
      exact UN_congr n6 m4 (H i e) (fun k hk => old _ _ (by omega) hk) (fun k hk => old _ _ (by omega) hk)
    · have ec : i = c := by omega
      subst ec
      rw [r3.1, r3.2.1, r3.2.2]
      refine UN_congr n6 m4 U (fun k hk => ?_) (fun k hk => ?_)
      · unfold sn
        rw [if_neg (by omega)]
      · rw [old _ _ (by omega) hk]
        unfold sn
        rw [if_neg (by omega)]
  · simp only [if_neg q] at r1 r2 r3 r6
    have c0 : c = 14 := by omega
    subst c0
    refine ⟨(x + 1) % 14, 14, ⟨Nat.mod_lt _ (by omega), by omega, r1, r6, r5⟩, fun i hi => ?_⟩
    have old : ∀ i k, i < 14 → k < 23 → sn h' ((x + 1) % 14) 14 i k = sn h x 14 (i + 1) k := by
      intro i k hi hk
      unfold sn
      rw [if_pos (by omega)]
      by_cases e : i + 1 < 14
      · rw [if_pos e, show ((x + 1) % 14 + 14 - 14 + i) % 14 = (x + 14 - 14 + (i + 1)) % 14 by omega, slot _ _ (by omega) (by omega) hk]
      · rw [if_neg e, show ((x + 1) % 14 + 14 - 14 + i) % 14 = x by omega, slotx _ hk]
    by_cases e : i < 13
    · rw [(r2 i e).1, (r2 i e).2.1, (r2 i e).2.2]
      exact UN_congr n6 m4 (H (i + 1) (by omega)) (fun k hk => old _ _ (by omega) hk) (fun k hk => old _ _ (by omega) hk)
    · have ec : i = 13 := by omega
      subst ec
      rw [r3.1, r3.2.1, r3.2.2]
      refine UN_congr n6 m4 U (fun k hk => ?_) (fun k hk => ?_)
      · unfold sn
        rw [if_neg (by omega)]
      · rw [old _ _ (by omega) hk]
        unfold sn
        rw [if_neg (by omega)]
/-- a record and its opposite, from both sides: h1 the class's, h2 the model's outcome -/
theorem act_Inv {h h1 h2 : HS} {n m x c : Nat} {w a b : Int32} {g : Nat → Int32} (I : Inv h n m) (A : ACx h n m x c)
    (C1 : CR h1 3 g (h.1 37) n m) (Fg : FR g n m)
    (o1 : ∀ d k, ¬ (3 ≤ d ∧ d ≤ 8) → ¬ (d = 27 ∧ k = 3) → ¬ (28 ≤ d ∧ d ≤ 30) → h1.1 d k = h.1 d k) (l1 : h1.2 = h.2)
    (r1 : h1.1 27 3 = nI (if c < 14 then c + 1 else 14))
    (r2 : ∀ i, i < (if c < 14 then c else 13) → h1.1 28 i = h.1 28 (if c < 14 then i else i + 1) ∧ h1.1 29 i = h.1 29 (if c < 14 then i else i + 1) ∧ h1.1 30 i = h.1 30 (if c < 14 then i else i + 1))
    (r3 : h1.1 28 (if c < 14 then c else 13) = w ∧ h1.1 29 (if c < 14 then c else 13) = a ∧ h1.1 30 (if c < 14 then c else 13) = b)
    (o2 : ∀ d k, ¬ (d = 38 ∧ k < 23) → h2.1 d k = (ks h1 x c).1 d k) (l2 : h2.2 = h1.2)
    (g2 : ∀ k, k < 23 → h2.1 38 k = g k) (U : UN n m w a b g (h.1 38)) : Inv h2 n m := by
  obtain ⟨B, -, ⟨q, H⟩, T, K, s⟩ := I
  have h6 := B.1.1.2.2.1
  have h4 := B.1.1.2.2.2
  have e2 : ∀ d k, ¬ (3 ≤ d ∧ d ≤ 8) → ¬ (d = 27 ∧ k = 3) → ¬ (28 ≤ d ∧ d ≤ 30) → ¬ (d = 38 ∧ k < 23) → d ≠ 43 → ¬ (d = 36 ∧ (k = 13 ∨ k = 14)) → h2.1 d k = h.1 d k := by
    intro d k z1 z2 z3 z4 z5 z6
    rw [o2 d k z4]
    unfold ks
    rw [hs_o _ _ (by omega), hs_o _ _ (by omega), cp_o _ _ (Or.inl z5)]
    exact o1 d k z1 z2 z3
  have e3 : ∀ d k, (d = 27 ∧ k = 3) ∨ (28 ≤ d ∧ d ≤ 30) ∨ (3 ≤ d ∧ d ≤ 8) → h2.1 d k = h1.1 d k := by
    intro d k z
    rw [o2 d k (by omega)]
    unfold ks
    rw [hs_o _ _ (by omega), hs_o _ _ (by omega), cp_o _ _ (Or.inl (by omega))]
  have eg : ∀ k, k < 23 → lvf h2 0 k = g k := fun k hk => by rw [lv0]; exact g2 k hk
  refine ⟨⟨CR_hl (CR_congr (CR_move C1 (fun b k hb => e3 b k (by omega))) eg) (fun k hk => e2 37 k (by omega) (by omega) (by omega) (by omega) (by omega) (by omega)), FR_congr h6 Fg eg, ?_, ?_⟩, ?_, ⟨q, H.mv fun b k hb => e2 b k (by omega) (by omega) (by omega) (by omega) (by omega) (by omega)⟩, T.mv fun b k hb => e2 b k (by omega) (by omega) (by omega) (by omega) (by omega) (by omega), K.mv fun b k hb => e2 b k (by omega) (by omega) (by omega) (by omega) (by omega) (by omega), ?_⟩
  · rw [e2 _ _ (by omega) (by omega) (by omega) (by omega) (by omega) (by omega)]; exact B.2.2.1
  · rw [e2 _ _ (by omega) (by omega) (by omega) (by omega) (by omega) (by omega)]; exact B.2.2.2
  · refine AC_add (w := w) (a := a) (b := b) h6 h4 A (by rw [e3 _ _ (by omega)]; exact r1) (fun i hi => ?_) ?_ (fun k => ?_) ?_ ?_ ?_
    · rw [e3 _ _ (by omega), e3 _ _ (by omega), e3 _ _ (by omega)]; exact r2 i hi
    · rw [e3 _ _ (by omega), e3 _ _ (by omega), e3 _ _ (by omega)]; exact r3
    · rw [o2 _ _ (by omega)]
      unfold ks
      rw [hs_o _ _ (by omega), hs_o _ _ (by omega)]
      show (if _ then _ else _) = (if _ then _ else _)
      rw [o1 43 k (by omega) (by omega) (by omega), o1 38 _ (by omega) (by omega) (by omega)]
    · rw [o2 _ _ (by omega)]
      unfold ks
      rw [hs_o _ _ (by omega), hs_s]
    · rw [o2 _ _ (by omega)]
      unfold ks
      rw [hs_s]
    · exact UN_congr h6 h4 U g2 (fun k hk => rfl)
  · rw [l2, l1]; exact s
