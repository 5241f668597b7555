/-! one part: the model against the pure reading -/
theorem M_b0 {h : HS} {f : Nat → Int32} {i n m : Nat} {c : Int32} (n6 : n ≤ 6) (m4 : m ≤ 4) (e11 : h.1 36 11 = nI i) (h7 : h.1 36 7 = nI n) (h8 : h.1 36 8 = nI m) (h41 : ∀ p, p < 6 → h.1 41 p = f (7 + p)) (hb : bgn n m f c = false) : f_X5_readPart h c = some (hset h 36 12 (nI i)) := by
  unfold bgn at hb
  unfold f_X5_readPart
  rw [jn_e]
  by_cases c1 : c = 77
  · rw [if_pos c1, decide_eq_false_iff_not] at hb
    subst c1
    rw [if_neg (show ¬ (77 : Int32) = 80 by decide), jn_e, if_pos rfl, h8, L4, if_neg (nI_nlt (by omega) (by omega)), jn_e, if_neg (show ¬ (77 : Int32) = 83 by decide), Lt_e, e11]
  rw [if_neg c1] at hb
  by_cases c2 : c = 80
  · rw [if_pos c2, decide_eq_false_iff_not] at hb
    subst c2
    rw [if_pos rfl, h7, L6, if_neg (nI_nlt (by omega) (by omega)), jn_e, if_neg (show ¬ (80 : Int32) = 77 by decide), jn_e, if_neg (show ¬ (80 : Int32) = 83 by decide), Lt_e, e11]
  rw [if_neg c2] at hb
  rw [if_neg c2, jn_e, if_neg c1, jn_e]
  by_cases c3 : c = 83
  · rw [if_pos c3] at hb
    have e := FL_ne f (m := m) n6
    rw [hb] at e
    have e0 : FL f n m = 0 := by
      by_cases q : FL f n m = 0
      · exact q
      · rw [decide_eq_true q] at e; cases e
    rw [if_pos c3, M_firsts n6 m4 h7 h8 h41, bd_s, if_pos e0, Lt_e, e11]
  · rw [if_neg c3, Lt_e, e11]
theorem M_step {h : HS} {T : Nat → Int32} {len i n m : Nat} {f hl : Nat → Int32} (S : MS h T len i (n, m, f, hl)) (P : PS f n m) (hi : i < len) :
    ∃ h', f_X5_readPart h (T i) = some h' ∧ OMR h h' ∧
      ((∃ a, a ≤ 48 ∧ h'.1 36 12 = nI a ∧ ∀ d, (rdP T len (d + 1) i (n, m, f, hl)).1 = nI a) ∨
       (∃ s : Nat × Nat × (Nat → Int32) × (Nat → Int32), i + 2 < len ∧ MS h' T len (i + 3) s ∧ PS s.2.2.1 s.1 s.2.1 ∧ ∀ d, rdP T len (d + 1) i (n, m, f, hl) = rdP T len d (i + 3) s)) := by
  have n6 := P.2.1
  have m4 := P.2.2.1
  have l48 := S.1.2.1
  by_cases hb : bgn n m f (T i) = true
  · have hb' := hb
    unfold bgn at hb
    by_cases c1 : T i = 77
    · rw [if_pos c1, decide_eq_true_eq] at hb
      have hg : ∀ p, gon n m f (T i) p = true := fun p => by unfold gon; rw [if_pos c1]
      have ht : ∀ p j, tkB n m f (T i) p j = true := fun p j => by unfold tkB; rw [if_pos c1]
      have nb : ∀ j, j < 10 → bt 1023 j = false → False := fun j hj z => by rw [b1023 hj] at z; cases z
      rcases M_part77 S hi hb with ⟨h', a, E, O, e, X⟩ | ⟨h', p, j, E, O, hp, hj, q2, ep, ej, S'⟩
      · rw [← c1] at E
        refine ⟨h', E, O, Or.inl ⟨a, ?_, e, fun d => ?_⟩⟩
        · rcases X with ⟨rfl, -⟩ | ⟨rfl, p, hp, q1, -⟩ <;> omega
        · rcases X with ⟨rfl, B⟩ | ⟨rfl, p, hp, q1, ep, B⟩
          · refine rdP_2 hi hb' (B.imp id fun ⟨x, y⟩ => ⟨x, y.imp id fun ⟨j, z1, z2, z3⟩ => absurd z3 (fun z => nb j z1 z)⟩) d
          · refine rdP_3 hi hb' hp q1 ep (hg p) (B.imp id fun ⟨x, y⟩ => ⟨x, y.imp id fun ⟨j, z1, z2, z3⟩ => absurd z3 (fun z => nb j z1 z)⟩) d
      · rw [← c1] at E
        refine ⟨h', E, O, Or.inr ⟨_, q2, S', PS_m P hb, fun d => ?_⟩⟩
        rw [rdP_ok hi hb' hp q2 ep (hg p) hj ej (ht p j) d]
        unfold tkS
        rw [if_pos c1]
    rw [if_neg c1] at hb
    by_cases c2 : T i = 80
    · rw [if_pos c2, decide_eq_true_eq] at hb
      have hg : ∀ p, gon n m f (T i) p = decide (p < 2) := fun p => by unfold gon; rw [if_neg c1, if_pos c2]
      have ht : ∀ p j, tkB n m f (T i) p j = decide (j < 4) := fun p j => by unfold tkB; rw [if_neg c1, if_pos c2]
      rcases M_part80 S hi hb with ⟨h', a, E, O, e, X⟩ | ⟨h', p, j, E, O, hp, hj, q2, ep, ej, S'⟩
      · rw [← c2] at E
        refine ⟨h', E, O, Or.inl ⟨a, ?_, e, fun d => ?_⟩⟩
        · rcases X with ⟨rfl, -⟩ | ⟨rfl, p, hp, q1, -⟩ <;> omega
        · rcases X with ⟨rfl, B⟩ | ⟨rfl, p, hp, q1, ep, B⟩
          · refine rdP_2 hi hb' (B.imp id fun ⟨x, y⟩ => ⟨x, y.imp id fun ⟨j, z1, z2, z3⟩ => ⟨j, z1, z2, by rw [hg, ← b3 z1]; exact z3⟩⟩) d
          · refine rdP_3 hi hb' (by omega) q1 ep (by rw [hg, decide_eq_true hp]) (B.imp id fun ⟨x, y⟩ => ⟨x, y.imp id fun ⟨j, z1, z2, z3⟩ => ⟨j, z1, z2, by rw [ht, ← b15 z1]; exact z3⟩⟩) d
      · rw [← c2] at E
        have ek : nI j = 0 ∨ nI j = 1 ∨ nI j = 2 ∨ nI j = 3 := by
          have : ∀ j, j < 4 → (nI j = 0 ∨ nI j = 1 ∨ nI j = 2 ∨ nI j = 3) := by decide +kernel
          exact this j hj
        refine ⟨h', E, O, Or.inr ⟨_, q2, S', PS_ad P hb _ ek, fun d => ?_⟩⟩
        rw [rdP_ok hi hb' (by omega) q2 ep (by rw [hg, decide_eq_true hp]) (show j < 10 by omega) ej (by rw [ht, decide_eq_true hj]) d]
        unfold tkS
        rw [if_neg c1, if_pos c2]
    rw [if_neg c2] at hb
    by_cases c3 : T i = 83
    · rw [if_pos c3] at hb
      have hg : ∀ p, gon n m f (T i) p = (decide (p < n) && UL f m p) := fun p => by unfold gon; rw [if_neg c1, if_neg c2, if_pos c3]
      have ht : ∀ p j, tkB n m f (T i) p j = (decide (j < m) && !bt (f (7 + p)) j) := fun p j => by unfold tkB; rw [if_neg c1, if_neg c2]
      rcases M_part83 S n6 m4 hi hb with ⟨h', a, E, O, e, X⟩ | ⟨h', p, j, E, O, hp, hu, hj, hv, q2, ep, ej, S'⟩
      · rw [← c3] at E
        refine ⟨h', E, O, Or.inl ⟨a, ?_, e, fun d => ?_⟩⟩
        · rcases X with ⟨rfl, -⟩ | ⟨rfl, p, hp, hu, q1, -⟩ <;> omega
        · rcases X with ⟨rfl, B⟩ | ⟨rfl, p, hp, hu, q1, ep, B⟩
          · refine rdP_2 hi hb' (B.imp id fun ⟨x, y⟩ => ⟨x, y.imp id fun ⟨j, z1, z2, z3⟩ => ⟨j, z1, z2, by rw [hg, ← bt_FL f n6]; exact z3⟩⟩) d
          · refine rdP_3 hi hb' (by omega) q1 ep (by rw [hg, decide_eq_true hp, hu]; rfl) (B.imp id fun ⟨x, y⟩ => ⟨x, y.imp id fun ⟨j, z1, z2, z3⟩ => ⟨j, z1, z2, by rw [ht, ← bt_LF f m4 p (by omega)]; exact z3⟩⟩) d
      · rw [← c3] at E
        refine ⟨h', E, O, Or.inr ⟨_, q2, S', PS_sh P hp hj, fun d => ?_⟩⟩
        rw [rdP_ok hi hb' (by omega) q2 ep (by rw [hg, decide_eq_true hp, hu]; rfl) (show j < 10 by omega) ej (by rw [ht, decide_eq_true hj, hv]; rfl) d]
        unfold tkS
        rw [if_neg c1, if_neg c2]
    · rw [if_neg c3] at hb; cases hb
  · have hb0 := b2n hb
    obtain ⟨L, e11, e12, e7, e8, s41, -⟩ := S
    exact ⟨_, M_b0 n6 m4 e11 e7 e8 s41 hb0, OMR.set (by omega), Or.inl ⟨i, by omega, hs_s _ _ _ _, fun d => rdP_b0 hi hb0 d⟩⟩
