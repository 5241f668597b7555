/-! most pairs, the program -/
def biB (h : HS) (r1 v2 : Int32) (rec7 : Int32 → Int32 → Option Int32) (i5 i6 : Int32) : Option Int32 := if i6 < 6 then (jn (fun (w9 : Int32) => rec7 w9 (i6 + 1)) (fun j10 => if ((v2 >>> (i6 &&& 31)) &&& 1) = 1 then (bd (f_X1_areCoupleForSome h 3 r1 i6) fun r12 => if r12 = true then (bd (f_X4_standingRow h (v2 &&& ((1 <<< (i6 &&& 31)) ^^^ (-1)))) fun r13 => Lt (((10 * (r1 + 1)) + i6) + 1) fun v14 => bd (f_X4_pairsIn h r13) fun r15 => bd (f_X4_power h 100 r15) fun r16 => bd (f_X4_betterRow h i5 ((v14 * r16) + r13)) fun r17 => j10 r17) else (j10 i5)) else (j10 i5))) else (some i5)
theorem X4_in_e (h : HS) (p1 : Int32) : f_X4_bestRowIn h p1 = bd (f_X4_leastIn h p1) fun r1 => if r1 = (-9) then (some (0 : Int32)) else (Lt (p1 &&& ((1 <<< (r1 &&& 31)) ^^^ (-1))) fun v2 => bd (f_X4_standingRow h v2) fun r3 => Lt (r1 + 1) fun v4 => loop2 (biB h r1 v2) 400 r3 v4) := rfl
def brB (r1 : Int32) (rec5 : Int32 → Int32 → HS → Option (Int32 × HS)) (i2 i3 : Int32) (h4 : HS) : Option (Int32 × HS) := if r1 < i3 then (some (i2, h4)) else (if i3 < 64 then (bd (f_X4_bestRowIn h4 i3) fun r7 => bd (wr h4 35 64 i3 r7) fun h8 => rec5 r7 (i3 + 1) h8) else (some (i2, h4)))
theorem X4_best_e (h : HS) : f_X4_bestRow h = bd (f_X1_everybody h 3) fun r1 => loop3 (brB r1) 400 0 0 h := rfl
theorem X4_standing (h : HS) {s : Nat} (hs : s < 64) : f_X4_standingRow h (nI s) = some (h.1 35 s) := by
  unfold f_X4_standingRow
  rw [if_neg (nI_pos (by omega)), show (64 : Int32) = nI 64 by decide +kernel, if_pos (nI_lt hs (by omega)), rd_nI _ _ hs (by omega), bd_s]
theorem or_lt {A : Prop} {T : Nat → Prop} (o : Nat) : ((A ∨ ∃ o', o' < o ∧ T o') ∨ T o) ↔ (A ∨ ∃ o', o' < o + 1 ∧ T o') := by
  constructor
  · rintro ((h | ⟨o', h1, h2⟩) | h)
    · exact Or.inl h
    · exact Or.inr ⟨o', by omega, h2⟩
    · exact Or.inr ⟨o, by omega, h⟩
  · rintro (h | ⟨o', h1, h2⟩)
    · exact Or.inl (Or.inl h)
    · by_cases q : o' = o
      · subst q; exact Or.inr h2
      · exact Or.inl (Or.inr ⟨o', by omega, h2⟩)
theorem or_lt0 {A : Prop} {T : Nat → Prop} {o : Nat} (hT : ¬ T o) : (A ∨ ∃ o', o' < o ∧ T o') ↔ (A ∨ ∃ o', o' < o + 1 ∧ T o') := by
  rw [← or_lt]
  constructor
  · exact fun z => Or.inl z
  · rintro (z | z)
    · exact z
    · exact absurd z hT
theorem bit_lt {S n o : Nat} (hS : S < 2 ^ n) (hb : S.testBit o = true) : o < n := by
  rcases Nat.lt_or_ge o n with z | z
  · exact z
  · rw [Nat.testBit_lt_two_pow (Nat.lt_of_lt_of_le hS (Nat.pow_le_pow_right (by omega) z))] at hb
    cases hb
/-- the rows in which the least of the set is paired with o -/
def VT (e : Nat → Nat → Bool) (S l k r o : Nat) : Prop := ED e S l o ∧ ∃ k' r', VR e (del (del S l) o) k' r' ∧ k = k' + 1 ∧ r = tw l o * 100 ^ k' + r'
theorem C_bestIn {h : HS} {f hl : Nat → Int32} {n m : Nat} (H : CR h 3 f hl n m) {S : Nat} (hS : S < 2 ^ n) (R : ∀ s, s < S → Op (VR (eg f m) s) (h.1 35 s)) : ∃ x, f_X4_bestRowIn h (nI S) = some x ∧ Op (VR (eg f m) S) x := by
  have n6 := H.1.2.2.1
  obtain ⟨p1, p2⟩ := all_nI n6
  have S64 : S < 64 := by omega
  rw [X4_in_e, X4_leastIn h S64, bd_s]
  by_cases q : S = 0
  · subst q
    rw [if_pos rfl, if_pos rfl]
    refine ⟨0, rfl, 0, 0, nI_0.symm, Or.inl ⟨rfl, rfl⟩, Or.inl ⟨rfl, rfl⟩, fun k' r' w => ?_⟩
    have no : ∀ {i o}, ¬ ED (eg f m) 0 i o := fun h => by
      have := h.2.2.1
      rw [Nat.zero_testBit] at this
      cases this
    rcases w with ⟨rfl, rfl⟩ | ⟨rfl, i, o, h1, _⟩ | ⟨rfl, i, o, i', o', h1, _⟩ | ⟨rfl, i, o, i', o', i'', o'', h1, _⟩
    · exact Or.inr ⟨rfl, Nat.le_refl _⟩
    · exact absurd h1 no
    · exact absurd h1 no
    · exact absurd h1 no
  · obtain ⟨lb, l6, lm⟩ := lst_p S S64 q
    generalize lst S = l at lb l6 lm ⊢
    have d1 := (del_lt S S64 l l6).2 lb
    have D64 : del S l < 64 := by omega
    have ln : l < n := bit_lt hS lb
    have stp := VR_step (e := eg f m) S64 l6 lb lm
    rw [if_neg q, if_neg (nI9 (by omega)), del_I S S64 l l6, Lt_e, X4_standing _ D64, bd_s, nI_p1, Lt_e]
    refine inv2 (Q := fun r => ∃ (x : Int32), r = some x ∧ Op (VR (eg f m) S) x) (fun o a b => b = nI o ∧ l < o ∧ Op (fun k r => VR (eg f m) (del S l) k r ∨ ∃ o', o' < o ∧ VT (eg f m) S l k r o') a) 6 (fun rec o a b ho P ih => ?_) (fun rec a b P => ?_) 400 (l + 1) _ _ (by omega) (by omega) ⟨rfl, by omega, Op_cg (fun k r => ?_) (R _ d1)⟩
    · obtain ⟨rfl, lo, hO⟩ := P
      have bto : bt (nI (del S l)) o = (del S l).testBit o := by rw [bt_nI, decide_eq_true (by omega), Bool.true_and]
      unfold biB
      rw [L6, if_pos (nI_lt ho (by omega))]
      simp only [jn_e]
      rw [bt_get _ (by omega), bto]
      by_cases z : (del S l).testBit o = true
      · have zb := z
        rw [del_t S S64 l l6 o ho, Bool.and_eq_true] at zb
        have on : o < n := bit_lt hS zb.1
        rw [z, if_pos (show b2i true = 1 from rfl), C_some H ln on, bd_s]
        by_cases w : eg f m l o = true
        · have E : ED (eg f m) S l o := ⟨lo, ho, lb, zb.1, w⟩
          have D2 := (del_lt (del S l) D64 o ho).1
          obtain ⟨k', r', ex, Rk, pk, mx⟩ := R (del (del S l) o) (by omega)
          have k4 : k' < 4 := by unfold Rg at Rk; omega
          have et : ((10 * (nI l + 1)) + nI o) + 1 = nI (tw l o) := by
            rw [nI_p1, show (10 : Int32) = nI 10 by decide +kernel, pk_mul, nI_add, nI_p1]
            rfl
          rw [w, if_pos rfl, del_I (del S l) D64 o ho, X4_standing _ (by omega), bd_s, Lt_e, et, ex, X4_pairs h Rk, bd_s, X4_pow h k4, bd_s, pk_mul, nI_add]
          have cand : Op (fun k r => VT (eg f m) S l k r o) (nI (tw l o * 100 ^ k' + r')) := by
            refine ⟨k' + 1, _, rfl, VR_Rg ((stp _ _).mpr (Or.inr ⟨o, E, k', r', pk, rfl, rfl⟩)), ⟨E, k', r', pk, rfl, rfl⟩, fun k2 r2 w2 => ?_⟩
            obtain ⟨-, k3, r3, w3, rfl, rfl⟩ := w2
            rcases mx k3 r3 w3 with u | ⟨rfl, u⟩
            · left; omega
            · exact Or.inr ⟨rfl, Nat.add_le_add_left u _⟩
          obtain ⟨x, e, O⟩ := Op_or h hO cand
          rw [e, bd_s, nI_p1]
          exact ih x _ ⟨rfl, by omega, Op_cg (fun k r => or_lt (T := fun o' => VT (eg f m) S l k r o') o) O⟩
        · rw [if_neg w, nI_p1]
          exact ih a _ ⟨rfl, by omega, Op_cg (fun k r => or_lt0 (T := fun o' => VT (eg f m) S l k r o') (fun y => w y.1.2.2.2.2)) hO⟩
      · rw [b2n z, if_neg (by decide), nI_p1]
        refine ih a _ ⟨rfl, by omega, Op_cg (fun k r => or_lt0 (T := fun o' => VT (eg f m) S l k r o') (fun y => z ?_)) hO⟩
        rw [del_t S S64 l l6 o ho, y.1.2.2.2.1, decide_eq_false (by omega)]
        rfl
    · obtain ⟨rfl, lo, hO⟩ := P
      unfold biB
      rw [L6, if_neg (nI_nlt (Nat.le_refl _) (by omega))]
      refine ⟨a, rfl, Op_cg (fun k r => ?_) hO⟩
      rw [stp k r]
      constructor
      · rintro (y | ⟨o', -, E, y⟩)
        · exact Or.inl y
        · exact Or.inr ⟨o', E, y⟩
      · rintro (y | ⟨o', E, y⟩)
        · exact Or.inl y
        · exact Or.inr ⟨o', E.2.1, E, y⟩
    · constructor
      · exact fun y => Or.inl y
      · rintro (y | ⟨o', h1, E, y⟩)
        · exact y
        · have := E.1
          omega
theorem C_bestRow {h : HS} {f hl : Nat → Int32} {n m : Nat} (H : CR h 3 f hl n m) : ∃ x h', f_X4_bestRow h = some (x, h') ∧ Op (VR (eg f m) (2 ^ n - 1)) x ∧ (∀ b k, b ≠ 35 → h'.1 b k = h.1 b k) ∧ h'.2 = h.2 := by
  have n6 := H.1.2.2.1
  obtain ⟨p1, p2⟩ := all_nI n6
  rw [X4_best_e, C_everybody H, bd_s]
  refine inv3 (Q := fun r => ∃ (x : Int32) (h' : HS), r = some (x, h') ∧ Op (VR (eg f m) (2 ^ n - 1)) x ∧ (∀ b k, b ≠ 35 → h'.1 b k = h.1 b k) ∧ h'.2 = h.2) (fun i (a b : Int32) (g : HS) => b = nI i ∧ (∀ s, s < i → Op (VR (eg f m) s) (g.1 35 s)) ∧ (∀ s, i = s + 1 → a = g.1 35 s) ∧ (∀ b k, b ≠ 35 → g.1 b k = h.1 b k) ∧ g.2 = h.2) (2 ^ n) (fun rec i a b g hi P ih => ?_) (fun rec a b g P => ?_) 400 0 _ _ _ (by omega) (by omega) ⟨nI_0.symm, fun s hs => absurd hs (by omega), fun s e => by omega, fun _ _ _ => rfl, rfl⟩
  · obtain ⟨rfl, h1, h2, h3, h4⟩ := P
    obtain ⟨x, ex, O⟩ := C_bestIn (CR_move H (fun b k hb => h3 b k (by omega))) hi h1
    unfold brB
    rw [if_neg (nI_nlt (by omega) (by omega)), show (64 : Int32) = nI 64 by decide +kernel, if_pos (nI_lt (by omega) (by omega)), ex, bd_s, wr_nI _ _ _ (by omega) (by omega), bd_s, nI_p1]
    refine ih _ _ _ ⟨rfl, fun s hs => ?_, fun s e => ?_, fun b k hb => ?_, h4⟩
    · by_cases z : s = i
      · rw [z, hs_s]; exact O
      · rw [hs_o _ _ (by omega)]; exact h1 s (by omega)
    · have : s = i := by omega
      rw [this, hs_s]
    · rw [hs_o _ _ (by omega)]; exact h3 b k hb
  · obtain ⟨rfl, h1, h2, h3, h4⟩ := P
    unfold brB
    rw [if_pos (nI_lt (by omega) (by omega))]
    exact ⟨a, g, rfl, by rw [h2 (2 ^ n - 1) (by omega)]; exact h1 _ (by omega), h3, h4⟩
theorem C_match {h : HS} {f hl : Nat → Int32} {n m : Nat} (H : CR h 3 f hl n m) (p : Int32) : ∃ k r h', f_X4_match h p = some (if p = 0 then nI k else nI r, h') ∧ VR (eg f m) (2 ^ n - 1) k r ∧ (∀ k' r', VR (eg f m) (2 ^ n - 1) k' r' → k' < k ∨ (k' = k ∧ r ≤ r')) ∧ (∀ b k, b ≠ 35 → h'.1 b k = h.1 b k) ∧ h'.2 = h.2 := by
  obtain ⟨x, h', e, ⟨k, r, rfl, Rk, pk, mx⟩, o1, o2⟩ := C_bestRow H
  refine ⟨k, r, h', ?_, pk, mx, o1, o2⟩
  unfold f_X4_match
  rw [e, bd2_s]
  by_cases q : p = 0
  · rw [if_pos q, if_pos q, X4_pairs h' Rk, bd_s]
  · rw [if_neg q, if_neg q]
