/-! most pairs, the model: its edges, in their order -/
def leI (rec4 : Int32 → Int32 → HS → Option (Int32 × HS)) (i2 : Int32) (rec10 : Int32 → Int32 → HS → Option (Int32 × HS)) (i7 i8 : Int32) (h9 : HS) : Option (Int32 × HS) := if i8 < (h9.1 36 0) then (bd (f_X5_canBe h9 0 ((1 <<< (i2 &&& 31)) ||| (1 <<< (i8 &&& 31)))) fun r12 => jn (fun (w13 : Int32) (h14 : HS) => rec10 w13 (i8 + 1) h14) (fun j15 => if r12 = 0 then (j15 i7 h9) else (bd (wr h9 44 15 i7 ((1 <<< (i2 &&& 31)) ||| (1 <<< (i8 &&& 31)))) fun h17 => j15 (i7 + 1) h17))) else (rec4 i7 (i2 + 1) h9)
def leO (rec4 : Int32 → Int32 → HS → Option (Int32 × HS)) (i1 i2 : Int32) (h3 : HS) : Option (Int32 × HS) := if i2 < (h3.1 36 0) then (Lt (i2 + 1) fun v6 => loop3 (leI rec4 i2) 400 i1 v6 h3) else (some (i1, h3))
theorem X5_edges_e (h : HS) : f_X5_layEdges h = loop3 leO 400 0 0 h := rfl
/-- the edges that come ahead of (i, o) are laid: N of them -/
def LE (h0 : HS) (e : Nat → Nat → Bool) (n i o N : Nat) (h : HS) : Prop := (∀ b k, b ≠ 44 → h.1 b k = h0.1 b k) ∧ h.2 = h0.2 ∧ ∃ px py : Nat → Nat,
  (∀ j, j < N → h.1 44 j = mk2 (px j) (py j) ∧ px j < py j ∧ py j < n ∧ e (px j) (py j) = true ∧ (px j < i ∨ (px j = i ∧ py j < o))) ∧
  (∀ j j', j < j' → j' < N → px j < px j' ∨ (px j = px j' ∧ py j < py j')) ∧
  (∀ x y, x < y → y < n → e x y = true → (x < i ∨ (x = i ∧ y < o)) → ∃ j, j < N ∧ px j = x ∧ py j = y)
theorem LE_skip {h0 h : HS} {e : Nat → Nat → Bool} {n i o N : Nat} (H : LE h0 e n i o N h) (he : ¬ e i o = true) : LE h0 e n i (o + 1) N h := by
  obtain ⟨h1, h2, px, py, h3, h4, h5⟩ := H
  refine ⟨h1, h2, px, py, fun j hj => ?_, h4, fun x y q1 q2 q3 q4 => ?_⟩
  · obtain ⟨a1, a2, a3, a4, a5⟩ := h3 j hj
    exact ⟨a1, a2, a3, a4, by omega⟩
  · by_cases z : x = i ∧ y = o
    · obtain ⟨rfl, rfl⟩ := z
      exact absurd q3 he
    · exact h5 x y q1 q2 q3 (by omega)
def pu (p : Nat → Nat) (N v : Nat) : Nat → Nat := fun j => if j = N then v else p j
theorem pu_s (p : Nat → Nat) (N v : Nat) : pu p N v N = v := if_pos rfl
theorem pu_n (p : Nat → Nat) (v : Nat) {N j : Nat} (h : j ≠ N) : pu p N v j = p j := if_neg h
theorem LE_add {h0 h : HS} {e : Nat → Nat → Bool} {n i o N : Nat} (H : LE h0 e n i o N h) (hio : i < o) (ho : o < n) (he : e i o = true) : LE h0 e n i (o + 1) (N + 1) (hset h 44 N (mk2 i o)) := by
  obtain ⟨h1, h2, px, py, h3, h4, h5⟩ := H
  refine ⟨fun b k z => by rw [hs_o _ _ (by omega)]; exact h1 b k z, h2, pu px N i, pu py N o, fun j hj => ?_, fun j j' q1 q2 => ?_, fun x y q1 q2 q3 q4 => ?_⟩
  · by_cases z : j = N
    · rw [z, pu_s, pu_s, hs_s]
      exact ⟨rfl, hio, ho, he, by omega⟩
    · obtain ⟨a1, a2, a3, a4, a5⟩ := h3 j (by omega)
      rw [pu_n _ _ z, pu_n _ _ z, hs_o _ _ (by omega)]
      exact ⟨a1, a2, a3, a4, by omega⟩
  · have z : j ≠ N := by omega
    rw [pu_n _ _ z, pu_n _ _ z]
    by_cases z2 : j' = N
    · rw [z2, pu_s, pu_s]
      obtain ⟨a1, a2, a3, a4, a5⟩ := h3 j (by omega)
      exact a5
    · rw [pu_n _ _ z2, pu_n _ _ z2]
      exact h4 j j' q1 (by omega)
  · by_cases z : x = i ∧ y = o
    · refine ⟨N, by omega, ?_⟩
      rw [pu_s, pu_s]
      exact ⟨z.1.symm, z.2.symm⟩
    · obtain ⟨j, w1, w2, w3⟩ := h5 x y q1 q2 q3 (by omega)
      refine ⟨j, by omega, ?_⟩
      rw [pu_n _ _ (by omega), pu_n _ _ (by omega)]
      exact ⟨w2, w3⟩
theorem LE_next {h0 h : HS} {e : Nat → Nat → Bool} {n i N : Nat} (H : LE h0 e n i n N h) : LE h0 e n (i + 1) (i + 1 + 1) N h := by
  obtain ⟨h1, h2, px, py, h3, h4, h5⟩ := H
  refine ⟨h1, h2, px, py, fun j hj => ?_, h4, fun x y q1 q2 q3 q4 => h5 x y q1 q2 q3 (by omega)⟩
  obtain ⟨a1, a2, a3, a4, a5⟩ := h3 j hj
  exact ⟨a1, a2, a3, a4, by omega⟩
def cI : Nat → Nat
  | 0 => 0
  | i + 1 => cI i + (5 - i)
theorem cI_lt : ∀ i, i < 6 → ∀ o, o < 6 → i < o → cI i + (o - i - 1) < 15 := by decide
theorem cI_le : ∀ i, i < 7 → cI i ≤ 15 := by decide
theorem M_layE {h : HS} {n m : Nat} (hn : h.1 36 0 = nI n) (n6 : n ≤ 6) (hm : h.1 36 1 = nI m) (m4 : m ≤ 4) : ∃ N h', f_X5_layEdges h = some (nI N, h') ∧ N ≤ 15 ∧ LE h (eg (lvf h 0) m) n n (n + 1) N h' := by
  rw [X5_edges_e]
  refine inv3 (Q := fun r => ∃ (N : Nat) (h' : HS), r = some (nI N, h') ∧ N ≤ 15 ∧ LE h (eg (lvf h 0) m) n n (n + 1) N h') (fun i (a b : Int32) (g : HS) => ∃ N, a = nI N ∧ b = nI i ∧ N ≤ cI i ∧ LE h (eg (lvf h 0) m) n i (i + 1) N g) n (fun rec i a b g hi P ih => ?_) (fun rec a b g P => ?_) 400 0 _ _ _ (by omega) (by omega) ⟨0, nI_0.symm, nI_0.symm, Nat.le_refl _, fun _ _ _ => rfl, rfl, fun _ => 0, fun _ => 0, fun j hj => absurd hj (by omega), fun j j' q1 q2 => absurd q2 (by omega), fun x y q1 q2 q3 q4 => by omega⟩
  · obtain ⟨N, rfl, rfl, hN, L⟩ := P
    unfold leO
    rw [L.1 _ _ (by decide), hn, if_pos (nI_lt hi (by omega)), Lt_e, nI_p1]
    refine inv3 (Q := fun r => ∃ (N : Nat) (h' : HS), r = some (nI N, h') ∧ N ≤ 15 ∧ LE h (eg (lvf h 0) m) n n (n + 1) N h') (fun o (a b : Int32) (g : HS) => ∃ N, a = nI N ∧ b = nI o ∧ i < o ∧ N ≤ cI i + (o - i - 1) ∧ LE h (eg (lvf h 0) m) n i o N g) n (fun rec o a b g ho P ih2 => ?_) (fun rec a b g P => ?_) 400 (i + 1) _ _ _ (by omega) (by omega) ⟨N, rfl, rfl, by omega, by omega, L⟩
    · obtain ⟨N, rfl, rfl, io, hN, L⟩ := P
      have ct := cI_lt i (by omega) o (by omega) io
      have ev : lvf g 0 = lvf h 0 := by
        funext k
        show g.1 38 _ = h.1 38 _
        rw [L.1 _ _ (by decide)]
      have gn : g.1 36 0 = nI n := by rw [L.1 _ _ (by decide)]; exact hn
      have gm : g.1 36 1 = nI m := by rw [L.1 _ _ (by decide)]; exact hm
      have ec : f_X5_canBe g 0 ((1 <<< (nI i &&& 31)) ||| (1 <<< (nI o &&& 31))) = some (KN (lvf h 0) n m (mk2 i o)) := by
        have := M_canBe gn n6 gm m4 (lv := 0) (by omega) (mk2 i o)
        rw [nI_0, ev] at this
        exact this
      have ke := KN_eg (lvf h 0) n6 m4 hi ho (show i ≠ o by omega)
      unfold leI
      rw [gn, if_pos (nI_lt ho (by omega)), ec, bd_s]
      simp only [jn_e]
      by_cases q : KN (lvf h 0) n m (mk2 i o) = 0
      · rw [if_pos q, nI_p1]
        exact ih2 _ _ _ ⟨N, rfl, rfl, by omega, by omega, LE_skip L (fun z => (ke.mpr z) q)⟩
      · rw [if_neg q, wr_nI _ _ _ (by omega) (by omega), bd_s, nI_p1, nI_p1]
        exact ih2 _ _ _ ⟨N + 1, rfl, rfl, by omega, by omega, LE_add L io ho (ke.mp q)⟩
    · obtain ⟨N, rfl, rfl, io, hN, L⟩ := P
      unfold leI
      rw [L.1 _ _ (by decide), hn, if_neg (nI_nlt (Nat.le_refl _) (by omega)), nI_p1]
      refine ih _ _ _ ⟨N, rfl, rfl, ?_, LE_next L⟩
      show N ≤ cI i + (5 - i)
      omega
  · obtain ⟨N, rfl, rfl, hN, L⟩ := P
    have := cI_le n (by omega)
    unfold leO
    rw [L.1 _ _ (by decide), hn, if_neg (nI_nlt (Nat.le_refl _) (by omega))]
    exact ⟨N, g, rfl, by omega, L⟩
theorem bt_mk2 {i o p : Nat} (hi : i < 32) (ho : o < 32) : bt (mk2 i o) p = (decide (p = i) || decide (p = o)) := by
  unfold mk2
  rw [bt_or, bt_one hi, bt_one ho]
def tdA (i o p : Nat) : Nat := if p ≤ i then 0 else if p ≤ o then i + 1 else tw i o
theorem M_told {h : HS} {n i o : Nat} (hn : h.1 36 0 = nI n) (n6 : n ≤ 6) (hio : i < o) (ho : o < n) : f_X5_toldOf h (mk2 i o) = some (nI (tw i o)) := by
  unfold f_X5_toldOf
  refine fin2 (fun p => nI (tdA i o p)) (fun p => nI p) n (fun rec p hp => ?_) (fun rec => ?_) 400 0 (by omega) (by omega)
  · simp only [hn]
    rw [if_pos (nI_lt hp (by omega)), M_has _ _ (by omega), bd_s, bt_mk2 (by omega) (by omega)]
    simp only [jn_e]
    rw [nI_p1, show (10 : Int32) = nI 10 by decide +kernel, pk_mul, nI_add, nI_p1]
    by_cases q : p = i
    · have e1 : 10 * tdA i o p + p + 1 = tdA i o (p + 1) := by
        unfold tdA
        rw [if_pos (by omega), if_neg (by omega), if_pos (by omega)]
        omega
      rw [decide_eq_true q, Bool.true_or, if_pos rfl, e1]
    · by_cases q2 : p = o
      · have e1 : 10 * tdA i o p + p + 1 = tdA i o (p + 1) := by
          unfold tdA tw
          rw [if_neg (by omega), if_pos (by omega), if_neg (by omega), if_neg (by omega)]
          omega
        rw [decide_eq_true q2, Bool.or_true, if_pos rfl, e1]
      · have e1 : tdA i o p = tdA i o (p + 1) := by
          unfold tdA
          by_cases w1 : p ≤ i
          · rw [if_pos w1, if_pos (show p + 1 ≤ i by omega)]
          · rw [if_neg w1, if_neg (show ¬ p + 1 ≤ i by omega)]
            by_cases w2 : p ≤ o
            · rw [if_pos w2, if_pos (show p + 1 ≤ o by omega)]
            · rw [if_neg w2, if_neg (show ¬ p + 1 ≤ o by omega)]
        rw [decide_eq_false q, decide_eq_false q2, Bool.or_false, if_neg (by decide), e1]
  · simp only [hn]
    rw [if_neg (nI_nlt (Nat.le_refl _) (by omega))]
    have e1 : tdA i o n = tw i o := by
      unfold tdA
      rw [if_neg (by omega), if_neg (by omega)]
    rw [e1]
