/-! most pairs: program and model alike -/
theorem mk_dis {i o a b : Nat} (hi : i < 32) (ho : o < 32) (ha : a < 32) (hb : b < 32) : (mk2 i o &&& mk2 a b) = 0 ↔ (i ≠ a ∧ i ≠ b ∧ o ≠ a ∧ o ≠ b) := by
  constructor
  · intro e
    have key : ∀ p, (p = i ∨ p = o) → (p = a ∨ p = b) → False := fun p h1 h2 => by
      have w := congrArg (fun y => bt y p) e
      rw [bt_and, bt_mk2 hi ho, bt_mk2 ha hb, bt_0] at w
      have w1 : (decide (p = i) || decide (p = o)) = true := by
        rcases h1 with h1 | h1
        · rw [decide_eq_true h1, Bool.true_or]
        · rw [decide_eq_true h1, Bool.or_true]
      have w2 : (decide (p = a) || decide (p = b)) = true := by
        rcases h2 with h2 | h2
        · rw [decide_eq_true h2, Bool.true_or]
        · rw [decide_eq_true h2, Bool.or_true]
      rw [w1, w2] at w
      cases w
    exact ⟨fun z => key i (Or.inl rfl) (Or.inl z), fun z => key i (Or.inl rfl) (Or.inr z), fun z => key o (Or.inr rfl) (Or.inl z), fun z => key o (Or.inr rfl) (Or.inr z)⟩
  · rintro ⟨q1, q2, q3, q4⟩
    apply bt_ext
    intro p hp
    rw [bt_and, bt_mk2 hi ho, bt_mk2 ha hb, bt_0]
    by_cases z : p = i ∨ p = o
    · rw [decide_eq_false (show ¬ p = a by omega), decide_eq_false (show ¬ p = b by omega), Bool.or_false, Bool.and_false]
    · rw [decide_eq_false (show ¬ p = i by omega), decide_eq_false (show ¬ p = o by omega), Bool.or_false, Bool.false_and]
theorem or_dis (x y z : Int32) : ((x ||| y) &&& z) = 0 ↔ ((x &&& z) = 0 ∧ (y &&& z) = 0) := by
  constructor
  · intro e
    have key : ∀ p, ((bt x p || bt y p) && bt z p) = false := fun p => by
      have w := congrArg (fun y => bt y p) e
      rw [bt_and, bt_or, bt_0] at w
      exact w
    refine ⟨bt_ext fun p _ => ?_, bt_ext fun p _ => ?_⟩
    · have := key p
      rw [bt_and, bt_0]
      cases h1 : bt x p
      · rfl
      · rw [h1, Bool.true_or] at this
        exact this
    · have := key p
      rw [bt_and, bt_0]
      cases h1 : bt y p
      · rfl
      · rw [h1, Bool.or_true] at this
        exact this
  · rintro ⟨e1, e2⟩
    refine bt_ext fun p _ => ?_
    have w1 := congrArg (fun y => bt y p) e1
    have w2 := congrArg (fun y => bt y p) e2
    rw [bt_and, bt_0] at w1 w2
    rw [bt_and, bt_or, bt_0]
    cases h1 : bt z p
    · rw [Bool.and_false]
    · rw [h1, Bool.and_true] at w1 w2
      rw [w1, w2]
      rfl
theorem ED_all {e : Nat → Nat → Bool} {n i o : Nat} (n6 : n ≤ 6) : ED e (2 ^ n - 1) i o ↔ (i < o ∧ o < n ∧ e i o = true) := by
  unfold ED
  rw [Nat.testBit_two_pow_sub_one, Nat.testBit_two_pow_sub_one]
  simp only [decide_eq_true_eq]
  constructor
  · rintro ⟨h1, h2, h3, h4, h5⟩
    exact ⟨h1, h4, h5⟩
  · rintro ⟨h1, h2, h3⟩
    exact ⟨h1, by omega, by omega, h2, h3⟩
/-- the edges in a row: what is used of them -/
def EE (h : HS) (e : Nat → Nat → Bool) (n N : Nat) (px py : Nat → Nat) : Prop :=
  (∀ j, j < N → h.1 44 j = mk2 (px j) (py j) ∧ px j < py j ∧ py j < n ∧ e (px j) (py j) = true) ∧
  (∀ j j', j < j' → j' < N → px j < px j' ∨ (px j = px j' ∧ py j < py j')) ∧
  (∀ x y, x < y → y < n → e x y = true → ∃ j, j < N ∧ px j = x ∧ py j = y)
section EDG
variable {h : HS} {e : Nat → Nat → Bool} {n N : Nat} {px py : Nat → Nat}
def WW (px py : Nat → Nat) (j : Nat) : Nat := tw (px j) (py j)
theorem EE_ed (E : EE h e n N px py) (n6 : n ≤ 6) {j : Nat} (hj : j < N) : ED e (2 ^ n - 1) (px j) (py j) := by
  obtain ⟨a1, a2, a3, a4⟩ := E.1 j hj
  exact (ED_all n6).mpr ⟨a2, a3, a4⟩
theorem EE_W (E : EE h e n N px py) (n6 : n ≤ 6) {j j' : Nat} (hj : j' < N) (q : j ≤ j') : WW px py j ≤ WW px py j' ∧ (j < j' → WW px py j + 1 ≤ WW px py j') ∧ WW px py j < 100 := by
  obtain ⟨a1, a2, a3, a4⟩ := E.1 j (by omega)
  obtain ⟨b1, b2, b3, b4⟩ := E.1 j' hj
  unfold WW tw
  by_cases z : j = j'
  · subst z; omega
  · have := E.2.1 j j' (by omega) hj
    omega
theorem EE_dis (E : EE h e n N px py) (n6 : n ≤ 6) {j j' : Nat} (hj : j < N) (hj' : j' < N) : (h.1 44 j &&& h.1 44 j') = 0 ↔ (px j ≠ px j' ∧ px j ≠ py j' ∧ py j ≠ px j' ∧ py j ≠ py j') := by
  obtain ⟨a1, a2, a3, a4⟩ := E.1 j hj
  obtain ⟨b1, b2, b3, b4⟩ := E.1 j' hj'
  rw [a1, b1, mk_dis (by omega) (by omega) (by omega) (by omega)]
theorem EE_pos (E : EE h e n N px py) {j j' : Nat} (hj : j < N) (q : px j < px j') : j < j' := by
  rcases Nat.lt_or_ge j j' with z | z
  · exact z
  · by_cases w : j' = j
    · subst w; omega
    · have := E.2.1 j' j (by omega) hj
      omega
theorem VR_ok (E : EE h e n N px py) (n6 : n ≤ 6) {k r : Nat} (k0 : 0 < k) (V : VR e (2 ^ n - 1) k r) : ∃ a b c, okT h k N a b c ∧ r = vl (WW px py) k a b c := by
  have fnd : ∀ {i o}, ED e (2 ^ n - 1) i o → ∃ j, j < N ∧ px j = i ∧ py j = o := fun h => by
    obtain ⟨h1, h2, h3⟩ := (ED_all n6).mp h
    exact E.2.2 _ _ h1 h2 h3
  rcases V with ⟨rfl, -⟩ | ⟨rfl, i, o, h1, rfl⟩ | ⟨rfl, i, o, i', o', h1, h2, q1, q2, q3, rfl⟩ | ⟨rfl, i, o, i', o', i'', o'', h1, h2, h3, q1, q2, q3, rfl⟩
  · omega
  · obtain ⟨a, ha, rfl, rfl⟩ := fnd h1
    exact ⟨a, a, a, ⟨⟨ha, Nat.le_refl _, Nat.lt_succ_self _, Nat.le_refl _, Nat.lt_succ_self _⟩, Or.inl (by omega), Or.inl (by omega)⟩, rfl⟩
  · obtain ⟨a, ha, rfl, rfl⟩ := fnd h1
    obtain ⟨b, hb, rfl, rfl⟩ := fnd h2
    have x1 := h1.1
    have x2 := h2.1
    exact ⟨a, b, b, ⟨⟨ha, EE_pos E ha q1, hb, Nat.le_refl _, Nat.lt_succ_self _⟩, Or.inr ((EE_dis E n6 ha hb).mpr (by omega)), Or.inl (by omega)⟩, rfl⟩
  · obtain ⟨a, ha, rfl, rfl⟩ := fnd h1
    obtain ⟨b, hb, rfl, rfl⟩ := fnd h2
    obtain ⟨c, hc, rfl, rfl⟩ := fnd h3
    have x1 := h1.1
    have x2 := h2.1
    have x3 := h3.1
    exact ⟨a, b, c, ⟨⟨ha, EE_pos E ha q1.1, hb, EE_pos E hb q1.2, hc⟩, Or.inr ((EE_dis E n6 ha hb).mpr (by omega)), Or.inr ((or_dis _ _ _).mpr ⟨(EE_dis E n6 ha hc).mpr (by omega), (EE_dis E n6 hb hc).mpr (by omega)⟩)⟩, rfl⟩
theorem ok_VR (E : EE h e n N px py) (n6 : n ≤ 6) {k a b c : Nat} (k0 : 0 < k) (k4 : k < 4) (O : okT h k N a b c) : VR e (2 ^ n - 1) k (vl (WW px py) k a b c) := by
  obtain ⟨⟨ha, b0, b1, c0, c1⟩, d2, d3⟩ := O
  rcases (by omega : k = 1 ∨ k = 2 ∨ k = 3) with rfl | rfl | rfl
  · exact Or.inr (Or.inl ⟨rfl, px a, py a, EE_ed E n6 ha, rfl⟩)
  · have hb : b < N := b1
    have ab : a < b := b0
    have w := (EE_dis E n6 ha hb).mp (d2.resolve_left (by omega))
    have o := E.2.1 a b ab hb
    exact Or.inr (Or.inr (Or.inl ⟨rfl, px a, py a, px b, py b, EE_ed E n6 ha, EE_ed E n6 hb, by omega, by omega, by omega, rfl⟩))
  · have hb : b < N := b1
    have ab : a < b := b0
    have hc : c < N := c1
    have bc : b < c := c0
    have w := (EE_dis E n6 ha hb).mp (d2.resolve_left (by omega))
    have w3 := (or_dis _ _ _).mp (d3.resolve_left (by omega))
    have w4 := (EE_dis E n6 ha hc).mp w3.1
    have w5 := (EE_dis E n6 hb hc).mp w3.2
    have o := E.2.1 a b ab hb
    have o2 := E.2.1 b c bc hc
    exact Or.inr (Or.inr (Or.inr ⟨rfl, px a, py a, px b, py b, px c, py c, EE_ed E n6 ha, EE_ed E n6 hb, EE_ed E n6 hc, by omega, by omega, by omega, rfl⟩))
theorem ok_le (E : EE h e n N px py) (n6 : n ≤ 6) {k a b c a' b' c' : Nat} (k0 : 0 < k) (k4 : k < 4) (O : okT h k N a b c) (O' : okT h k N a' b' c') (L : Lx a b c a' b' c') : vl (WW px py) k a b c ≤ vl (WW px py) k a' b' c' := by
  obtain ⟨⟨ha, b0, b1, c0, c1⟩, -⟩ := O
  obtain ⟨⟨ha', b0', b1', c0', c1'⟩, -⟩ := O'
  unfold Lx at L
  rcases (by omega : k = 1 ∨ k = 2 ∨ k = 3) with rfl | rfl | rfl
  · exact (EE_W E n6 ha' (by omega)).1
  · have hb : b < N := b1
    have hb' : b' < N := b1'
    have wa := EE_W E n6 ha' (show a ≤ a' by omega)
    have wb := EE_W E n6 hb (Nat.le_refl b)
    show 100 * WW px py a + WW px py b ≤ 100 * WW px py a' + WW px py b'
    by_cases q : a < a'
    · have := wa.2.1 q
      omega
    · have := EE_W E n6 hb' (show b ≤ b' by omega)
      omega
  · have hb : b < N := b1
    have hb' : b' < N := b1'
    have hc : c < N := c1
    have hc' : c' < N := c1'
    have wa := EE_W E n6 ha' (show a ≤ a' by omega)
    have wb := EE_W E n6 hb (Nat.le_refl b)
    have wc := EE_W E n6 hc (Nat.le_refl c)
    show 10000 * WW px py a + 100 * WW px py b + WW px py c ≤ 10000 * WW px py a' + 100 * WW px py b' + WW px py c'
    by_cases q : a < a'
    · have := wa.2.1 q
      omega
    · have wb2 := EE_W E n6 hb' (show b ≤ b' by omega)
      by_cases q2 : b < b'
      · have := wb2.2.1 q2
        omega
      · have := EE_W E n6 hc' (show c ≤ c' by omega)
        omega
theorem M_row (E : EE h e n N px py) (hn : h.1 36 0 = nI n) (n6 : n ≤ 6) (n15 : N ≤ 15) {k : Nat} (k0 : 0 < k) (k4 : k < 4) : ∃ z, f_X5_rowOf h (nI k) (nI N) = some z ∧ ((z = -9 ∧ ∀ r, ¬ VR e (2 ^ n - 1) k r) ∨ ∃ r, z = nI r ∧ VR e (2 ^ n - 1) k r ∧ ∀ r', VR e (2 ^ n - 1) k r' → r ≤ r') := by
  have T : ∀ j, j < N → f_X5_toldOf h (h.1 44 j) = some (nI (WW px py j)) := fun j hj => by
    obtain ⟨a1, a2, a3, a4⟩ := E.1 j hj
    rw [a1]
    exact M_told hn n6 a2 a3
  obtain ⟨z, ez, X⟩ := M_rowOf n15 k4 k0 T
  refine ⟨z, ez, ?_⟩
  rcases X with ⟨z9, no⟩ | ⟨a, b, c, O, ev, mn⟩
  · refine Or.inl ⟨z9, fun r V => ?_⟩
    obtain ⟨a, b, c, O, -⟩ := VR_ok E n6 k0 V
    exact no a b c O
  · refine Or.inr ⟨_, ev, ok_VR E n6 k0 k4 O, fun r' V => ?_⟩
    obtain ⟨a', b', c', O', rfl⟩ := VR_ok E n6 k0 V
    exact ok_le E n6 k0 k4 O O' (mn a' b' c' O')
end EDG
def mtB (h2 : HS) (p1 r1 : Int32) (rec4 : Int32 → Option (Int32 × HS)) (i3 : Int32) : Option (Int32 × HS) := if (0 : Int32) < i3 then (bd (f_X5_rowOf h2 i3 r1) fun r6 => if r6 = (-9) then (rec4 (i3 + (-1))) else (if p1 = 0 then (some (i3, h2)) else (some (r6, h2)))) else (some (0, h2))
theorem X5_match_e (h : HS) (p1 : Int32) : f_X5_match h p1 = bd2 (f_X5_layEdges h) fun r1 h2 => loop1 (mtB h2 p1 r1) 400 3 := rfl
theorem nI_dn : ∀ k, k < 4 → 0 < k → nI k + (-1) = nI (k - 1) := by decide +kernel
theorem M_match {h : HS} {n m : Nat} (hn : h.1 36 0 = nI n) (n6 : n ≤ 6) (hm : h.1 36 1 = nI m) (m4 : m ≤ 4) (p : Int32) : ∃ k r h', f_X5_match h p = some (if p = 0 then nI k else nI r, h') ∧ VR (eg (lvf h 0) m) (2 ^ n - 1) k r ∧ (∀ k' r', VR (eg (lvf h 0) m) (2 ^ n - 1) k' r' → k' < k ∨ (k' = k ∧ r ≤ r')) ∧ (∀ b k, b ≠ 44 → h'.1 b k = h.1 b k) ∧ h'.2 = h.2 := by
  obtain ⟨N, g, eg1, n15, o1, o2, px, py, A, B, C⟩ := M_layE hn n6 hm m4
  have E : EE g (eg (lvf h 0) m) n N px py := ⟨fun j hj => ⟨(A j hj).1, (A j hj).2.1, (A j hj).2.2.1, (A j hj).2.2.2.1⟩, B, fun x y q1 q2 q3 => C x y q1 q2 q3 (by omega)⟩
  have gn : g.1 36 0 = nI n := by rw [o1 _ _ (by decide)]; exact hn
  generalize eg (lvf h 0) m = e at E
  rw [X5_match_e, eg1, bd2_s]
  refine inv1 (Q := fun res => ∃ (k r : Nat) (h' : HS), res = some (if p = 0 then nI k else nI r, h') ∧ VR e (2 ^ n - 1) k r ∧ (∀ k' r', VR e (2 ^ n - 1) k' r' → k' < k ∨ (k' = k ∧ r ≤ r')) ∧ (∀ b k, b ≠ 44 → h'.1 b k = h.1 b k) ∧ h'.2 = h.2) (fun i x => x = nI (3 - i) ∧ ∀ k' r', VR e (2 ^ n - 1) k' r' → k' ≤ 3 - i) 3 (fun rec i x hi P ih => ?_) (fun rec x P => ?_) 400 0 _ (by omega) (by omega) ⟨L3, fun k' r' V => ?_⟩
  · obtain ⟨rfl, hk⟩ := P
    obtain ⟨z, ez, X⟩ := M_row E gn n6 n15 (k := 3 - i) (by omega) (by omega)
    unfold mtB
    rw [i32_0, if_pos (nI_lt (show 0 < 3 - i by omega) (by omega)), ez, bd_s]
    rcases X with ⟨z9, no⟩ | ⟨r, rfl, V, mn⟩
    · rw [if_pos z9]
      refine ih _ ⟨?_, fun k' r' V => ?_⟩
      · rw [nI_dn _ (by omega) (by omega), show 3 - i - 1 = 3 - (i + 1) by omega]
      · have := hk k' r' V
        by_cases q : k' = 3 - i
        · rw [q] at V
          exact absurd V (no r')
        · omega
    · have r31 : r < 2 ^ 31 := by
        have := VR_Rg V
        unfold Rg at this
        omega
      rw [if_neg (nI_m9 r31)]
      refine ⟨3 - i, r, g, ?_, V, fun k' r' V' => ?_, o1, o2⟩
      · rw [← i32_0]
        by_cases q : p = 0
        · rw [if_pos q, if_pos q]
        · rw [if_neg q, if_neg q]
      · have := hk k' r' V'
        by_cases q : k' = 3 - i
        · rw [q] at V'
          exact Or.inr ⟨q, mn r' V'⟩
        · left; omega
  · obtain ⟨rfl, hk⟩ := P
    unfold mtB
    rw [i32_0, if_neg (nI_nlt (Nat.le_refl _) (by omega))]
    refine ⟨0, 0, g, ?_, Or.inl ⟨rfl, rfl⟩, fun k' r' V' => ?_, o1, o2⟩
    · split <;> rfl
    · have := hk k' r' V'
      omega
  · have := VR_Rg V
    unfold Rg at this
    omega
theorem st_match {h : HS} (I : IV h) (p : Int32) (hp : p = 0 ∨ p = 1) : St (fun h => f_X4_match h p) (fun h => f_X5_match h p) h := by
  obtain ⟨n, m, I'⟩ := id I
  obtain ⟨H, hF, hn, hm⟩ := I'.1
  have n6 := H.1.2.2.1
  have m4 := H.1.2.2.2
  obtain ⟨k1, r1, h1, e1, v1, x1, o1, s1⟩ := C_match H p
  have S1 : Sq h h1 := ⟨fun b k z => o1 b k (fun y => z (by unfold SCR; omega)), s1⟩
  obtain ⟨k2, r2, h2, e2, v2, x2, o2, s2⟩ := M_match (h := h1) (by rw [o1 _ _ (by decide)]; exact hn) n6 (by rw [o1 _ _ (by decide)]; exact hm) m4 p
  have S2 : Sq h1 h2 := ⟨fun b k z => o2 b k (fun y => z (by unfold SCR; omega)), s2⟩
  have ev : lvf h1 0 = lvf h 0 := by
    funext k
    show h1.1 38 _ = h.1 38 _
    rw [o1 _ _ (by decide)]
  rw [ev] at v2 x2
  have a1 := x1 k2 r2 v2
  have a2 := x2 k1 r1 v1
  have ek : k2 = k1 := by omega
  have er : r2 = r1 := by omega
  rw [ek, er] at e2
  exact ⟨_, h1, h2, e1, e2, n, m, (I'.mv S1).mv S2⟩
