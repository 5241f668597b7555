/-! judge and years -/
set_option maxRecDepth 20000
theorem L1000 : (1000 : Int32) = nI 1000 := by decide +kernel
theorem X4_without (h : HS) {x k : Nat} (hx : x < 2 ^ 31) (hk : k < 100) : f_X4_withoutDoings h (nI x) (nI k) = some (nI (x / 1000 ^ k)) := by
  have lt : ∀ i, x / 1000 ^ i < 2 ^ 31 := fun i => Nat.lt_of_le_of_lt (Nat.div_le_self _ _) hx
  have e := fin2 (body := fun rec3 (i1 : Int32) (i2 : Int32) => if i2 < nI k then (bd (dv i1 1000) fun r5 => rec3 r5 (i2 + 1)) else (some i1)) (res := some (nI (x / 1000 ^ k))) (fun i => nI (x / 1000 ^ i)) (fun i => nI i) k (fun rec i hi => by
      rw [if_pos (nI_lt hi (by omega)), L1000, dvN (lt i) (by omega) (by omega), bd_s, nI_p1, Nat.div_div_eq_div_mul, ← Nat.pow_succ]) (fun rec => by
      rw [if_neg (nI_nlt (by omega) (by omega))]) 400 0 (by omega) (by omega)
  have e1 : x / 1000 ^ 0 = x := by rw [Nat.pow_zero, Nat.div_one]
  simp only [e1] at e
  unfold f_X4_withoutDoings
  exact e
theorem M_power (h : HS) {k : Nat} (hk : k < 100) : f_X5_power h 1000 (nI k) = some (nI (1000 ^ k)) := by
  have e := fin2 (body := fun rec3 (i1 : Int32) (i2 : Int32) => if i2 < nI k then (Lt (i1 * 1000) fun v5 => rec3 v5 (i2 + 1)) else (some i1)) (res := some (nI (1000 ^ k))) (fun i => nI (1000 ^ i)) (fun i => nI i) k (fun rec i hi => by
      rw [if_pos (nI_lt hi (by omega)), L1000, Lt_e, pk_mul, nI_p1, ← Nat.pow_succ]) (fun rec => by
      rw [if_neg (nI_nlt (by omega) (by omega))]) 400 0 (by omega) (by omega)
  have e1 : nI (1000 ^ 0) = 1 := by decide +kernel
  simp only [e1] at e
  unfold f_X5_power
  exact e
theorem M_lay (h : HS) : f_X5_layTrial h = some (cpH h 38 23 (h.1 38) 23) := by
  have e := fin2 (body := fun rec3 (i1 : Int32) (h2 : HS) => if i1 < 23 then (bd (rd h2 38 46 i1) fun r5 => bd (wr h2 38 46 (23 + i1) r5) fun h6 => rec3 (i1 + 1) h6) else (some h2)) (res := some (cpH h 38 23 (h.1 38) 23)) (fun i => nI i) (fun i => cpH h 38 23 (h.1 38) i) 23 (fun rec i hi => by
      rw [L23, if_pos (nI_lt hi (by omega)), rd38 _ (by omega), bd_s, nI_add, wr38 _ _ (by omega), bd_s, cp_o _ _ (by omega), nI_p1, cp_s]) (fun rec => by
      rw [L23, if_neg (nI_nlt (by omega) (by omega))]) 400 0 (by omega) (by omega)
  rw [cp_0] at e
  unfold f_X5_layTrial
  exact e
theorem lay_OM (h : HS) : OM h (cpH h 38 23 (h.1 38) 23) := ⟨fun b k z => by rw [cp_o _ _ (by omega)], rfl⟩
theorem lay_TM {h : HS} {n m : Nat} (B : Base h n m) : TM (cpH h 38 23 (h.1 38) 23) (lvf h 0) (h.1 37) n m := by
  refine ⟨fun k hk => ?_, funext fun k => cp_o _ _ (by omega), ?_, ?_, B.1.1.2.2.1, B.1.1.2.2.2⟩
  · rw [lvk, lv0]
    exact cp_i h (b := 38) (t := 23) (h.1 38) hk
  · rw [cp_o _ _ (by omega)]; exact B.2.2.1
  · rw [cp_o _ _ (by omega)]; exact B.2.2.2
def jv (x N i : Nat) : Nat := x / 1000 ^ (N - 1 - i) % 1000
def jr (n m : Nat) (hl : Nat → Int32) (x N : Nat) : Nat → Nat → (Nat → Int32) → Int32
  | 0, _, _ => -9
  | d + 1, i, f => if (dn n m f hl (jv x N i / 100) (jv x N i / 10 % 10) (jv x N i % 10)).1 = true then jr n m hl x N d (i + 1) (dn n m f hl (jv x N i / 100) (jv x N i / 10 % 10) (jv x N i % 10)).2 else nI i
theorem C_jr {n m : Nat} {hl : Nat → Int32} {x N : Nat} (hx : x < 2 ^ 31) (hN : N ≤ 3) : ∀ d i f h fuel, i + d = N → d < fuel → TC h f hl n m → ∃ h', loop2 (fun rec6 (i4 : Int32) (h5 : HS) => if i4 < nI N then (bd (f_X4_withoutDoings h5 (nI x) ((nI N - 1) - i4)) fun r8 => bd (rm r8 1000) fun r9 => bd2 (f_X1_doneAsTold h5 9 r9) fun r10 h11 => if r10 = true then (rec6 (i4 + 1) h11) else (some (i4, h11))) else (some ((-9), h5))) fuel (nI i) h = some (jr n m hl x N d i f, h') ∧ Oc 9 h h' := by
  intro d
  induction d with
  | zero =>
    intro i f h fuel e1 e2 T
    obtain ⟨fuel, rfl⟩ : ∃ t, fuel = t + 1 := ⟨fuel - 1, by omega⟩
    refine ⟨h, ?_, Oc.rf 9 h⟩
    unfold loop2
    rw [if_neg (nI_nlt (by omega) (by omega))]
    rfl
  | succ d ih =>
    intro i f h fuel e1 e2 T
    obtain ⟨fuel, rfl⟩ : ∃ t, fuel = t + 1 := ⟨fuel - 1, by omega⟩
    have lt : ∀ i, x / 1000 ^ i < 2 ^ 31 := fun i => Nat.lt_of_le_of_lt (Nat.div_le_self _ _) hx
    unfold loop2
    rw [if_pos (nI_lt (by omega) (by omega)), show (nI N - 1) - nI i = nI (N - 1 - i) by rw [one_nI, nI_sub (by omega), nI_sub (by omega)], X4_without h hx (by omega), bd_s, L1000, rmN (lt _) (by omega) (by omega), bd_s]
    obtain ⟨g, eg, Tg, Og⟩ := C_done T (v := x / 1000 ^ (N - 1 - i) % 1000) (Nat.mod_lt _ (by omega))
    rw [eg, bd2_s]
    show ∃ h', _ = some ((if (dn n m f hl (jv x N i / 100) (jv x N i / 10 % 10) (jv x N i % 10)).1 = true then jr n m hl x N d (i + 1) (dn n m f hl (jv x N i / 100) (jv x N i / 10 % 10) (jv x N i % 10)).2 else nI i), h') ∧ _
    unfold jv
    by_cases q : (dn n m f hl (x / 1000 ^ (N - 1 - i) % 1000 / 100) (x / 1000 ^ (N - 1 - i) % 1000 / 10 % 10) (x / 1000 ^ (N - 1 - i) % 1000 % 10)).1 = true
    · rw [if_pos q, if_pos q, nI_p1]
      obtain ⟨h', e', O'⟩ := ih (i + 1) _ g fuel (by omega) (by omega) Tg
      rw [L1000] at e'
      exact ⟨h', e', Og.tr O'⟩
    · rw [if_neg q, if_neg q]
      exact ⟨g, rfl, Og⟩
theorem M_jr {n m : Nat} {hl : Nat → Int32} {x N : Nat} (hx : x < 2 ^ 31) (hN : N ≤ 3) : ∀ d i f h fuel, i + d = N → d < fuel → TM h f hl n m → ∃ h', loop2 (fun rec8 (i6 : Int32) (h7 : HS) => if i6 < nI N then (bd (f_X5_power h7 1000 ((nI N - 1) - i6)) fun r10 => bd (dv (nI x) r10) fun r11 => bd (rm r11 1000) fun r12 => bd (dv r12 100) fun r13 => bd (dv r12 10) fun r14 => bd (rm r14 10) fun r15 => bd (rm r12 10) fun r16 => bd2 (f_X5_tryThing h7 r13 r15 r16) fun r17 h18 => if r17 = true then (rec8 (i6 + 1) h18) else (some (i6, h18))) else (some ((-9), h7))) fuel (nI i) h = some (jr n m hl x N d i f, h') ∧ OM h h' := by
  intro d
  induction d with
  | zero =>
    intro i f h fuel e1 e2 T
    obtain ⟨fuel, rfl⟩ : ∃ t, fuel = t + 1 := ⟨fuel - 1, by omega⟩
    refine ⟨h, ?_, OM.rf h⟩
    unfold loop2
    rw [if_neg (nI_nlt (by omega) (by omega))]
    rfl
  | succ d ih =>
    intro i f h fuel e1 e2 T
    obtain ⟨fuel, rfl⟩ : ∃ t, fuel = t + 1 := ⟨fuel - 1, by omega⟩
    have lt : ∀ i, x / 1000 ^ i < 2 ^ 31 := fun i => Nat.lt_of_le_of_lt (Nat.div_le_self _ _) hx
    have p0 : 0 < 1000 ^ (N - 1 - i) := Nat.pow_pos (by omega)
    have p1 : 1000 ^ (N - 1 - i) < 2 ^ 31 := Nat.lt_of_le_of_lt (Nat.pow_le_pow_right (by omega) (show N - 1 - i ≤ 3 by omega)) (by decide)
    have v1 : x / 1000 ^ (N - 1 - i) % 1000 < 1000 := Nat.mod_lt _ (by omega)
    unfold loop2
    rw [if_pos (nI_lt (by omega) (by omega)), show (nI N - 1) - nI i = nI (N - 1 - i) by rw [one_nI, nI_sub (by omega), nI_sub (by omega)], M_power h (by omega), bd_s, dvN hx p0 p1, bd_s, L1000, rmN (lt _) (by omega) (by omega), bd_s, L100, dvN (by omega) (by omega) (by omega), bd_s, L10, dvN (by omega) (by omega) (by omega), bd_s, rmN (by omega) (by omega) (by omega), bd_s, rmN (by omega) (by omega) (by omega), bd_s]
    obtain ⟨g, eg, Tg, Og⟩ := M_try T (a := x / 1000 ^ (N - 1 - i) % 1000 / 100) (b := x / 1000 ^ (N - 1 - i) % 1000 / 10 % 10) (c := x / 1000 ^ (N - 1 - i) % 1000 % 10) (by omega) (by omega) (by omega)
    rw [eg, bd2_s]
    show ∃ h', _ = some ((if (dn n m f hl (jv x N i / 100) (jv x N i / 10 % 10) (jv x N i % 10)).1 = true then jr n m hl x N d (i + 1) (dn n m f hl (jv x N i / 100) (jv x N i / 10 % 10) (jv x N i % 10)).2 else nI i), h') ∧ _
    unfold jv
    by_cases q : (dn n m f hl (x / 1000 ^ (N - 1 - i) % 1000 / 100) (x / 1000 ^ (N - 1 - i) % 1000 / 10 % 10) (x / 1000 ^ (N - 1 - i) % 1000 % 10)).1 = true
    · rw [if_pos q, if_pos q, nI_p1]
      obtain ⟨h', e', O'⟩ := ih (i + 1) _ g fuel (by omega) (by omega) Tg
      rw [L1000, L100, L10] at e'
      exact ⟨h', e', Og.tr O'⟩
    · rw [if_neg q, if_neg q]
      exact ⟨g, rfl, Og⟩
theorem in_13 (h : HS) (p : Int32) : f_X5_in h (Int32.toInt64 p) 1 3 = some (decide (1 ≤ p.toInt) && decide (p.toInt ≤ 3)) := by
  rw [M_in, toI64]
  rfl
theorem nI_nn {p : Int32} (h : 0 ≤ p.toInt) : ∃ x, x < 2 ^ 31 ∧ p = nI x := by
  have := Int32.toInt_lt p
  refine ⟨p.toInt.toNat, by omega, ?_⟩
  apply Int32.toInt_inj.mp
  rw [nI_toInt (by omega)]
  omega
theorem st_judge {h : HS} (I : IV h) (p x : Int32) : St (fun h => f_X4_judge h p x) (fun h => f_X5_judge h p x) h := by
  obtain ⟨n, m, I'⟩ := id I
  have B := I'.1
  have H := B.1
  unfold St f_X4_judge f_X5_judge
  simp only [in_13, bd_s]
  by_cases c1 : p.toInt < 1
  · refine ⟨-2, h, h, ?_, ?_, I⟩
    · rw [if_pos (Int32.lt_iff_toInt_lt.mpr (by rw [show (1 : Int32).toInt = 1 by decide]; exact c1))]
    · rw [decide_eq_false (show ¬ 1 ≤ p.toInt by omega), Bool.false_and, if_neg (by decide)]
  rw [if_neg (fun z => c1 (by have := Int32.lt_iff_toInt_lt.mp z; rw [show (1 : Int32).toInt = 1 by decide] at this; exact this))]
  by_cases c2 : 3 < p.toInt
  · refine ⟨-2, h, h, ?_, ?_, I⟩
    · rw [if_pos (Int32.lt_iff_toInt_lt.mpr (by rw [show (3 : Int32).toInt = 3 by decide]; exact c2))]
    · rw [decide_eq_false (show ¬ p.toInt ≤ 3 by omega), Bool.and_false, if_neg (by decide)]
  rw [if_neg (fun z => c2 (by have := Int32.lt_iff_toInt_lt.mp z; rw [show (3 : Int32).toInt = 3 by decide] at this; exact this))]
  obtain ⟨N, hN, rfl⟩ := nI_nn (p := p) (by omega)
  rw [nI_toInt hN] at c1 c2
  have n31 : 1000 ^ N ≤ 1000 ^ 3 := Nat.pow_le_pow_right (by omega) (by omega)
  have n0 : 0 < 1000 ^ N := Nat.pow_pos (by omega)
  have e3 : (1000 : Nat) ^ 3 = 1000000000 := by decide
  by_cases c3 : x.toInt < 0
  · refine ⟨-2, h, h, ?_, ?_, I⟩
    · rw [if_pos (Int32.lt_iff_toInt_lt.mpr (by rw [Int32.toInt_zero]; exact c3))]
    · rw [nI_toInt hN, decide_eq_true (show (1 : Int) ≤ (N : Int) by omega), decide_eq_true (show (N : Int) ≤ 3 by omega), if_pos (by decide), M_power h (by omega), bd_s, show nI (1000 ^ N) - 1 = nI (1000 ^ N - 1) by rw [one_nI, nI_sub (by omega)], in_n h x _ (t := 1000 ^ N - 1) (by rw [toI64, nI_toInt (by omega)]), bd_s, inB_out (by omega), if_neg (by decide)]
  rw [if_neg (fun z => c3 (by have := Int32.lt_iff_toInt_lt.mp z; rw [Int32.toInt_zero] at this; exact this))]
  obtain ⟨x, hx, rfl⟩ := nI_nn (p := x) (by omega)
  rw [X4_without h hx (by omega), bd_s]
  have mr : ∀ h1 : HS, f_X5_in h1 (Int32.toInt64 (nI x)) 0 (Int32.toInt64 (nI (1000 ^ N) - 1)) = some (decide (x < 1000 ^ N)) := fun h1 => by
    rw [show nI (1000 ^ N) - 1 = nI (1000 ^ N - 1) by rw [one_nI, nI_sub (by omega)], in_n h1 (nI x) _ (t := 1000 ^ N - 1) (by rw [toI64, nI_toInt (by omega)]), inB_nd hx (by omega), Nat.sub_add_cancel (by omega)]
  by_cases c4 : x < 1000 ^ N
  · rw [if_pos (by rw [Nat.div_eq_of_lt c4]; exact nI_0)]
    obtain ⟨g, eg, Cg, Og⟩ := C_become H (a := 9) (by omega)
    obtain ⟨h1, e1, O1⟩ := C_jr (n := n) (m := m) (hl := h.1 37) hx (show N ≤ 3 by omega) N 0 (lvf h 0) g 400 (by omega) (by omega) ⟨Cg, B.2.1⟩
    rw [nI_0] at e1
    have S1 : Sq h h1 := Og.sq.tr O1.sq
    have I1 := I'.mv S1
    have el : ∀ k, k < 23 → lvf h1 0 k = lvf h 0 k := fun k hk => by
      rw [lv0, lv0]; exact S1.1 _ _ (by unfold SCR; omega)
    have eh : h1.1 37 = h.1 37 := funext fun k => S1.1 _ _ (by unfold SCR; omega)
    have T0 := lay_TM I1.1
    have T1 : TM (cpH h1 38 23 (h1.1 38) 23) (lvf h 0) (h.1 37) n m := by
      rw [← eh]
      exact T0.om (OM.rf _) fun k hk => by rw [T0.1 k hk, el k hk]
    obtain ⟨h2, e2, O2⟩ := M_jr hx (show N ≤ 3 by omega) N 0 (lvf h 0) (cpH h1 38 23 (h1.1 38) 23) 400 (by omega) (by omega) T1
    rw [nI_0] at e2
    refine ⟨jr n m (h.1 37) x N N 0 (lvf h 0), h1, h2, ?_, ?_, n, m, I1.mv ((lay_OM h1).sq.tr O2.sq)⟩
    · rw [eg, bd_s]; exact e1
    · rw [nI_toInt hN, decide_eq_true (show (1 : Int) ≤ (N : Int) by omega), decide_eq_true (show (N : Int) ≤ 3 by omega), if_pos (by decide), M_power h1 (by omega), bd_s, mr, bd_s, decide_eq_true c4, if_pos rfl, M_lay, bd_s]
      exact e2
  · refine ⟨-2, h, h, ?_, ?_, I⟩
    · rw [if_neg (nI_ne0 (Nat.div_pos (by omega) n0) (Nat.lt_of_le_of_lt (Nat.div_le_self _ _) hx))]
    · rw [nI_toInt hN, decide_eq_true (show (1 : Int) ≤ (N : Int) by omega), decide_eq_true (show (N : Int) ≤ 3 by omega), if_pos (by decide), M_power h (by omega), bd_s, mr, bd_s, decide_eq_false c4, if_neg (by decide)]
