/-! years -/
def sh33 (s : Int64) : Int64 := ((s).toUInt64 >>> ((33 : Int32).toInt64.toUInt64 &&& Int64.toUInt64 63)).toInt64
def yu (s : Int64) : Nat := ((s).toUInt64 >>> ((33 : Int32).toInt64.toUInt64 &&& Int64.toUInt64 63)).toNat
theorem yu_lt (s : Int64) : yu s < 2 ^ 31 := by
  unfold yu
  rw [show ((33 : Int32).toInt64.toUInt64 &&& Int64.toUInt64 63) = 33 by decide +kernel, UInt64.toNat_shiftRight, show (33 : UInt64).toNat % 64 = 33 by decide, Nat.shiftRight_eq_div_pow]
  have := UInt64.toNat_lt s.toUInt64
  omega
theorem sh33_e (s : Int64) : sh33 s = lN (yu s) := by
  unfold sh33 yu lN
  generalize s.toUInt64 >>> ((33 : Int32).toInt64.toUInt64 &&& Int64.toUInt64 63) = u
  show u.toInt64 = Int64.ofNat u.toNat
  show Int64.ofUInt64 u = Int64.ofUInt64 (UInt64.ofNat u.toNat)
  rw [UInt64.ofNat_toNat]
theorem lrm30 (s : Int64) : lrm (sh33 s) 30 = some (lN (yu s % 30)) := by
  unfold lrm
  rw [if_neg (by decide), sh33_e, show (30 : Int64) = lN 30 by decide +kernel, pk_lRem (by have := yu_lt s; omega) (by omega) (by omega)]
def ys (s : Int64) : Int64 := s * 6364136223846793005 + 1442695040888963407
def yF (n m : Nat) (f : Nat → Int32) (v : Nat) : Nat → Int32 := if v < 24 then (shD n m f (v / 4) (v % 4)).2 else (drD n f (v - 24)).2
def yr (w : Int64 → Int64) (n m : Nat) : Nat → Int64 → (Nat → Int32) → Int32 → Int32
  | 0, _, _, acc => acc
  | d + 1, s, f, acc => yr w n m d (w s) (yF n m f (yu (w s) % 30)) (acc + pop (KN (yF n m f (yu (w s) % 30)) n m (nI (2 ^ n - 1))))
def yN (w : Int64 → Int64) : Nat → Int64 → Int64
  | 0, s => s
  | d + 1, s => yN w d (w s)
theorem yr_s (w : Int64 → Int64) (n m d : Nat) (s : Int64) (f : Nat → Int32) (acc : Int32) : yr w n m (d + 1) s f acc = yr w n m d (w s) (yF n m f (yu (w s) % 30)) (acc + pop (KN (yF n m f (yu (w s) % 30)) n m (nI (2 ^ n - 1)))) := by rw [yr]
theorem yN_s (w : Int64 → Int64) (d : Nat) (s : Int64) : yN w (d + 1) s = yN w d (w s) := by rw [yN]
theorem yr_0 (w : Int64 → Int64) (n m : Nat) (s : Int64) (f : Nat → Int32) (acc : Int32) : yr w n m 0 s f acc = acc := by rw [yr]
theorem yN_0 (w : Int64 → Int64) (s : Int64) : yN w 0 s = s := by rw [yN]
theorem KN_small (f : Nat → Int32) (n : Nat) {m : Nat} (m4 : m ≤ 4) (s : Int32) : small (KN f n m s) := small_mkk _ (by omega)
theorem L24 : (24 : Int32) = nI 24 := by decide +kernel
theorem C_passYear {h : HS} {f hl : Nat → Int32} {n m : Nat} (T : TC h f hl n m) {v : Nat} (hv : v < 30) : ∃ h', f_X1_passYear h 9 (nI v) = some h' ∧ TC h' (yF n m f v) hl n m ∧ Oc 9 h h' := by
  unfold f_X1_passYear yF
  rw [L24]
  by_cases q : v < 24
  · rw [if_pos (nI_lt q (by omega)), if_pos q, L4, dvN (by omega) (by omega) (by omega), bd_s, rmN (by omega) (by omega) (by omega), bd_s]
    obtain ⟨g, eg, Tg, Og⟩ := C_seesNow T (p := v / 4) (j := v % 4) (by omega) (by omega)
    exact ⟨g, by rw [eg, bd2_s], Tg, Og⟩
  · rw [if_neg (nI_nlt (by omega) (by omega)), if_neg q, nI_sub (by omega)]
    obtain ⟨g, eg, Tg, Og⟩ := C_losesGlass T (p := v - 24) (by omega)
    exact ⟨g, by rw [eg, bd2_s], Tg, Og⟩
def LQ (a : Nat) (h h' : HS) : Prop := (∀ b k, ¬ SCR b k → h'.1 b k = h.1 b k) ∧ ∀ b, b ≠ a → h'.2 b = h.2 b
theorem LQ.tr {a : Nat} {h1 h2 h3 : HS} (x : LQ a h1 h2) (y : LQ a h2 h3) : LQ a h1 h3 := ⟨fun b k hb => (y.1 b k hb).trans (x.1 b k hb), fun b hb => (y.2 b hb).trans (x.2 b hb)⟩
theorem LQ.sq {a : Nat} {h h' : HS} (S : Sq h h') : LQ a h h' := ⟨S.1, fun b _ => by rw [S.2]⟩
theorem LQ.ln (a : Nat) (h : HS) (v : Int64) : LQ a h (hlng h a v) := ⟨fun _ _ _ => rfl, fun b hb => by rw [hl_2, if_neg hb]⟩
theorem ye (s : Int64) : s * 6364136223846793005 + 1442695040888963407 = ys s := rfl
theorem TC.ln {h : HS} {f hl : Nat → Int32} {n m : Nat} (T : TC h f hl n m) (a : Nat) (v : Int64) : TC (hlng h a v) f hl n m := ⟨CR_move T.1 fun _ _ _ => rfl, T.2⟩
theorem TM.ln {h : HS} {f hl : Nat → Int32} {n m : Nat} (T : TM h f hl n m) (a : Nat) (v : Int64) : TM (hlng h a v) f hl n m := by
  obtain ⟨t0, t1, t2, t3, t4, t5⟩ := T
  refine ⟨fun k hk => ?_, ?_, ?_, ?_, t4, t5⟩
  · rw [← t0 k hk]; rfl
  · rw [hl_1]; exact t1
  · rw [hl_1]; exact t2
  · rw [hl_1]; exact t3
theorem hl_s (h : HS) (a : Nat) (v : Int64) : (hlng h a v).2 a = v := by rw [hl_2, if_pos rfl]
theorem C_yr (w : Int64 → Int64) (hw : ∀ s : Int64, s * 6364136223846793005 + 1442695040888963407 = w s) {n m : Nat} {hl : Nat → Int32} {N : Nat} (hN : N ≤ 30) : ∀ d i acc f h fuel, i + d = N → d < fuel → TC h f hl n m → ∃ h', loop3 (fun rec6 (i3 : Int32) (i4 : Int32) (h5 : HS) => if i4 < nI N then (Lt (hlng h5 0 (((h5.2 0) * 6364136223846793005) + 1442695040888963407)) fun h8 => bd (lrm ((((h8.2 0)).toUInt64 >>> ((33 : Int32).toInt64.toUInt64 &&& Int64.toUInt64 63)).toInt64) 30) fun r9 => bd (f_X1_passYear h8 9 (Int64.toInt32 r9)) fun h11 => bd (f_X1_everybody h11 9) fun r12 => bd (f_X1_knowableAmong h11 9 r12) fun r13 => bd (f_J6_bitCount_0f7a4 h11 r13) fun r14 => Lt (i3 + r14) fun v15 => rec6 v15 (i4 + 1) h11) else (some (i3, h5))) fuel acc (nI i) h = some (yr w n m d (h.2 0) f acc, h') ∧ LQ 0 h h' ∧ h'.2 0 = yN w d (h.2 0) := by
  intro d
  induction d with
  | zero =>
    intro i acc f h fuel e1 e2 T
    obtain ⟨fuel, rfl⟩ : ∃ t, fuel = t + 1 := ⟨fuel - 1, by omega⟩
    refine ⟨h, ?_, LQ.sq (Sq.rf h), (yN_0 w _).symm⟩
    unfold loop3
    rw [if_neg (nI_nlt (by omega) (by omega)), yr_0]
  | succ d ih =>
    intro i acc f h fuel e1 e2 T
    obtain ⟨fuel, rfl⟩ : ∃ t, fuel = t + 1 := ⟨fuel - 1, by omega⟩
    have m4 := T.1.1.2.2.2
    unfold loop3
    rw [yr_s, yN_s, if_pos (nI_lt (by omega) (by omega)), Lt_e, hw (h.2 0)]
    have es := hl_s h 0 (w (h.2 0))
    have T8 := T.ln 0 (w (h.2 0))
    have L8 := LQ.ln 0 h (w (h.2 0))
    generalize hlng h 0 (w (h.2 0)) = h8 at es T8 L8
    have el := lrm30 (w (h.2 0))
    unfold sh33 at el
    rw [es, el, bd_s, lN_i]
    obtain ⟨g, eg, Tg, Og⟩ := C_passYear T8 (v := yu (w (h.2 0)) % 30) (Nat.mod_lt _ (by omega))
    rw [eg, bd_s, C_everybody Tg.1, bd_s, C_knowable Tg.1, bd_s, C_bitCount g (KN_small _ n m4 _), bd_s, Lt_e, nI_p1]
    obtain ⟨h', e', Q', z'⟩ := ih (i + 1) (acc + pop (KN (yF n m f (yu (w (h.2 0)) % 30)) n m (nI (2 ^ n - 1)))) _ g fuel (by omega) (by omega) Tg
    have gs : g.2 0 = w (h.2 0) := by rw [Og.2, es]
    rw [gs] at e' z'
    exact ⟨h', e', L8.tr ((LQ.sq Og.sq).tr Q'), z'⟩
theorem M_yF {h : HS} {f hl : Nat → Int32} {n m : Nat} (T : TM h f hl n m) {v : Nat} (hv : v < 30) {α : Type} (K : HS → Option α) : ∃ h', (jn (if nI v < 24 then (K h) else (bd (f_X5_canDrop h 1 (nI v - 24)) fun r21 => if r21 = true then (bd (f_X5_dropOn h 1 (nI v - 24)) fun h23 => K h23) else (K h))) (fun j19 => if nI v < 24 then (bd (dv (nI v) 4) fun r24 => bd (rm (nI v) 4) fun r25 => bd (f_X5_canShow h 1 r24 r25) fun r26 => if r26 = true then (bd (dv (nI v) 4) fun r27 => bd (rd h 38 46 (30 + r27)) fun r28 => bd (rm (nI v) 4) fun r29 => bd (wr h 38 46 (30 + r27) (r28 ||| (1 <<< (r29 &&& 31)))) fun h30 => K h30) else (j19)) else (j19))) = K h' ∧ TM h' (yF n m f v) hl n m ∧ OM h h' := by
  have n6 := T.2.2.2.2.1
  unfold yF
  rw [jn_e, L24]
  by_cases q : v < 24
  · rw [if_pos (nI_lt q (by omega)), if_pos q, L4, dvN (by omega) (by omega) (by omega), bd_s, rmN (by omega) (by omega) (by omega), bd_s, M_canShowG T (by omega) (by omega), bd_s, bd_s]
    by_cases s : (shD n m f (v / 4) (v % 4)).1 = true
    · rw [if_pos s]
      obtain ⟨g, eg, Tg, Og⟩ := M_shD T (p := v / 4) (j := v % 4) (by omega) s
      refine ⟨g, ?_, Tg, Og⟩
      rw [L30, nI_add, rd38 _ (by omega), bd_s, wr38 _ _ (by omega), bd_s] at eg
      rw [L30, nI_add, rd38 _ (by omega), bd_s, bd_s, wr38 _ _ (by omega), bd_s]
      cases eg
      rfl
    · rw [if_neg s, if_pos (nI_lt q (by omega))]
      have : (shD n m f (v / 4) (v % 4)).2 = f := by
        unfold shD at s ⊢
        by_cases z : v / 4 < n ∧ v % 4 < m ∧ bt (f (7 + v / 4)) (v % 4) = false
        · rw [if_pos z] at s; exact absurd rfl s
        · rw [if_neg z]
      rw [this]
      exact ⟨h, rfl, T, OM.rf h⟩
  · rw [if_neg (nI_nlt (by omega) (by omega)), if_neg q, if_neg (nI_nlt (by omega) (by omega)), nI_sub (by omega), M_canDropG T (by omega), bd_s]
    by_cases s : (drD n f (v - 24)).1 = true
    · rw [if_pos s]
      obtain ⟨g, eg, Tg, Og⟩ := M_drD T s
      exact ⟨g, by rw [eg, bd_s], Tg, Og⟩
    · rw [if_neg s]
      have : (drD n f (v - 24)).2 = f := by
        unfold drD at s ⊢
        by_cases z : v - 24 < n ∧ f (1 + (v - 24)) ≠ 3
        · rw [if_pos z] at s; exact absurd rfl s
        · rw [if_neg z]
      rw [this]
      exact ⟨h, rfl, T, OM.rf h⟩
theorem M_yr (w : Int64 → Int64) (hw : ∀ s : Int64, s * 6364136223846793005 + 1442695040888963407 = w s) {n m : Nat} {hl : Nat → Int32} {N : Nat} (hN : N ≤ 30) : ∀ d i acc f h fuel, i + d = N → d < fuel → TM h f hl n m → ∃ h', loop3 (fun rec7 (i4 : Int32) (i5 : Int32) (h6 : HS) => if i5 < nI N then (Lt (hlng h6 36 (((h6.2 36) * 6364136223846793005) + 1442695040888963407)) fun h9 => bd (lrm ((((h9.2 36)).toUInt64 >>> ((33 : Int32).toInt64.toUInt64 &&& Int64.toUInt64 63)).toInt64) 30) fun r10 => Lt (Int64.toInt32 r10) fun v11 => jn (fun (h12 : HS) => bd (f_X5_every h12) fun r15 => bd (f_X5_canBe h12 1 r15) fun r16 => bd (f_X5_ones h12 r16) fun r17 => Lt (i4 + r17) fun v18 => rec7 v18 (i5 + 1) h12) (fun j13 => jn (if v11 < 24 then (j13 h9) else (bd (f_X5_canDrop h9 1 (v11 - 24)) fun r21 => if r21 = true then (bd (f_X5_dropOn h9 1 (v11 - 24)) fun h23 => j13 h23) else (j13 h9))) (fun j19 => if v11 < 24 then (bd (dv v11 4) fun r24 => bd (rm v11 4) fun r25 => bd (f_X5_canShow h9 1 r24 r25) fun r26 => if r26 = true then (bd (dv v11 4) fun r27 => bd (rd h9 38 46 (30 + r27)) fun r28 => bd (rm v11 4) fun r29 => bd (wr h9 38 46 (30 + r27) (r28 ||| (1 <<< (r29 &&& 31)))) fun h30 => j13 h30) else (j19)) else (j19)))) else (some (i4, h6))) fuel acc (nI i) h = some (yr w n m d (h.2 36) f acc, h') ∧ LQ 36 h h' ∧ h'.2 36 = yN w d (h.2 36) := by
  intro d
  induction d with
  | zero =>
    intro i acc f h fuel e1 e2 T
    obtain ⟨fuel, rfl⟩ : ∃ t, fuel = t + 1 := ⟨fuel - 1, by omega⟩
    refine ⟨h, ?_, LQ.sq (Sq.rf h), (yN_0 w _).symm⟩
    unfold loop3
    rw [if_neg (nI_nlt (by omega) (by omega)), yr_0]
  | succ d ih =>
    intro i acc f h fuel e1 e2 T
    obtain ⟨fuel, rfl⟩ : ∃ t, fuel = t + 1 := ⟨fuel - 1, by omega⟩
    have n6 := T.2.2.2.2.1
    have m4 := T.2.2.2.2.2
    unfold loop3
    rw [yr_s, yN_s, if_pos (nI_lt (by omega) (by omega)), Lt_e, hw (h.2 36)]
    have es := hl_s h 36 (w (h.2 36))
    have T8 := T.ln 36 (w (h.2 36))
    have L8 := LQ.ln 36 h (w (h.2 36))
    generalize hlng h 36 (w (h.2 36)) = h8 at es T8 L8
    have el := lrm30 (w (h.2 36))
    unfold sh33 at el
    rw [es, el, bd_s, Lt_e, lN_i, jn_e]
    obtain ⟨g, eg, Tg, Og⟩ := M_yF T8 (v := yu (w (h.2 36)) % 30) (Nat.mod_lt _ (by omega)) (fun h12 => bd (f_X5_every h12) fun r15 => bd (f_X5_canBe h12 1 r15) fun r16 => bd (f_X5_ones h12 r16) fun r17 => Lt (acc + r17) fun v18 => loop3 (fun rec7 (i4 : Int32) (i5 : Int32) (h6 : HS) => if i5 < nI N then (Lt (hlng h6 36 (((h6.2 36) * 6364136223846793005) + 1442695040888963407)) fun h9 => bd (lrm ((((h9.2 36)).toUInt64 >>> ((33 : Int32).toInt64.toUInt64 &&& Int64.toUInt64 63)).toInt64) 30) fun r10 => Lt (Int64.toInt32 r10) fun v11 => jn (fun (h12 : HS) => bd (f_X5_every h12) fun r15 => bd (f_X5_canBe h12 1 r15) fun r16 => bd (f_X5_ones h12 r16) fun r17 => Lt (i4 + r17) fun v18 => rec7 v18 (i5 + 1) h12) (fun j13 => jn (if v11 < 24 then (j13 h9) else (bd (f_X5_canDrop h9 1 (v11 - 24)) fun r21 => if r21 = true then (bd (f_X5_dropOn h9 1 (v11 - 24)) fun h23 => j13 h23) else (j13 h9))) (fun j19 => if v11 < 24 then (bd (dv v11 4) fun r24 => bd (rm v11 4) fun r25 => bd (f_X5_canShow h9 1 r24 r25) fun r26 => if r26 = true then (bd (dv v11 4) fun r27 => bd (rd h9 38 46 (30 + r27)) fun r28 => bd (rm v11 4) fun r29 => bd (wr h9 38 46 (30 + r27) (r28 ||| (1 <<< (r29 &&& 31)))) fun h30 => j13 h30) else (j19)) else (j19)))) else (some (i4, h6))) fuel v18 (nI i + 1) h12)
    have cb := M_canBe (h := g) (n := n) (m := m) (lv := 1) Tg.2.2.1 n6 Tg.2.2.2.1 m4 (by omega) (nI (2 ^ n - 1))
    rw [← one_nI, KN_cg Tg.1 n6] at cb
    obtain ⟨h', e', Q', z'⟩ := ih (i + 1) (acc + pop (KN (yF n m f (yu (w (h.2 36)) % 30)) n m (nI (2 ^ n - 1)))) _ g fuel (by omega) (by omega) Tg
    have gs : g.2 36 = w (h.2 36) := by rw [Og.2, es]
    rw [gs] at e' z'
    refine ⟨h', ?_, L8.tr ((LQ.sq Og.sq).tr Q'), z'⟩
    refine Eq.trans eg ?_
    rw [M_every Tg.2.2.1 n6, bd_s, cb, bd_s, M_ones, bd_s, Lt_e, nI_p1]
    exact e'
theorem in_130 (h : HS) (p : Int32) : f_X5_in h (Int32.toInt64 p) 1 30 = some (decide (1 ≤ p.toInt) && decide (p.toInt ≤ 30)) := by
  rw [M_in, toI64]
  rfl
theorem Inv.mv2 {h h' : HS} {n m : Nat} (I : Inv h n m) (e : ∀ b k, ¬ SCR b k → h'.1 b k = h.1 b k) (s : h'.2 0 = h'.2 36) : Inv h' n m := by
  have I2 : Inv (h'.1, h.2) n m := I.mv ⟨e, rfl⟩
  exact ⟨I2.1, I2.2.1, I2.2.2.1, I2.2.2.2.1, I2.2.2.2.2.1, s⟩
theorem st_years {h : HS} (I : IV h) (p : Int32) : St (fun h => f_X4_years h p) (fun h => f_X5_years h p) h := by
  obtain ⟨n, m, I'⟩ := id I
  have B := I'.1
  have H := B.1
  unfold St f_X4_years f_X5_years
  simp only [in_130, bd_s]
  by_cases c1 : p.toInt < 1
  · refine ⟨-2, h, h, ?_, ?_, I⟩
    · rw [if_pos (Int32.lt_iff_toInt_lt.mpr (by rw [show (1 : Int32).toInt = 1 by decide]; exact c1))]
    · rw [decide_eq_false (show ¬ 1 ≤ p.toInt by omega), Bool.false_and, if_neg (by decide)]
  rw [if_neg (fun z => c1 (by have := Int32.lt_iff_toInt_lt.mp z; rw [show (1 : Int32).toInt = 1 by decide] at this; exact this))]
  by_cases c2 : 30 < p.toInt
  · refine ⟨-2, h, h, ?_, ?_, I⟩
    · rw [if_pos (Int32.lt_iff_toInt_lt.mpr (by rw [show (30 : Int32).toInt = 30 by decide]; exact c2))]
    · rw [decide_eq_false (show ¬ p.toInt ≤ 30 by omega), Bool.and_false, if_neg (by decide)]
  rw [if_neg (fun z => c2 (by have := Int32.lt_iff_toInt_lt.mp z; rw [show (30 : Int32).toInt = 30 by decide] at this; exact this))]
  obtain ⟨N, hN, rfl⟩ := nI_nn (p := p) (by omega)
  rw [nI_toInt hN] at c1 c2
  obtain ⟨g, eg, Cg, Og⟩ := C_become H (a := 9) (by omega)
  obtain ⟨h1, e1, Q1, z1⟩ := C_yr ys ye (n := n) (m := m) (hl := h.1 37) (show N ≤ 30 by omega) N 0 0 (lvf h 0) g 400 (by omega) (by omega) ⟨Cg, B.2.1⟩
  rw [nI_0] at e1
  have S1 : ∀ b k, ¬ SCR b k → h1.1 b k = h.1 b k := fun b k z => (Q1.1 b k z).trans (Og.sq.1 b k z)
  have s36 : h1.2 36 = h.2 36 := by rw [Q1.2 36 (by decide), Og.2]
  have s0 : g.2 0 = h.2 36 := by rw [Og.2]; exact I'.s0
  have B1 : Base h1 n m := B.mv fun b k hb => S1 b k (by unfold SCR; omega)
  have el : ∀ k, k < 23 → lvf h1 0 k = lvf h 0 k := fun k hk => by
    rw [lv0, lv0]; exact S1 _ _ (by unfold SCR; omega)
  have eh : h1.1 37 = h.1 37 := funext fun k => S1 _ _ (by unfold SCR; omega)
  have T0 := lay_TM B1
  have T1 : TM (cpH h1 38 23 (h1.1 38) 23) (lvf h 0) (h.1 37) n m := by
    rw [← eh]
    exact T0.om (OM.rf _) fun k hk => by rw [T0.1 k hk, el k hk]
  obtain ⟨h2, e2, Q2, z2⟩ := M_yr ys ye (show N ≤ 30 by omega) N 0 0 (lvf h 0) (cpH h1 38 23 (h1.1 38) 23) 400 (by omega) (by omega) T1
  rw [nI_0] at e2
  rw [cp_2, s36] at e2 z2
  rw [s0] at e1 z1
  refine ⟨yr ys n m N (h.2 36) (lvf h 0) 0, h1, h2, ?_, ?_, n, m, I'.mv2 (fun b k z => ?_) ?_⟩
  · rw [eg, bd_s]; exact e1
  · rw [nI_toInt hN, decide_eq_true (show (1 : Int) ≤ (N : Int) by omega), decide_eq_true (show (N : Int) ≤ 30 by omega), if_pos (by decide), M_lay, bd_s]
    exact e2
  · rw [Q2.1 b k z, (lay_OM h1).sq.1 b k z, S1 b k z]
  · rw [z2, Q2.2 0 (by decide), cp_2, z1]
