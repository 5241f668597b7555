/-! the program reads -/
def rdB (p1 : Nat) (rec8 : Int32 → Int32 → Int32 → HS → Option (Int32 × HS)) (i4 : Int32) (i5 : Int32) (i6 : Int32) (h7 : HS) : Option (Int32 × HS) :=
  jn (bd (rm (h7.1 1 1) 3) fun r12 => if r12 = 1 then (some ((-9), h7)) else (some ((h7.1 1 1), h7))) (fun j10 => if i6 < (h7.1 1 1) then (if i6 < 48 then (bd (rd h7 2 48 i6) fun r13 => bd (rm (i6 - 1) 3) fun r14 => jn (fun (w15 : Int32) (w16 : Int32) (h17 : HS) => rec8 w15 w16 (i6 + 1) h17) (fun j18 => if r14 = 0 then (bd (f_X1_canBegin h7 p1 r13) fun r24 => if r24 = true then (j18 r13 i5 h7) else (some (i6, h7))) else (if r14 = 1 then (Lt (r13 - 48) fun v22 => bd (f_X1_canGoOn h7 p1 i4 v22) fun r23 => if r23 = true then (j18 i4 v22 h7) else (some (i6, h7))) else (bd2 (f_X1_takesPart h7 p1 i4 i5 (r13 - 48)) fun r20 h21 => if r20 = true then (j18 i4 i5 h21) else (some (i6, h21)))))) else (j10)) else (j10))
theorem X3_read_e (h : HS) (p1 : Nat) : f_X3_readInto h p1 = bd (f_X1_clear h p1) fun h2 => if (h2.1 1 1) < 1 then (some (0, h2)) else (bd (rd h2 2 48 0) fun r3 => if r3 = 79 then (loop4 (rdB p1) 400 0 0 1 h2) else (some (0, h2))) := rfl
def fgo (v : Int32) : Option Nat := if inB v 10 = true then some v.toNatClampNeg else none
theorem fgo_i {j : Nat} (hj : j < 10) : fgo (nI j) = some j := by
  unfold fgo
  rw [inB_nI hj (by omega), if_pos rfl]
  show some ((nI j).toInt.toNat) = some j
  rw [nI_toInt (by omega), Int.toNat_natCast]
theorem fgo_n {v : Int32} (h : inB v 10 = false) : fgo v = none := by
  unfold fgo
  rw [h, if_neg (by decide)]
/-- what is read from place i on: the fault, and the Court -/
def rdP (T : Nat → Int32) (len : Nat) : Nat → Nat → Nat × Nat × (Nat → Int32) × (Nat → Int32) → Int32 × (Nat × Nat × (Nat → Int32) × (Nat → Int32))
  | 0, _, s => (-9, s)
  | d + 1, i, s =>
    if i < len then
      if bgn s.1 s.2.1 s.2.2.1 (T i) = true then
        if i + 1 < len then
          match fgo (T (i + 1) - 48) with
          | none => (nI (i + 1), s)
          | some p =>
            if gon s.1 s.2.1 s.2.2.1 (T i) p = true then
              if i + 2 < len then
                match fgo (T (i + 2) - 48) with
                | none => (nI (i + 2), s)
                | some j => if tkB s.1 s.2.1 s.2.2.1 (T i) p j = true then rdP T len d (i + 3) (tkS s.1 s.2.1 s.2.2.1 s.2.2.2 (T i) p j) else (nI (i + 2), s)
              else (nI len, s)
            else (nI (i + 1), s)
        else (nI len, s)
      else (nI i, s)
    else (-9, s)
def LT (h : HS) (T : Nat → Int32) (len : Nat) : Prop := h.1 1 1 = nI len ∧ len ≤ 48 ∧ ∀ j, j < len → h.1 2 j = T j
theorem LT.oc {h h' : HS} {T : Nat → Int32} {len : Nat} (L : LT h T len) (O : Oc 9 h h') : LT h' T len := by
  obtain ⟨l1, l2, l3⟩ := L
  exact ⟨by rw [O.1 _ _ (by omega)]; exact l1, l2, fun j hj => by rw [O.1 _ _ (by omega)]; exact l3 j hj⟩
section RD
variable {h : HS} {f hl T : Nat → Int32} {n m len : Nat} {rec8 : Int32 → Int32 → Int32 → HS → Option (Int32 × HS)} {a b : Int32}
theorem L48 : (48 : Int32) = nI 48 := by decide +kernel
theorem L3 : (3 : Int32) = nI 3 := by decide +kernel
theorem rd_end (L : LT h T len) : rdB 9 rec8 a b (nI len) h = if len % 3 = 1 then some (-9, h) else some (nI len, h) := by
  obtain ⟨l1, l2, l3⟩ := L
  unfold rdB
  rw [jn_e, l1, if_neg (nI_nlt (Nat.le_refl _) (by omega)), L3, rmN (by omega) (by omega) (by omega), bd_s]
  by_cases q : len % 3 = 1
  · rw [if_pos q, if_pos (by rw [q]; exact one_nI.symm)]
  · rw [if_neg q, if_neg (by rw [one_nI]; exact fun z => q ((nI_eq (by omega) (by omega)).mp z))]
theorem rd_1 (L : LT h T len) (H : CR h 9 f hl n m) {i : Nat} (hi : i < len) (h3 : i % 3 = 1) : rdB 9 rec8 a b (nI i) h = if bgn n m f (T i) = true then rec8 (T i) b (nI (i + 1)) h else some (nI i, h) := by
  obtain ⟨l1, l2, l3⟩ := L
  unfold rdB
  rw [jn_e, l1, if_pos (nI_lt hi (by omega)), L48, if_pos (nI_lt (by omega) (by omega)), rd_nI _ _ (by omega) (by omega), bd_s, l3 i hi, one_nI, nI_sub (by omega), L3, rmN (by omega) (by omega) (by omega), bd_s, jn_e, show (i - 1) % 3 = 0 by omega, if_pos nI_0, C_canBegin H, bd_s, nI_add]
theorem rd_2 (L : LT h T len) {i : Nat} (hi : i < len) (h3 : i % 3 = 2) : rdB 9 rec8 a b (nI i) h = bd (f_X1_canGoOn h 9 a (T i - 48)) fun r23 => if r23 = true then rec8 a (T i - 48) (nI (i + 1)) h else some (nI i, h) := by
  obtain ⟨l1, l2, l3⟩ := L
  unfold rdB
  rw [jn_e, l1, if_pos (nI_lt hi (by omega)), L48, if_pos (nI_lt (by omega) (by omega)), rd_nI _ _ (by omega) (by omega), bd_s, l3 i hi, one_nI, nI_sub (by omega), L3, rmN (by omega) (by omega) (by omega), bd_s, jn_e, show (i - 1) % 3 = 1 by omega, if_neg (nI_ne0 (by omega) (by omega)), if_pos rfl, Lt_e, nI_add]
theorem rd_3 (L : LT h T len) {i : Nat} (hi : i < len) (h3 : i % 3 = 0) (h0 : 0 < i) : rdB 9 rec8 a b (nI i) h = bd2 (f_X1_takesPart h 9 a b (T i - 48)) fun r20 h21 => if r20 = true then rec8 a b (nI (i + 1)) h21 else some (nI i, h21) := by
  obtain ⟨l1, l2, l3⟩ := L
  unfold rdB
  rw [jn_e, l1, if_pos (nI_lt hi (by omega)), L48, if_pos (nI_lt (by omega) (by omega)), rd_nI _ _ (by omega) (by omega), bd_s, l3 i hi, one_nI, nI_sub (by omega), L3, rmN (by omega) (by omega) (by omega), bd_s, jn_e, show (i - 1) % 3 = 2 by omega, if_neg (nI_ne0 (by omega) (by omega)), if_neg (fun z => by have := (nI_eq (by omega) (by omega)).mp z; omega), nI_add]
end RD
theorem C_rdP (T : Nat → Int32) (len : Nat) : ∀ d i w4 w5 fuel n m f hl h, len < i + 3 * d → i ≤ len → i % 3 = 1 → 3 * d < fuel → LT h T len → CR h 9 f hl n m → PS f n m →
    ∃ h', loop4 (rdB 9) fuel w4 w5 (nI i) h = some ((rdP T len d i (n, m, f, hl)).1, h') ∧ Oc 9 h h' ∧ ((rdP T len d i (n, m, f, hl)).1 = -9 → CR h' 9 (rdP T len d i (n, m, f, hl)).2.2.2.1 (rdP T len d i (n, m, f, hl)).2.2.2.2 (rdP T len d i (n, m, f, hl)).2.1 (rdP T len d i (n, m, f, hl)).2.2.1 ∧ PS (rdP T len d i (n, m, f, hl)).2.2.2.1 (rdP T len d i (n, m, f, hl)).2.1 (rdP T len d i (n, m, f, hl)).2.2.1) := by
  intro d
  induction d with
  | zero => intro i w4 w5 fuel n m f hl h h1 h2; omega
  | succ d ih =>
    intro i w4 w5 fuel n m f hl h h1 h2 h3 hfu L H P
    obtain ⟨fuel, rfl⟩ : ∃ t, fuel = t + 3 := ⟨fuel - 3, by omega⟩
    have l48 := L.2.1
    have ne9 : ∀ k, k ≤ 48 → nI k ≠ -9 := by
      have : ∀ k, k < 49 → nI k ≠ -9 := by decide +kernel
      exact fun k hk => this k (by omega)
    show ∃ h', rdB 9 (loop4 (rdB 9) (fuel + 2)) w4 w5 (nI i) h = _ ∧ _
    unfold rdP
    by_cases q1 : i < len
    · rw [if_pos q1, rd_1 L H q1 h3]
      by_cases q2 : bgn n m f (T i) = true
      · rw [if_pos q2, if_pos q2]
        show ∃ h', rdB 9 (loop4 (rdB 9) (fuel + 1)) (T i) w5 (nI (i + 1)) h = _ ∧ _
        by_cases q3 : i + 1 < len
        · rw [if_pos q3, rd_2 L q3 (by omega)]
          rcases nI_rg (T (i + 1) - 48) 10 (by omega) with z | ⟨p, hp, ep⟩
          · rw [fgo_n z, C_goOn0 H _ z, bd_s, if_neg (by decide)]
            exact ⟨h, rfl, Oc.rf 9 h, fun z => absurd z (ne9 _ (by omega))⟩
          · rw [ep, fgo_i hp, C_goOn H _ hp, bd_s]
            by_cases q4 : gon n m f (T i) p = true
            · rw [if_pos q4]
              simp only [if_pos q4]
              show ∃ h', rdB 9 (loop4 (rdB 9) fuel) (T i) (nI p) (nI (i + 1 + 1)) h = _ ∧ _
              by_cases q5 : i + 2 < len
              · rw [rd_3 L (i := i + 1 + 1) (by omega) (by omega) (by omega)]
                simp only [if_pos q5]
                rcases nI_rg (T (i + 2) - 48) 10 (by omega) with z | ⟨j, hj, ej⟩
                · rw [C_takes0 H hp q2 q4 (Or.inl z), bd2_s, if_neg (by decide), fgo_n z]
                  exact ⟨h, rfl, Oc.rf 9 h, fun z => absurd z (ne9 _ (by omega))⟩
                · by_cases q6 : tkB n m f (T i) p j = true
                  · obtain ⟨g, eg, Cg, Pg, Og⟩ := C_takes H P hp q2 q4 hj q6
                    rw [show i + 1 + 1 = i + 2 from rfl, ej, eg, bd2_s, if_pos rfl, fgo_i hj]
                    simp only [if_pos q6]
                    obtain ⟨h', e', O', X'⟩ := ih (i + 3) (T i) (nI p) fuel _ _ _ _ g (by omega) (by omega) (by omega) (by omega) (L.oc Og) Cg Pg
                    exact ⟨h', e', Og.tr O', X'⟩
                  · have q7 := b2n q6
                    rw [show i + 1 + 1 = i + 2 from rfl, ej, C_takes0 H hp q2 q4 (Or.inr ⟨j, hj, rfl, q7⟩), bd2_s, if_neg (by decide), fgo_i hj]
                    simp only [if_neg q6]
                    exact ⟨h, rfl, Oc.rf 9 h, fun z => absurd z (ne9 _ (by omega))⟩
              · simp only [if_neg q5]
                rw [show i + 1 + 1 = len by omega, rd_end L, if_neg (by omega)]
                exact ⟨h, rfl, Oc.rf 9 h, fun z => absurd z (ne9 _ (by omega))⟩
            · rw [if_neg q4]
              simp only [if_neg q4]
              exact ⟨h, rfl, Oc.rf 9 h, fun z => absurd z (ne9 _ (by omega))⟩
        · rw [if_neg q3, show i + 1 = len by omega, rd_end L, if_neg (by omega)]
          exact ⟨h, rfl, Oc.rf 9 h, fun z => absurd z (ne9 _ (by omega))⟩
      · rw [if_neg q2, if_neg q2]
        exact ⟨h, rfl, Oc.rf 9 h, fun z => absurd z (ne9 _ (by omega))⟩
    · rw [if_neg q1, show i = len by omega, rd_end L, if_pos (by omega)]
      exact ⟨h, rfl, Oc.rf 9 h, fun _ => ⟨H, P⟩⟩
def f00 : Nat → Int32 := fun k => if 13 ≤ k ∧ k ≤ 16 then -9 else 0
def s00 : Nat × Nat × (Nat → Int32) × (Nat → Int32) := (0, 0, f00, fun _ => 0)
theorem PS00 : PS f00 0 0 := by
  refine ⟨⟨fun p hp => by omega, fun p hp => by omega⟩, by omega, by omega, fun p _ hp => ⟨if_neg (by omega), if_neg (by omega)⟩, fun j hj => if_pos (by omega), fun p hp => if_neg (by omega)⟩
/-- the whole reading -/
def rdR (T : Nat → Int32) (len : Nat) : Int32 × (Nat × Nat × (Nat → Int32) × (Nat → Int32)) := if len = 0 then (0, s00) else if T 0 = 79 then rdP T len 16 1 s00 else (0, s00)
theorem C_clear (h : HS) : ∃ h', f_X1_clear h 9 = some h' ∧ CR h' 9 f00 (fun _ => 0) 0 0 ∧ Oc 9 h h' := by
  unfold f_X1_clear
  rw [Lt_e, Lt_e, Lt_e, Lt_e, Lt_e, Lt_e]
  refine ⟨_, rfl, ⟨⟨?_, ?_, by omega, by omega⟩, ?_, fun p hp => by omega, fun p hp => by omega, fun p hp => by omega, fun p hp => by omega, fun p hp => by omega⟩, (Oc.set (by omega)).tr ((Oc.set (by omega)).tr ((Oc.set (by omega)).tr ((Oc.set (by omega)).tr ((Oc.set (by omega)).tr (Oc.set (by omega))))))⟩
  · rw [hs_o _ _ (by omega), hs_o _ _ (by omega), hs_o _ _ (by omega), hs_o _ _ (by omega), hs_o _ _ (by omega), hs_s]; rfl
  · rw [hs_o _ _ (by omega), hs_o _ _ (by omega), hs_o _ _ (by omega), hs_o _ _ (by omega), hs_s]; rfl
  · rw [hs_o _ _ (by omega), hs_o _ _ (by omega), hs_o _ _ (by omega), hs_s]; rfl
theorem C_read {h : HS} {T : Nat → Int32} {len : Nat} (L : LT h T len) : ∃ h', f_X3_readInto h 9 = some ((rdR T len).1, h') ∧ Oc 9 h h' ∧ ((rdR T len).1 = -9 → CR h' 9 (rdR T len).2.2.2.1 (rdR T len).2.2.2.2 (rdR T len).2.1 (rdR T len).2.2.1 ∧ PS (rdR T len).2.2.2.1 (rdR T len).2.1 (rdR T len).2.2.1) := by
  obtain ⟨g, eg, Cg, Og⟩ := C_clear h
  have l48 := L.2.1
  have Lg := L.oc Og
  rw [X3_read_e, eg, bd_s, Lg.1, one_nI]
  unfold rdR
  by_cases q : len = 0
  · rw [if_pos (nI_lt (by omega) (by omega)), if_pos q]
    exact ⟨g, rfl, Og, fun z => absurd z (by decide)⟩
  · rw [if_neg (nI_nlt (by omega) (by omega)), if_neg q]
    have e0 : rd g 2 48 0 = some (T 0) := by
      have := rd_nI g 2 (j := 0) (n := 48) (by omega) (by omega)
      rw [nI_0] at this
      rw [this, Lg.2.2 0 (by omega)]
    rw [e0, bd_s]
    by_cases q2 : T 0 = 79
    · rw [if_pos q2, if_pos q2]
      obtain ⟨h', e', O', X'⟩ := C_rdP T len 16 1 0 0 400 0 0 f00 (fun _ => 0) g (by have := L.2.1; omega) (by omega) (by omega) (by omega) Lg Cg PS00
      exact ⟨h', e', Og.tr O', X'⟩
    · rw [if_neg q2, if_neg q2]
      exact ⟨g, rfl, Og, fun z => absurd z (by decide)⟩
