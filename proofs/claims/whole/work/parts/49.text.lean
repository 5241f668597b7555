/-! the model's whole reading; fault -/
def mrB (rec12 : HS → Option (Int32 × HS)) (h11 : HS) : Option (Int32 × HS) := if (h11.1 36 12) = (-9) then (if (h11.1 36 11) < (h11.1 36 10) then (bd (rd h11 42 48 (h11.1 36 11)) fun r14 => bd (f_X5_readPart h11 r14) fun h16 => rec12 h16) else (some ((h11.1 36 12), h11))) else (some ((h11.1 36 12), h11))
theorem X5_text_e (h : HS) : f_X5_readText h = Lt (hset h 36 11 0) fun h1 => Lt (hset h1 36 12 (-9)) fun h2 => Lt (hset h2 36 7 0) fun h3 => Lt (hset h3 36 8 0) fun h4 => loop2 (fun rec7 (i5 : Int32) (h6 : HS) => if i5 < 6 then (bd (wr h6 41 6 i5 0) fun h17 => rec7 (i5 + 1) h17) else (if (h6.1 36 10) = 0 then (some (0, h6)) else (bd (rd h6 42 48 0) fun r9 => if r9 = 79 then (Lt (hset h6 36 11 1) fun h10 => loop1 mrB 400 h10) else (some (0, h6))))) 400 0 h4 := rfl
theorem M_rdP (T : Nat → Int32) (len : Nat) : ∀ d i (s : Nat × Nat × (Nat → Int32) × (Nat → Int32)) h fuel, len < i + 3 * d → i ≤ len → d + 1 < fuel → MS h T len i s → PS s.2.2.1 s.1 s.2.1 →
    ∃ h', loop1 mrB fuel h = some ((rdP T len d i s).1, h') ∧ OMR h h' ∧ ((rdP T len d i s).1 = -9 → MS h' T len len (rdP T len d i s).2 ∧ PS (rdP T len d i s).2.2.2.1 (rdP T len d i s).2.1 (rdP T len d i s).2.2.1) := by
  intro d
  induction d with
  | zero => intro i s h fuel h1 h2; omega
  | succ d ih =>
    intro i s h fuel h1 h2 hf S P
    obtain ⟨n, m, f, hl⟩ := s
    obtain ⟨fuel, rfl⟩ : ∃ t, fuel = t + 2 := ⟨fuel - 2, by omega⟩
    have l48 := S.1.2.1
    show ∃ h', mrB (loop1 mrB (fuel + 1)) h = _ ∧ _
    unfold mrB
    rw [if_pos S.2.2.1, S.2.1, S.1.1]
    by_cases q : i < len
    · rw [if_pos (nI_lt q (by omega)), rd_nI _ _ (by omega) (by omega), bd_s, S.1.2.2 i q]
      obtain ⟨g, eg, Og, X⟩ := M_step S P q
      rw [eg, bd_s]
      rcases X with ⟨a, ha, ea, er⟩ | ⟨s', q2, S', P', er⟩
      · show ∃ h', mrB (loop1 mrB fuel) g = _ ∧ _
        unfold mrB
        have n9 : ¬ nI a = -9 := nI9 (by omega)
        rw [ea, if_neg n9, er d]
        exact ⟨g, rfl, Og, fun z => absurd z n9⟩
      · rw [er d]
        obtain ⟨h', e', O', X'⟩ := ih (i + 3) s' g (fuel + 1) (by omega) (by omega) (by omega) S' P'
        exact ⟨h', e', Og.tr O', X'⟩
    · rw [if_neg (nI_nlt (by omega) (by omega)), S.2.2.1]
      have e : rdP T len (d + 1) i (n, m, f, hl) = (-9, (n, m, f, hl)) := by
        rw [rdP, if_neg q]
      rw [e]
      have il : i = len := by omega
      subst il
      exact ⟨h, rfl, ⟨fun _ _ _ _ => rfl, rfl⟩, fun _ => ⟨S, P⟩⟩
def z41 (h : HS) (i : Nat) : HS := cpH h 41 0 (fun _ => 0) i
theorem M_read {h : HS} {T : Nat → Int32} {len : Nat} (L : MT h T len) : ∃ h', f_X5_readText h = some ((rdR T len).1, h') ∧ OMR h h' ∧ ((rdR T len).1 = -9 → MS h' T len len (rdR T len).2 ∧ PS (rdR T len).2.2.2.1 (rdR T len).2.1 (rdR T len).2.2.1) := by
  have l48 := L.2.1
  rw [X5_text_e, Lt_e, Lt_e, Lt_e, Lt_e]
  have O1 : OMR h (hset (hset (hset (hset h 36 11 0) 36 12 (-9)) 36 7 0) 36 8 0) := ((OMR.set (by omega)).tr (OMR.set (by omega))).tr ((OMR.set (by omega)).tr (OMR.set (by omega)))
  have a12 : (hset (hset (hset (hset h 36 11 0) 36 12 (-9)) 36 7 0) 36 8 0).1 36 12 = -9 := by rw [hs_o _ _ (by omega), hs_o _ _ (by omega), hs_s]
  have a7 : (hset (hset (hset (hset h 36 11 0) 36 12 (-9)) 36 7 0) 36 8 0).1 36 7 = nI 0 := by rw [hs_o _ _ (by omega), hs_s, nI_0]
  have a8 : (hset (hset (hset (hset h 36 11 0) 36 12 (-9)) 36 7 0) 36 8 0).1 36 8 = nI 0 := by rw [hs_s, nI_0]
  generalize hset (hset (hset (hset h 36 11 0) 36 12 (-9)) 36 7 0) 36 8 0 = g at O1 a12 a7 a8
  have O2 : OMR h (cpH g 41 0 (fun _ => 0) 6) := O1.tr ⟨fun b k z1 z2 => cp_o _ _ (by omega), rfl⟩
  have Lg := L.omr O2
  have g36 : ∀ k, (cpH g 41 0 (fun _ => 0) 6).1 36 k = g.1 36 k := fun k => cp_o _ _ (by omega)
  have key : ∃ h', (if ((cpH g 41 0 (fun _ => 0) 6).1 36 10) = 0 then (some (0, cpH g 41 0 (fun _ => 0) 6)) else (bd (rd (cpH g 41 0 (fun _ => 0) 6) 42 48 0) fun r9 => if r9 = 79 then (Lt (hset (cpH g 41 0 (fun _ => 0) 6) 36 11 1) fun h10 => loop1 mrB 400 h10) else (some (0, cpH g 41 0 (fun _ => 0) 6)))) = some ((rdR T len).1, h') ∧ OMR h h' ∧ ((rdR T len).1 = -9 → MS h' T len len (rdR T len).2 ∧ PS (rdR T len).2.2.2.1 (rdR T len).2.1 (rdR T len).2.2.1) := by
    unfold rdR
    rw [Lg.1]
    by_cases q : len = 0
    · rw [if_pos q, if_pos (by rw [q]; exact nI_0)]
      exact ⟨_, rfl, O2, fun z => absurd z (by decide)⟩
    · rw [if_neg q, if_neg (nI_ne0 (by omega) (by omega))]
      have e0 : rd (cpH g 41 0 (fun _ => 0) 6) 42 48 0 = some (T 0) := by
        have := rd_nI (cpH g 41 0 (fun _ => 0) 6) 42 (j := 0) (n := 48) (by omega) (by omega)
        rw [nI_0] at this
        rw [this, Lg.2.2 0 (by omega)]
      rw [e0, bd_s]
      by_cases q2 : T 0 = 79
      · rw [if_pos q2, if_pos q2, Lt_e]
        have O3 := O2.tr (OMR.set (h := cpH g 41 0 (fun _ => 0) 6) (c := 36) (k := 11) (v := 1) (by omega))
        have S0 : MS (hset (cpH g 41 0 (fun _ => 0) 6) 36 11 1) T len 1 s00 := by
          refine ⟨L.omr O3, ?_, ?_, ?_, ?_, fun p hp => ?_, fun p hp => absurd hp (Nat.not_lt_zero p), fun j hj => absurd hj (Nat.not_lt_zero j), fun p _ _ => ?_⟩
          · rw [hs_s, one_nI]
          · rw [hs_o _ _ (by omega), g36]; exact a12
          · rw [hs_o _ _ (by omega), g36]; exact a7
          · rw [hs_o _ _ (by omega), g36]; exact a8
          · have := cp_i g (b := 41) (t := 0) (fun _ => 0) hp
            rw [Nat.zero_add] at this
            rw [hs_o _ _ (by omega), this]
            exact (if_neg (by omega)).symm
          · show bt (f00 0) p = false
            rw [show f00 0 = 0 from if_neg (by omega), bt_0]
        obtain ⟨h', e', O', X'⟩ := M_rdP T len 16 1 s00 _ 400 (by omega) (by omega) (by omega) S0 PS00
        exact ⟨h', e', O3.tr O', X'⟩
      · rw [if_neg q2, if_neg q2]
        exact ⟨_, rfl, O2, fun z => absurd z (by decide)⟩
  obtain ⟨h', e', O', X'⟩ := key
  refine ⟨h', ?_, O', X'⟩
  have e := fin2 (body := fun rec7 (i5 : Int32) (h6 : HS) => if i5 < 6 then (bd (wr h6 41 6 i5 0) fun h17 => rec7 (i5 + 1) h17) else (if (h6.1 36 10) = 0 then (some (0, h6)) else (bd (rd h6 42 48 0) fun r9 => if r9 = 79 then (Lt (hset h6 36 11 1) fun h10 => loop1 mrB 400 h10) else (some (0, h6))))) (res := some ((rdR T len).1, h')) (fun i => nI i) (fun i => cpH g 41 0 (fun _ => 0) i) 6 (fun rec i hi => by
    rw [L6, if_pos (nI_lt hi (by omega)), wr_nI _ _ _ (by omega) (by omega), bd_s, nI_p1]
    have := cp_s g 41 0 (fun _ => 0) i
    rw [Nat.zero_add] at this
    rw [this]) (fun rec => by
    rw [L6, if_neg (nI_nlt (by omega) (by omega)), e']) 400 0 (by omega) (by omega)
  rw [cp_0] at e
  exact e
theorem both_LT {h : HS} (T : TX h) : ∃ len, LT h (h.1 2) len ∧ MT h (h.1 2) len := by
  obtain ⟨len, t1, t2, t3, t4⟩ := T
  exact ⟨len, ⟨t1, t3, fun j hj => rfl⟩, ⟨t2, t3, fun j hj => (t4 j hj).symm⟩⟩
theorem st_fault {h : HS} (I : IV h) : St (fun h => f_X4_fault h) (fun h => f_X5_fault h) h := by
  obtain ⟨n, m, I'⟩ := id I
  obtain ⟨len, LC, LM⟩ := both_LT I'.2.2.2.1
  obtain ⟨h1, e1, O1, -⟩ := C_read LC
  have LM1 : MT h1 (h.1 2) len := ⟨by rw [O1.1 _ _ (by omega)]; exact LM.1, LM.2.1, fun j hj => by rw [O1.1 _ _ (by omega)]; exact LM.2.2 j hj⟩
  obtain ⟨h2, e2, O2, -⟩ := M_read LM1
  refine ⟨(rdR (h.1 2) len).1, h1, h2, ?_, ?_, n, m, (I'.mv O1.sq).mv O2.sq⟩
  · show f_X4_fault h = _
    unfold f_X4_fault
    rw [e1, bd2_s]
  · show f_X5_fault h1 = _
    unfold f_X5_fault
    rw [e2, bd2_s]
