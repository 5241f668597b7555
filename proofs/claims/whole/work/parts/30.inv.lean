/-! what stands between two doings of the law -/
def Ag (P : Nat → Nat → Prop) (h h' : HS) : Prop := ∀ b k, P b k → h'.1 b k = h.1 b k
def sn (h : HS) (x c i : Nat) : Nat → Int32 := fun k => if i < c then h.1 43 (23 * ((x + 14 - c + i) % 14) + k) else h.1 38 k
/-- f is g with one act taken back -/
def UN (n m : Nat) (w a b : Int32) (g f : Nat → Int32) : Prop := FR f n m ∧ (
  (w = 1 ∧ ∃ p j, p < n ∧ j < m ∧ a = nI p ∧ b = nI j ∧ ∀ k, k < 23 → f k = unF g p j k) ∨
  (w = 3 ∧ ∃ p, p < n ∧ a = nI p ∧ (b = 0 ∨ b = 1 ∨ b = 2 ∨ b = 3) ∧ ∀ k, k < 23 → f k = reF g p b k) ∨
  (w ≠ 1 ∧ w ≠ 3 ∧ ∃ j, j < m ∧ a = nI j ∧ ∀ k, k < 23 → f k = knF g j b k))
def ACx (h : HS) (n m x c : Nat) : Prop := (x < 14 ∧ c ≤ 14 ∧ h.1 27 3 = nI c ∧ h.1 36 13 = nI c ∧ h.1 36 14 = nI x) ∧
  ∀ i, i < c → UN n m (h.1 28 i) (h.1 29 i) (h.1 30 i) (sn h x c (i + 1)) (sn h x c i)
def AC (h : HS) (n m : Nat) : Prop := ∃ x c, ACx h n m x c
def TX (h : HS) : Prop := ∃ len, h.1 1 1 = nI len ∧ h.1 36 10 = nI len ∧ len ≤ 48 ∧ ∀ j, j < len → h.1 2 j = h.1 42 j
def KP (h : HS) (n m : Nat) : Prop := ∀ s, s < 2 → bt (h.1 0 5) s = decide (h.1 48 s ≠ 0) ∧
  (h.1 48 s ≠ 0 → CR h (15 + 6 * s) (fun k => h.1 49 (23 * s + k)) (h.1 37) n m ∧ FR (fun k => h.1 49 (23 * s + k)) n m)
def Inv (h : HS) (n m : Nat) : Prop := Base h n m ∧ AC h n m ∧ (∃ q, HD h q) ∧ TX h ∧ KP h n m ∧ h.2 0 = h.2 36
def IV (h : HS) : Prop := ∃ n m, Inv h n m
def St {R : Type} (f4 f5 : HS → Option (R × HS)) (h : HS) : Prop := ∃ r h1 h2, f4 h = some (r, h1) ∧ f5 h1 = some (r, h2) ∧ IV h2
theorem CR_hl {h : HS} {a : Nat} {f hl hl' : Nat → Int32} {n m : Nat} (H : CR h a f hl n m) (e : ∀ k, k < 8 → hl' k = hl k) : CR h a f hl' n m := by
  obtain ⟨⟨hn, hm, h6, h4⟩, he, hk, hw, hkn, hfi, hh⟩ := H
  refine ⟨⟨hn, hm, h6, h4⟩, he, hk, hw, hkn, hfi, fun j hj => ?_⟩
  rw [e _ (by omega), e _ (by omega)]
  exact hh j hj
theorem Base.mv {h h' : HS} {n m : Nat} (B : Base h n m) (e : Ag (fun b k => (3 ≤ b ∧ b ≤ 8) ∨ b = 37 ∨ (b = 38 ∧ k < 23) ∨ (b = 36 ∧ k < 2)) h h') : Base h' n m := by
  obtain ⟨H, hF, hn, hm⟩ := B
  have h6 := H.1.2.2.1
  have ek : ∀ k, k < 23 → lvf h' 0 k = lvf h 0 k := fun k hk => by
    rw [lv0, lv0]; exact e _ _ (by omega)
  refine ⟨CR_hl (CR_congr (CR_move H (fun b k hb => e _ _ (by omega))) ek) (fun k hk => e _ _ (by omega)), FR_congr h6 hF ek, ?_, ?_⟩
  · rw [e _ _ (by omega)]; exact hn
  · rw [e _ _ (by omega)]; exact hm
theorem UN_congr {n m : Nat} {w a b : Int32} {g f g' f' : Nat → Int32} (n6 : n ≤ 6) (m4 : m ≤ 4) (H : UN n m w a b g f) (eg : ∀ k, k < 23 → g' k = g k) (ef : ∀ k, k < 23 → f' k = f k) : UN n m w a b g' f' := by
  have eu : ∀ (i j : Nat) (v v' : Int32), (i < 23 → v = v') → j < 23 → upd g' i v j = upd g i v' j := by
    intro i j v v' hv hj
    unfold upd
    by_cases q : j = i
    · rw [if_pos q, if_pos q]; exact hv (by omega)
    · rw [if_neg q, if_neg q]; exact eg j hj
  refine ⟨FR_congr n6 H.1 ef, ?_⟩
  rcases H.2 with ⟨h1, p, j, hp, hj, ea, eb, hk⟩ | ⟨h1, p, hp, ea, eb, hk⟩ | ⟨h1, h2, j, hj, ea, hk⟩
  · refine Or.inl ⟨h1, p, j, hp, hj, ea, eb, fun k hk2 => ?_⟩
    rw [ef k hk2, hk k hk2]
    unfold unF
    rw [eg _ (by omega)]
    exact (eu _ _ _ _ (fun _ => rfl) hk2).symm
  · refine Or.inr (Or.inl ⟨h1, p, hp, ea, eb, fun k hk2 => ?_⟩)
    rw [ef k hk2, hk k hk2]
    unfold reF
    rw [eg _ (by omega : 17 + p < 23), eg 0 (by omega)]
    by_cases q : k = 17 + p
    · subst q; rw [upd_s, upd_s]
    · rw [upd_n _ _ q, upd_n _ _ q]
      by_cases q2 : b = 2
      · rw [if_pos q2, if_pos q2]
        exact (eu _ _ _ _ (fun _ => rfl) hk2).symm
      · rw [if_neg q2, if_neg q2]
        exact (eu _ _ _ _ (fun _ => rfl) hk2).symm
  · refine Or.inr (Or.inr ⟨h1, h2, j, hj, ea, fun k hk2 => ?_⟩)
    rw [ef k hk2, hk k hk2]
    exact (eu _ _ _ _ (fun _ => rfl) hk2).symm
theorem AC.mv {h h' : HS} {n m : Nat} (n6 : n ≤ 6) (m4 : m ≤ 4) (A : AC h n m) (e : Ag (fun b k => (b = 27 ∧ k = 3) ∨ (28 ≤ b ∧ b ≤ 30) ∨ b = 43 ∨ (b = 38 ∧ k < 23) ∨ (b = 36 ∧ (k = 13 ∨ k = 14))) h h') : AC h' n m := by
  obtain ⟨x, c, ⟨x14, c14, e1, e2, e3⟩, H⟩ := A
  have es : ∀ i k, k < 23 → sn h' x c i k = sn h x c i k := fun i k hk => by
    unfold sn
    by_cases q : i < c
    · rw [if_pos q, if_pos q]; exact e _ _ (by omega)
    · rw [if_neg q, if_neg q]; exact e _ _ (by omega)
  refine ⟨x, c, ⟨x14, c14, ?_, ?_, ?_⟩, fun i hi => ?_⟩
  · rw [e _ _ (by omega)]; exact e1
  · rw [e _ _ (by omega)]; exact e2
  · rw [e _ _ (by omega)]; exact e3
  · rw [e _ _ (by omega), e _ _ (by omega), e _ _ (by omega)]
    exact UN_congr n6 m4 (H i hi) (es _) (es _)
theorem HD.mv {h h' : HS} {q : Nat} (H : HD h q) (e : Ag (fun b k => (b = 31 ∧ k = 3) ∨ (32 ≤ b ∧ b ≤ 34) ∨ (45 ≤ b ∧ b ≤ 47) ∨ (b = 36 ∧ k = 17)) h h') : HD h' q := by
  obtain ⟨⟨h1, h2, h3⟩, h4⟩ := H
  refine ⟨⟨?_, ?_, h3⟩, fun k hk => ?_⟩
  · rw [e _ _ (by omega)]; exact h1
  · rw [e _ _ (by omega)]; exact h2
  · rw [e _ _ (by omega), e _ _ (by omega), e _ _ (by omega), e _ _ (by omega), e _ _ (by omega), e _ _ (by omega)]; exact h4 k hk
theorem TX.mv {h h' : HS} (H : TX h) (e : Ag (fun b k => (b = 1 ∧ k = 1) ∨ b = 2 ∨ b = 42 ∨ (b = 36 ∧ k = 10)) h h') : TX h' := by
  obtain ⟨len, h1, h2, h3, h4⟩ := H
  refine ⟨len, ?_, ?_, h3, fun j hj => ?_⟩
  · rw [e _ _ (by omega)]; exact h1
  · rw [e _ _ (by omega)]; exact h2
  · rw [e _ _ (by omega), e _ _ (by omega)]; exact h4 j hj
theorem KP.mv {h h' : HS} {n m : Nat} (H : KP h n m) (e : Ag (fun b k => (b = 0 ∧ k = 5) ∨ (15 ≤ b ∧ b ≤ 26) ∨ b = 37 ∨ b = 48 ∨ b = 49) h h') : KP h' n m := by
  intro s hs
  obtain ⟨h1, h2⟩ := H s hs
  rw [e _ _ (by omega), e _ _ (by omega)]
  refine ⟨h1, fun q => ?_⟩
  obtain ⟨h3, h4⟩ := h2 q
  have ek : ∀ k, k < 23 → (fun k => h'.1 49 (23 * s + k)) k = (fun k => h.1 49 (23 * s + k)) k := fun k hk => e _ _ (by omega)
  exact ⟨CR_hl (CR_congr (CR_move h3 (fun b k hb => e _ _ (by omega))) ek) (fun k hk => e _ _ (by omega)), FR_congr h3.1.2.2.1 h4 ek⟩
/-- cells that are written anew before they are read -/
def SCR (b k : Nat) : Prop := (9 ≤ b ∧ b ≤ 14) ∨ b = 35 ∨ (36 = b ∧ (k = 7 ∨ k = 8 ∨ k = 11 ∨ k = 12)) ∨ (b = 38 ∧ 23 ≤ k) ∨ (39 ≤ b ∧ b ≤ 41) ∨ b = 44
def Sq (h h' : HS) : Prop := (∀ b k, ¬ SCR b k → h'.1 b k = h.1 b k) ∧ h'.2 = h.2
theorem Sq.tr {h1 h2 h3 : HS} (x : Sq h1 h2) (y : Sq h2 h3) : Sq h1 h3 := ⟨fun b k hb => (y.1 b k hb).trans (x.1 b k hb), y.2.trans x.2⟩
theorem Sq.rf (h : HS) : Sq h h := ⟨fun _ _ _ => rfl, rfl⟩
theorem Inv.mv {h h' : HS} {n m : Nat} (I : Inv h n m) (S : Sq h h') : Inv h' n m := by
  obtain ⟨B, A, ⟨q, H⟩, T, K, s⟩ := I
  have h6 := B.1.1.2.2.1
  have h4 := B.1.1.2.2.2
  refine ⟨B.mv fun b k hb => S.1 b k ?_, A.mv h6 h4 fun b k hb => S.1 b k ?_, ⟨q, H.mv fun b k hb => S.1 b k ?_⟩, T.mv fun b k hb => S.1 b k ?_, K.mv fun b k hb => S.1 b k ?_, by rw [S.2]; exact s⟩ <;> (unfold SCR; omega)
theorem Inv.s0 {h : HS} {n m : Nat} (I : Inv h n m) : h.2 0 = h.2 36 := I.2.2.2.2.2
/-! text -/
theorem st_wipe {h : HS} (I : IV h) : St (fun h => f_X4_wipe h) (fun h => f_X5_wipe h) h := by
  obtain ⟨n, m, B, A, ⟨q, H⟩, T, K, s⟩ := I
  have h6 := B.1.1.2.2.1
  have h4 := B.1.1.2.2.2
  obtain ⟨len, t1, t2, t3, t4⟩ := T
  refine ⟨h.1 1 1, hset h 1 1 0, hset (hset h 1 1 0) 36 10 0, rfl, ?_, n, m, ?_⟩
  · show f_X5_wipe _ = _
    unfold f_X5_wipe
    simp only [Lt_e]
    rw [hs_o _ _ (by omega), t2, t1]
  · refine ⟨B.mv fun b k hb => ?_, A.mv h6 h4 fun b k hb => ?_, ⟨q, H.mv fun b k hb => ?_⟩, ⟨0, ?_, ?_, by omega, fun j hj => by omega⟩, K.mv fun b k hb => ?_, s⟩
    · rw [hs_o _ _ (by omega), hs_o _ _ (by omega)]
    · rw [hs_o _ _ (by omega), hs_o _ _ (by omega)]
    · rw [hs_o _ _ (by omega), hs_o _ _ (by omega)]
    · rw [hs_o _ _ (by omega), hs_s]; rfl
    · rw [hs_s]; rfl
    · rw [hs_o _ _ (by omega), hs_o _ _ (by omega)]
theorem in_n255 (h : HS) (p : Int32) : f_X5_in h (Int32.toInt64 p) 0 255 = some (inB p 256) := in_n h p 255 (t := 255) (by decide)
theorem st_write {h : HS} (I : IV h) (p : Int32) : St (fun h => f_X4_write h p) (fun h => f_X5_write h p) h := by
  obtain ⟨n, m, B, A, ⟨q, H⟩, T, K, s⟩ := id I
  have h6 := B.1.1.2.2.1
  have h4 := B.1.1.2.2.2
  obtain ⟨len, t1, t2, t3, t4⟩ := T
  unfold St f_X4_write f_X5_write
  simp only [in_n255, bd_s]
  rcases nI_rng p 256 (by omega) with ⟨v, hv, rfl⟩ | hz
  · rw [inB_nI hv (by omega), if_neg (nI_pos (by omega)), show (255 : Int32) = nI 255 by decide +kernel, if_neg (nI_nlt (by omega) (by omega))]
    unfold f_X3_add
    rw [t1, if_neg (nI_pos (by omega))]
    by_cases ql : len < 48
    · rw [show (48 : Int32) = nI 48 by decide +kernel, if_pos (nI_lt ql (by omega)), wr_nI _ _ _ (by omega) (by omega), bd_s, Lt_e, hs_o _ _ (by omega), t1, nI_p1, bd2_s, if_pos rfl, hs_s]
      refine ⟨_, _, hset (hset (hset (hset h 2 len (nI v)) 1 1 (nI (len + 1))) 42 len (nI v)) 36 10 (nI (len + 1)), rfl, ?_, n, m, ?_⟩
      · rw [if_pos rfl, hs_o _ _ (by omega), hs_o _ _ (by omega), t2, if_neg (fun z => by have := (nI_eq (by omega) (by omega)).mp z; omega), wr_nI _ _ _ (by omega) (by omega), bd_s, Lt_e, hs_s, hs_o _ _ (by omega), hs_o _ _ (by omega), hs_o _ _ (by omega), t2, nI_p1]
      · refine ⟨B.mv fun b k hb => ?_, A.mv h6 h4 fun b k hb => ?_, ⟨q, H.mv fun b k hb => ?_⟩, ⟨len + 1, ?_, ?_, by omega, fun j hj => ?_⟩, K.mv fun b k hb => ?_, s⟩
        · rw [hs_o _ _ (by omega), hs_o _ _ (by omega), hs_o _ _ (by omega), hs_o _ _ (by omega)]
        · rw [hs_o _ _ (by omega), hs_o _ _ (by omega), hs_o _ _ (by omega), hs_o _ _ (by omega)]
        · rw [hs_o _ _ (by omega), hs_o _ _ (by omega), hs_o _ _ (by omega), hs_o _ _ (by omega)]
        · rw [hs_o _ _ (by omega), hs_o _ _ (by omega), hs_s]
        · rw [hs_s]
        · by_cases e : j = len
          · subst e
            rw [hs_o _ _ (by omega), hs_o _ _ (by omega), hs_o _ _ (by omega), hs_s, hs_o _ _ (by omega), hs_s]
          · rw [hs_o _ _ (by omega), hs_o _ _ (by omega), hs_o _ _ (by omega), hs_o _ _ (by omega), hs_o _ _ (by omega), hs_o _ _ (by omega), hs_o _ _ (by omega), hs_o _ _ (by omega)]
            exact t4 j (by omega)
        · rw [hs_o _ _ (by omega), hs_o _ _ (by omega), hs_o _ _ (by omega), hs_o _ _ (by omega)]
    · rw [show (48 : Int32) = nI 48 by decide +kernel, if_neg (nI_nlt (by omega) (by omega)), bd2_s, if_neg (by decide)]
      refine ⟨-4, h, h, rfl, ?_, I⟩
      rw [if_pos rfl, t2, if_pos (by rw [show len = 48 by omega])]
  · have e : inB p 256 = false := by unfold inB; exact dFF hz
    rw [e]
    refine ⟨-2, h, h, ?_, if_neg (by decide), I⟩
    by_cases c1 : p < 0
    · rw [if_pos c1]
    · rw [if_neg c1, if_pos]
      rw [Int32.lt_iff_toInt_lt] at c1
      rw [Int32.toInt_zero] at c1
      rw [Int32.lt_iff_toInt_lt, show (255 : Int32).toInt = 255 by decide]
      omega
