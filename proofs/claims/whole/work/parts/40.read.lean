/-! the Court that is being read -/
def PS (f : Nat → Int32) (n m : Nat) : Prop := FR f n m ∧ n ≤ 6 ∧ m ≤ 4 ∧ (∀ p, n ≤ p → p < 6 → f (7 + p) = 0 ∧ f (1 + p) = 0) ∧ (∀ j, j < 4 → f (13 + j) = -9) ∧ (∀ p, p < 6 → f (17 + p) = 0)
def adF (f : Nat → Int32) (n : Nat) (b : Bool) (k : Int32) : Nat → Int32 := upd (upd f 0 (if b = true then f 0 ||| (1 <<< (nI n &&& 31)) else f 0)) (1 + n) k
def adL (hl : Nat → Int32) (m : Nat) (l r : Int32) : Nat → Int32 := upd (upd hl m l) (4 + m) r
theorem PS_ad {f : Nat → Int32} {n m : Nat} (P : PS f n m) (hn : n < 6) (b : Bool) {k : Int32} (hk : k = 0 ∨ k = 1 ∨ k = 2 ∨ k = 3) : PS (adF f n b k) (n + 1) m := by
  obtain ⟨⟨F1, F2⟩, n6, m4, z, kn, fi⟩ := P
  unfold adF
  refine ⟨⟨fun p hp => ?_, fun p hp j hj => ?_⟩, by omega, m4, fun p h1 h2 => ⟨?_, ?_⟩, fun j hj => ?_, fun p hp => ?_⟩
  · by_cases e : p = n
    · subst e; rw [upd_s]; exact hk
    · rw [upd_n _ _ (by omega), upd_n _ _ (by omega)]; exact F1 p (by omega)
  · rw [upd_n _ _ (by omega), upd_n _ _ (by omega)]
    by_cases e : p = n
    · subst e; rw [(z p (by omega) hn).1, bt_0]
    · exact F2 p (by omega) j hj
  · rw [upd_n _ _ (by omega), upd_n _ _ (by omega)]; exact (z p (by omega) h2).1
  · rw [upd_n _ _ (by omega), upd_n _ _ (by omega)]; exact (z p (by omega) h2).2
  · rw [upd_n _ _ (by omega), upd_n _ _ (by omega)]; exact kn j hj
  · rw [upd_n _ _ (by omega), upd_n _ _ (by omega)]; exact fi p hp
theorem PS_m {f : Nat → Int32} {n m : Nat} (P : PS f n m) (hm : m < 4) : PS f n (m + 1) := by
  obtain ⟨⟨F1, F2⟩, n6, m4, z, kn, fi⟩ := P
  exact ⟨⟨F1, fun p hp j hj => F2 p hp j (by omega)⟩, n6, by omega, z, kn, fi⟩
theorem PS_sh {f : Nat → Int32} {n m p j : Nat} (P : PS f n m) (hp : p < n) (hj : j < m) : PS (shF f p j) n m := by
  obtain ⟨F, n6, m4, z, kn, fi⟩ := P
  refine ⟨FR_sh n6 F hp hj m4, n6, m4, fun q h1 h2 => ?_, fun i hi => ?_, fun q hq => ?_⟩
  · unfold shF; rw [upd_n _ _ (by omega), upd_n _ _ (by omega)]; exact z q h1 h2
  · unfold shF; rw [upd_n _ _ (by omega)]; exact kn i hi
  · unfold shF; rw [upd_n _ _ (by omega)]; exact fi q hq
theorem C_addMatter {h : HS} {f hl : Nat → Int32} {n m : Nat} (H : CR h 9 f hl n m) (P : PS f n m) (hm : m < 4) (l r : Int32) : ∃ h', f_X1_addMatter h 9 l r = some (true, h') ∧ CR h' 9 f (adL hl m l r) n (m + 1) ∧ Oc 9 h h' := by
  obtain ⟨⟨F1, F2⟩, n6, m4, z, kn, fi⟩ := P
  obtain ⟨⟨hn, hm0, h6, h4⟩, he, hk, hw, hkn, hfi, hh⟩ := H
  unfold f_X1_addMatter
  rw [hm0, if_neg (nI_pos (by omega)), L4, if_pos (nI_lt hm (by omega)), wr_nI _ _ _ (by omega) (by omega), bd_s, hs_o _ _ (by omega), hm0, wr_nI _ _ _ (by omega) (by omega), bd_s, hs_o _ _ (by omega), hs_o _ _ (by omega), hm0, wr_nI _ _ _ (by omega) (by omega), bd_s, hs_o _ _ (by omega), hs_o _ _ (by omega), hs_o _ _ (by omega), hm0, wr_nI _ _ _ (by omega) (by omega), bd_s, Lt_e, hs_o _ _ (by omega), hs_o _ _ (by omega), hs_o _ _ (by omega), hs_o _ _ (by omega), hm0, nI_p1]
  refine ⟨_, rfl, ?_, (Oc.set (by omega)).tr ((Oc.set (by omega)).tr ((Oc.set (by omega)).tr ((Oc.set (by omega)).tr (Oc.set (by omega)))))⟩
  refine ⟨⟨?_, ?_, h6, by omega⟩, ?_, fun q hq => ?_, fun i hi k hk2 => ?_, fun i hi => ?_, fun q hq => ?_, fun i hi => ?_⟩
  · rw [hs_o _ _ (by omega), hs_o _ _ (by omega), hs_o _ _ (by omega), hs_o _ _ (by omega), hs_o _ _ (by omega)]; exact hn
  · rw [hs_s]
  · rw [hs_o _ _ (by omega), hs_o _ _ (by omega), hs_o _ _ (by omega), hs_o _ _ (by omega), hs_o _ _ (by omega)]; exact he
  · rw [hs_o _ _ (by omega), hs_o _ _ (by omega), hs_o _ _ (by omega), hs_o _ _ (by omega), hs_o _ _ (by omega), hs_o _ _ (by omega), hs_o _ _ (by omega), hs_o _ _ (by omega), hs_o _ _ (by omega), hs_o _ _ (by omega), hs_o _ _ (by omega), hs_o _ _ (by omega), hs_o _ _ (by omega), hs_o _ _ (by omega), hs_o _ _ (by omega)]; exact hk q hq
  · rw [hs_o _ _ (by omega), hs_o _ _ (by omega), hs_o _ _ (by omega), hs_o _ _ (by omega)]
    by_cases e : i = m
    · subst e
      rw [hs_s, bt_0]
      by_cases q : k < n
      · rw [F2 k q i (by omega), Bool.and_false]
      · rw [decide_eq_false q, Bool.false_and]
    · rw [hs_o _ _ (by omega)]; exact hw i (by omega) k hk2
  · rw [hs_o _ _ (by omega)]
    by_cases e : i = m
    · subst e; rw [hs_s]; exact (kn i hm).symm
    · rw [hs_o _ _ (by omega), hs_o _ _ (by omega), hs_o _ _ (by omega), hs_o _ _ (by omega)]; exact hkn i (by omega)
  · rw [hs_o _ _ (by omega), hs_o _ _ (by omega), hs_o _ _ (by omega), hs_o _ _ (by omega), hs_o _ _ (by omega)]; exact hfi q hq
  · unfold adL
    by_cases e : i = m
    · subst e
      rw [upd_s, upd_n _ _ (by omega), upd_s, hs_o _ _ (by omega), hs_o _ _ (by omega), hs_o _ _ (by omega), hs_s, hs_o _ _ (by omega), hs_o _ _ (by omega), hs_s]
      exact ⟨rfl, rfl⟩
    · rw [hs_o _ _ (by omega), hs_o _ _ (by omega), hs_o _ _ (by omega), hs_o _ _ (by omega), hs_o _ _ (by omega), hs_o _ _ (by omega), hs_o _ _ (by omega), hs_o _ _ (by omega), hs_o _ _ (by omega), hs_o _ _ (by omega), upd_n _ _ (by omega), upd_n _ _ (by omega), upd_n _ _ (by omega), upd_n _ _ (by omega)]
      exact hh i (by omega)
theorem C_addK {h : HS} {f hl : Nat → Int32} {n m : Nat} (H : CR h 9 f hl n m) (hn6 : n < 6) (z7 : f (7 + n) = 0) (z17 : f (17 + n) = 0) (k : Int32) : ∃ h', (bd (f_X1_setKind h 9 (1 <<< (nI n &&& 31)) k) fun h6 => bd (wr h6 (9 + 5) 6 (h6.1 9 0) 0) fun h7 => Lt (hset h7 9 0 ((h7.1 9 0) + 1)) fun h8 => some (true, h8)) = some (true, h') ∧ CR h' 9 (upd f (1 + n) k) hl (n + 1) m ∧ Oc 9 h h' := by
  obtain ⟨⟨hn, hm0, h6, h4⟩, he, hk, hw, hkn, hfi, hh⟩ := H
  rw [X1_setKind h 9 n k, bd_s, hs_o _ _ (by omega), hs_o _ _ (by omega), hs_o _ _ (by omega), hn, wr_nI _ _ _ (by omega) (by omega), bd_s, Lt_e, hs_o _ _ (by omega), hs_o _ _ (by omega), hs_o _ _ (by omega), hs_o _ _ (by omega), hn, nI_p1]
  refine ⟨_, rfl, ?_, (Oc.set (by omega)).tr ((Oc.set (by omega)).tr ((Oc.set (by omega)).tr ((Oc.set (by omega)).tr (Oc.set (by omega)))))⟩
  refine ⟨⟨?_, ?_, by omega, h4⟩, ?_, fun q hq => ?_, fun i hi k hk2 => ?_, fun i hi => ?_, fun q hq => ?_, fun i hi => ?_⟩
  · rw [hs_s]
  · rw [hs_o _ _ (by omega), hs_o _ _ (by omega), hs_o _ _ (by omega), hs_o _ _ (by omega), hs_o _ _ (by omega)]; exact hm0
  · rw [hs_o _ _ (by omega), hs_o _ _ (by omega), hs_o _ _ (by omega), hs_o _ _ (by omega), hs_o _ _ (by omega), upd_n _ _ (by omega)]; exact he
  · rw [hs_o _ _ (show 9 ≠ 9 ∨ 3 ≠ 0 by omega), hs_o _ _ (show 9 ≠ 9 + 5 ∨ 3 ≠ n by omega), hs_o _ _ (show 9 ≠ 9 ∨ 3 ≠ 5 by omega), hs_o _ _ (show 9 ≠ 9 ∨ 3 ≠ 4 by omega), hs_s, hs_o _ _ (show 9 ≠ 9 ∨ 4 ≠ 0 by omega), hs_o _ _ (show 9 ≠ 9 + 5 ∨ 4 ≠ n by omega), hs_o _ _ (show 9 ≠ 9 ∨ 4 ≠ 5 by omega), hs_s, hs_o _ _ (show 9 ≠ 9 ∨ 5 ≠ 0 by omega), hs_o _ _ (show 9 ≠ 9 + 5 ∨ 5 ≠ n by omega), hs_s]
    have e1 := bt_kset (h.1 9 3) (p := n) (i := q) (by omega) (by omega) (decide (k = 1))
    have e2 := bt_kset (h.1 9 4) (p := n) (i := q) (by omega) (by omega) (decide (k = 2))
    have e3 := bt_kset (h.1 9 5) (p := n) (i := q) (by omega) (by omega) (decide (k = 3))
    simp only [decide_eq_true_eq] at e1 e2 e3
    rw [e1, e2, e3]
    by_cases e : q = n
    · subst e
      rw [upd_s, if_pos rfl, if_pos rfl, if_pos rfl]
      exact ⟨rfl, rfl, rfl⟩
    · rw [upd_n _ _ (by omega), if_neg e, if_neg e, if_neg e]
      exact hk q (by omega)
  · rw [hs_o _ _ (by omega), hs_o _ _ (by omega), hs_o _ _ (by omega), hs_o _ _ (by omega), hs_o _ _ (by omega), hw i hi k hk2, upd_n _ _ (by omega)]
    by_cases q : k = n
    · subst q
      rw [z7, bt_0, Bool.and_false, Bool.and_false]
    · rw [show decide (k < n) = decide (k < n + 1) from decide_eq_decide.mpr (by omega)]
  · rw [hs_o _ _ (by omega), hs_o _ _ (by omega), hs_o _ _ (by omega), hs_o _ _ (by omega), hs_o _ _ (by omega), upd_n _ _ (by omega)]; exact hkn i hi
  · rw [hs_o _ _ (by omega), upd_n _ _ (by omega)]
    by_cases e : q = n
    · subst e; rw [hs_s, z17]
    · rw [hs_o _ _ (by omega), hs_o _ _ (by omega), hs_o _ _ (by omega), hs_o _ _ (by omega)]; exact hfi q (by omega)
  · rw [hs_o _ _ (by omega), hs_o _ _ (by omega), hs_o _ _ (by omega), hs_o _ _ (by omega), hs_o _ _ (by omega), hs_o _ _ (by omega), hs_o _ _ (by omega), hs_o _ _ (by omega), hs_o _ _ (by omega), hs_o _ _ (by omega)]; exact hh i hi
theorem C_addPerson {h : HS} {f hl : Nat → Int32} {n m : Nat} (H : CR h 9 f hl n m) (P : PS f n m) (hn6 : n < 6) (b : Bool) (k : Int32) : ∃ h', f_X1_addPerson h 9 (b2i b) k = some (true, h') ∧ CR h' 9 (adF f n b k) hl (n + 1) m ∧ Oc 9 h h' := by
  obtain ⟨F, n6, m4, z, kn, fi⟩ := P
  unfold f_X1_addPerson adF
  rw [H.1.1, if_neg (nI_pos (by omega)), L6, if_pos (nI_lt hn6 (by omega)), Lt_e, jn_e]
  cases b
  · rw [if_neg (by decide), if_neg (by decide)]
    have e0 : upd f 0 (f 0) = f := by
      funext k; unfold upd
      by_cases q : k = 0
      · rw [if_pos q, q]
      · rw [if_neg q]
    rw [e0]
    exact C_addK H hn6 (z n (Nat.le_refl _) hn6).1 (fi n hn6) k
  · rw [if_pos (by decide), if_pos rfl, Lt_e]
    have H2 := CR_eye H (h.1 9 2 ||| (1 <<< (nI n &&& 31)))
    rw [H.2.1] at H2
    obtain ⟨h', e', C', O'⟩ := C_addK H2 hn6 (by rw [upd_n _ _ (by omega)]; exact (z n (Nat.le_refl _) hn6).1) (by rw [upd_n _ _ (by omega)]; exact fi n hn6) k
    rw [H.2.1]
    exact ⟨h', e', C', (Oc.set (by omega)).tr O'⟩
