/-! hearsay, the seed -/
theorem in_n9 (h : HS) (p : Int32) : f_X5_in h (Int32.toInt64 p) 0 9 = some (inB p 10) := in_n h p 9 (t := 9) (by decide)
theorem Inv.hd {h h2 : HS} {n m q : Nat} (I : Inv h n m) (o : ∀ b k, ¬ (31 ≤ b ∧ b ≤ 34) → ¬ (45 ≤ b ∧ b ≤ 47) → ¬ (b = 36 ∧ k = 17) → h2.1 b k = h.1 b k) (l : h2.2 = h.2) (H : HD h2 q) : Inv h2 n m := by
  obtain ⟨B, A, -, T, K, s⟩ := I
  have h6 := B.1.1.2.2.1
  have h4 := B.1.1.2.2.2
  exact ⟨B.mv fun b k hb => o b k (by omega) (by omega) (by omega), A.mv h6 h4 fun b k hb => o b k (by omega) (by omega) (by omega), ⟨q, H⟩, T.mv fun b k hb => o b k (by omega) (by omega) (by omega), K.mv fun b k hb => o b k (by omega) (by omega) (by omega), by rw [l]; exact s⟩
theorem st_unhear {h : HS} (I : IV h) : St (fun h => f_X4_unhear h) (fun h => f_X5_unhear h) h := by
  obtain ⟨n, m, I'⟩ := id I
  obtain ⟨q, H⟩ := I'.2.2.1
  refine ⟨h.1 31 3, hset h 31 3 0, hset (hset h 31 3 0) 36 17 0, rfl, ?_, n, m, I'.hd (q := 0) (fun b k z1 z2 z3 => ?_) rfl ⟨⟨?_, ?_, by omega⟩, fun k hk => by omega⟩⟩
  · show f_X5_unhear _ = _
    unfold f_X5_unhear
    simp only [Lt_e]
    rw [hs_o _ _ (by omega), H.1.2.1, H.1.1]
  · rw [hs_o _ _ (by omega), hs_o _ _ (by omega)]
  · rw [hs_o _ _ (by omega), hs_s]; rfl
  · rw [hs_s]; rfl
theorem out_9 {p : Int32} (z : inB p 10 = false) : p < 0 ∨ (9 : Int32) < p := by
  unfold inB at z
  rw [Int32.lt_iff_toInt_lt, Int32.lt_iff_toInt_lt, Int32.toInt_zero, show (9 : Int32).toInt = 9 by decide]
  rw [Bool.and_eq_false_iff, decide_eq_false_iff_not, decide_eq_false_iff_not] at z
  omega
theorem st_hear {h : HS} (I : IV h) (j w v : Int32) : St (fun h => f_X4_hear h j w v) (fun h => f_X5_hear h j w v) h := by
  obtain ⟨n, m, I'⟩ := id I
  obtain ⟨q, HH⟩ := I'.2.2.1
  obtain ⟨H, hF, hn, hm⟩ := I'.1
  have h6 := H.1.2.2.1
  have h4 := H.1.2.2.2
  have q6 := HH.1.2.2
  unfold St f_X4_hear f_X5_hear
  simp only [C_isMatter H, X4_isHalf, in_01, in_n9, bd_s]
  rcases nI_rg j m (by omega) with z | ⟨j, hj, rfl⟩
  · rw [z]; exact ⟨-1, h, h, if_neg (by decide), by rw [M_isMatter hm h4, bd_s, z, if_neg (by decide)], I⟩
  rw [inB_nI hj (by omega)]
  rcases nI_rg w 2 (by omega) with z | ⟨w, hw, rfl⟩
  · rw [z]; exact ⟨-2, h, h, by rw [if_pos rfl, if_neg (by decide)], by rw [M_isMatter hm h4, bd_s, inB_nI hj (by omega), if_pos rfl, if_neg (by decide)], I⟩
  rw [inB_nI hw (by omega)]
  rcases nI_rg v 10 (by omega) with z | ⟨v, hv, rfl⟩
  · rw [z]
    refine ⟨-2, h, h, ?_, by rw [M_isMatter hm h4, bd_s, inB_nI hj (by omega), if_pos rfl, if_pos rfl, if_neg (by decide)], I⟩
    rw [if_pos rfl, if_pos rfl]
    by_cases c1 : v < 0
    · rw [if_pos c1]
    · rw [if_neg c1, if_pos ((out_9 z).resolve_left c1)]
  rw [inB_nI hv (by omega), if_pos rfl, if_pos rfl, if_neg (nI_pos (by omega)), L9, if_neg (nI_nlt (by omega) (by omega))]
  unfold f_X2_add
  rw [HH.1.1, if_neg (nI_pos (by omega))]
  by_cases ql : q < 6
  · rw [L6, if_pos (nI_lt ql (by omega)), wr_nI _ _ _ (by omega) (by omega), bd_s, hs_o _ _ (by omega), HH.1.1, wr_nI _ _ _ (by omega) (by omega), bd_s, hs_o _ _ (by omega), hs_o _ _ (by omega), HH.1.1, wr_nI _ _ _ (by omega) (by omega), bd_s, Lt_e, hs_o _ _ (by omega), hs_o _ _ (by omega), hs_o _ _ (by omega), HH.1.1, nI_p1, bd2_s, if_pos rfl, hs_s]
    refine ⟨nI (q + 1), _, hset (hset (hset (hset (hset (hset (hset (hset h 32 q (nI j)) 33 q (nI w)) 34 q (nI v)) 31 3 (nI (q + 1))) 45 q (nI j)) 46 q (nI w)) 47 q (nI v)) 36 17 (nI (q + 1)), rfl, ?_, n, m, ?_⟩
    · rw [M_isMatter (h := hset (hset (hset (hset h 32 q (nI j)) 33 q (nI w)) 34 q (nI v)) 31 3 (nI (q + 1))) (m := m) (by rw [hs_o _ _ (by omega), hs_o _ _ (by omega), hs_o _ _ (by omega), hs_o _ _ (by omega)]; exact hm) h4, bd_s, inB_nI hj (by omega), if_pos rfl, if_pos rfl, if_pos rfl]
      have e17 : (hset (hset (hset (hset h 32 q (nI j)) 33 q (nI w)) 34 q (nI v)) 31 3 (nI (q + 1))).1 36 17 = nI q := by
        rw [hs_o _ _ (by omega), hs_o _ _ (by omega), hs_o _ _ (by omega), hs_o _ _ (by omega), HH.1.2.1]
      rw [e17, if_neg (fun z => by have := (nI_eq (by omega) (by omega)).mp z; omega), wr_nI _ _ _ (by omega) (by omega), bd_s, hs_o _ _ (by omega), e17, wr_nI _ _ _ (by omega) (by omega), bd_s, hs_o _ _ (by omega), hs_o _ _ (by omega), e17, wr_nI _ _ _ (by omega) (by omega), bd_s, Lt_e, hs_s, hs_o _ _ (by omega), hs_o _ _ (by omega), hs_o _ _ (by omega), e17, nI_p1]
    · refine I'.hd (q := q + 1) (fun b k z1 z2 z3 => ?_) rfl ⟨⟨?_, ?_, by omega⟩, fun k hk => ?_⟩
      · rw [hs_o _ _ (by omega), hs_o _ _ (by omega), hs_o _ _ (by omega), hs_o _ _ (by omega), hs_o _ _ (by omega), hs_o _ _ (by omega), hs_o _ _ (by omega), hs_o _ _ (by omega)]
      · rw [hs_o _ _ (by omega), hs_o _ _ (by omega), hs_o _ _ (by omega), hs_o _ _ (by omega), hs_s]
      · rw [hs_s]
      · have A32 : ∀ k, (hset (hset (hset (hset (hset (hset (hset (hset h 32 q (nI j)) 33 q (nI w)) 34 q (nI v)) 31 3 (nI (q + 1))) 45 q (nI j)) 46 q (nI w)) 47 q (nI v)) 36 17 (nI (q + 1))).1 32 k = if k = q then nI j else h.1 32 k := by
          intro k
          rw [hs_o _ _ (by omega), hs_o _ _ (by omega), hs_o _ _ (by omega), hs_o _ _ (by omega), hs_o _ _ (by omega), hs_o _ _ (by omega), hs_o _ _ (by omega)]
          by_cases e : k = q
          · subst e; rw [hs_s, if_pos rfl]
          · rw [hs_o _ _ (by omega), if_neg e]
        have A33 : ∀ k, (hset (hset (hset (hset (hset (hset (hset (hset h 32 q (nI j)) 33 q (nI w)) 34 q (nI v)) 31 3 (nI (q + 1))) 45 q (nI j)) 46 q (nI w)) 47 q (nI v)) 36 17 (nI (q + 1))).1 33 k = if k = q then nI w else h.1 33 k := by
          intro k
          rw [hs_o _ _ (by omega), hs_o _ _ (by omega), hs_o _ _ (by omega), hs_o _ _ (by omega), hs_o _ _ (by omega), hs_o _ _ (by omega)]
          by_cases e : k = q
          · subst e; rw [hs_s, if_pos rfl]
          · rw [hs_o _ _ (by omega), hs_o _ _ (by omega), if_neg e]
        have A34 : ∀ k, (hset (hset (hset (hset (hset (hset (hset (hset h 32 q (nI j)) 33 q (nI w)) 34 q (nI v)) 31 3 (nI (q + 1))) 45 q (nI j)) 46 q (nI w)) 47 q (nI v)) 36 17 (nI (q + 1))).1 34 k = if k = q then nI v else h.1 34 k := by
          intro k
          rw [hs_o _ _ (by omega), hs_o _ _ (by omega), hs_o _ _ (by omega), hs_o _ _ (by omega), hs_o _ _ (by omega)]
          by_cases e : k = q
          · subst e; rw [hs_s, if_pos rfl]
          · rw [hs_o _ _ (by omega), hs_o _ _ (by omega), hs_o _ _ (by omega), if_neg e]
        have A45 : ∀ k, (hset (hset (hset (hset (hset (hset (hset (hset h 32 q (nI j)) 33 q (nI w)) 34 q (nI v)) 31 3 (nI (q + 1))) 45 q (nI j)) 46 q (nI w)) 47 q (nI v)) 36 17 (nI (q + 1))).1 45 k = if k = q then nI j else h.1 45 k := by
          intro k
          rw [hs_o _ _ (by omega), hs_o _ _ (by omega), hs_o _ _ (by omega)]
          by_cases e : k = q
          · subst e; rw [hs_s, if_pos rfl]
          · rw [hs_o _ _ (by omega), hs_o _ _ (by omega), hs_o _ _ (by omega), hs_o _ _ (by omega), hs_o _ _ (by omega), if_neg e]
        have A46 : ∀ k, (hset (hset (hset (hset (hset (hset (hset (hset h 32 q (nI j)) 33 q (nI w)) 34 q (nI v)) 31 3 (nI (q + 1))) 45 q (nI j)) 46 q (nI w)) 47 q (nI v)) 36 17 (nI (q + 1))).1 46 k = if k = q then nI w else h.1 46 k := by
          intro k
          rw [hs_o _ _ (by omega), hs_o _ _ (by omega)]
          by_cases e : k = q
          · subst e; rw [hs_s, if_pos rfl]
          · rw [hs_o _ _ (by omega), hs_o _ _ (by omega), hs_o _ _ (by omega), hs_o _ _ (by omega), hs_o _ _ (by omega), hs_o _ _ (by omega), if_neg e]
        have A47 : ∀ k, (hset (hset (hset (hset (hset (hset (hset (hset h 32 q (nI j)) 33 q (nI w)) 34 q (nI v)) 31 3 (nI (q + 1))) 45 q (nI j)) 46 q (nI w)) 47 q (nI v)) 36 17 (nI (q + 1))).1 47 k = if k = q then nI v else h.1 47 k := by
          intro k
          rw [hs_o _ _ (by omega)]
          by_cases e : k = q
          · subst e; rw [hs_s, if_pos rfl]
          · rw [hs_o _ _ (by omega), hs_o _ _ (by omega), hs_o _ _ (by omega), hs_o _ _ (by omega), hs_o _ _ (by omega), hs_o _ _ (by omega), hs_o _ _ (by omega), if_neg e]
        rw [A32, A33, A34, A45, A46, A47]
        by_cases e : k = q
        · rw [if_pos e, if_pos e, if_pos e, if_pos e, if_pos e, if_pos e]; exact ⟨rfl, rfl, rfl⟩
        · rw [if_neg e, if_neg e, if_neg e, if_neg e, if_neg e, if_neg e]; exact HH.2 k (by omega)
  · rw [L6, if_neg (nI_nlt (by omega) (by omega)), bd2_s, if_neg (by decide)]
    refine ⟨-4, h, h, rfl, ?_, I⟩
    rw [M_isMatter hm h4, bd_s, inB_nI hj (by omega), if_pos rfl, if_pos rfl, if_pos rfl, HH.1.2.1, if_pos (by rw [show q = 6 by omega])]
theorem st_seed {h : HS} (I : IV h) (v : Int64) : St (fun h => f_X4_seed h v) (fun h => f_X5_seed h v) h := by
  obtain ⟨n, m, B, A, H, T, K, s⟩ := id I
  refine ⟨h.2 0, hlng h 0 v, hlng (hlng h 0 v) 36 v, rfl, ?_, n, m, B, A, H, T, K, ?_⟩
  · show some ((hlng h 0 v).2 36, _) = _
    show some (h.2 36, _) = _
    rw [s]
  · rfl
