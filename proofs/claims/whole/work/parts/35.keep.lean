/-! keep, again -/
theorem kw_small (f : Nat → Int32) {m : Nat} (m4 : m ≤ 4) : small (kw f m) := small_mkk _ (by omega)
theorem C_known2 {h : HS} {a n m : Nat} {f hl : Nat → Int32} (H : CR h a f hl n m) : f_X1_knownMatters h a = some (kw f m) := C_known H
theorem nI01 {s : Nat} (h : s < 2) : s = 0 ∨ s = 1 := by omega
theorem X4_keptIn (h : HS) {s : Nat} (hs : s < 2) : f_X4_keptIn h (nI s) = some (15 + 6 * s) := by
  unfold f_X4_keptIn
  rcases nI01 hs with rfl | rfl
  · rw [if_pos nI_0]
  · rw [if_neg (by decide +kernel)]
theorem X4_keep_e (h : HS) {s : Nat} (hs : s < 2) : f_X4_keep h (nI s) = (bd (f_X1_become h (15 + 6 * s) 3) fun h4 => bd (f_X1_knownMatters (hset h4 0 5 ((h4.1 0 5) ||| (1 <<< (nI s &&& 31)))) 3) fun r6 => bd (f_J6_bitCount_0f7a4 (hset h4 0 5 ((h4.1 0 5) ||| (1 <<< (nI s &&& 31)))) r6) fun r7 => some (r7, hset h4 0 5 ((h4.1 0 5) ||| (1 <<< (nI s &&& 31))))) := by
  unfold f_X4_keep
  rw [X4_isSlot, inB_nI hs (by omega), bd_s, if_pos rfl, X4_keptIn h hs, bd_s]
  rcases nI01 hs with rfl | rfl
  · rw [if_pos rfl]; rfl
  · rw [if_neg (by omega), if_pos rfl]; rfl
theorem X4_again_e (h : HS) {s : Nat} (hs : s < 2) : f_X4_again h (nI s) = if (((h.1 0 5) >>> (nI s &&& 31)) &&& 1) = 0 then (some ((-3), h)) else (bd (f_X1_become h 3 (15 + 6 * s)) fun h4 => bd (f_X1_knownMatters (hset h4 27 3 0) 3) fun r6 => bd (f_J6_bitCount_0f7a4 (hset h4 27 3 0) r6) fun r7 => some (r7, hset h4 27 3 0)) := by
  unfold f_X4_again
  rw [X4_isSlot, inB_nI hs (by omega), bd_s, if_pos rfl, X4_keptIn h hs, bd_s]
  rcases nI01 hs with rfl | rfl
  · rw [if_pos (show (15 + 6 * 0 : Nat) = 15 from rfl)]; rfl
  · rw [if_neg (show ¬ (15 + 6 * 1 : Nat) = 15 by omega), if_pos (show (15 + 6 * 1 : Nat) = 21 from rfl)]; rfl
theorem st_keep {h : HS} (I : IV h) (s : Int32) : St (fun h => f_X4_keep h s) (fun h => f_X5_keep h s) h := by
  obtain ⟨n, m, I'⟩ := id I
  obtain ⟨B, A, ⟨q, HH⟩, T, K, sd⟩ := id I'
  have H := B.1
  have hn := B.2.2.1
  have hm := B.2.2.2
  have h6 := H.1.2.2.1
  have h4 := H.1.2.2.2
  unfold St
  rcases nI_rg s 2 (by omega) with z | ⟨s, hs, rfl⟩
  · refine ⟨-1, h, h, ?_, ?_, I⟩
    · show f_X4_keep h s = _
      unfold f_X4_keep
      rw [X4_isSlot, z, bd_s, if_neg (by decide)]
    · show f_X5_keep h s = _
      unfold f_X5_keep
      rw [in_01, z, bd_s, if_neg (by decide)]
  simp only [X4_keep_e _ hs]
  obtain ⟨g, eg, Cg, Og⟩ := C_become H (a := 15 + 6 * s) (by omega)
  have g3 : CR (hset g 0 5 ((g.1 0 5) ||| (1 <<< (nI s &&& 31)))) 3 (lvf h 0) (h.1 37) n m := CR_move H fun b k hb => by rw [hs_o _ _ (by omega), Og.1 _ _ (by omega)]
  have gk : CR (hset g 0 5 ((g.1 0 5) ||| (1 <<< (nI s &&& 31)))) (15 + 6 * s) (lvf h 0) (h.1 37) n m := CR_move Cg fun b k hb => by rw [hs_o _ _ (by omega)]
  have go : ∀ b k, ¬ (15 + 6 * s ≤ b ∧ b ≤ 15 + 6 * s + 5) → ¬ (b = 0 ∧ k = 5) → (hset g 0 5 ((g.1 0 5) ||| (1 <<< (nI s &&& 31)))).1 b k = h.1 b k := fun b k z1 z2 => by rw [hs_o _ _ (by omega), Og.1 _ _ z1]
  have g05 : (hset g 0 5 ((g.1 0 5) ||| (1 <<< (nI s &&& 31)))).1 0 5 = h.1 0 5 ||| (1 <<< (nI s &&& 31)) := by rw [hs_s, Og.1 _ _ (by omega)]
  have g2 : (hset g 0 5 ((g.1 0 5) ||| (1 <<< (nI s &&& 31)))).2 = h.2 := Og.2
  rw [eg, bd_s, C_known2 g3, bd_s, C_bitCount _ (kw_small _ h4), bd_s]
  generalize hset g 0 5 ((g.1 0 5) ||| (1 <<< (nI s &&& 31))) = h1 at g3 gk go g05 g2
  have e38 : ∀ k, h1.1 38 k = h.1 38 k := fun k => go 38 k (by omega) (by omega)
  have f38 : h1.1 38 = h.1 38 := funext e38
  refine ⟨pop (kw (lvf h 0) m), h1, cpH (hset h1 48 s 1) 49 (23 * s) (h1.1 38) 23, rfl, ?_, n, m, ?_⟩
  · unfold f_X5_keep
    rw [in_01, inB_nI hs (by omega), bd_s, if_pos rfl, wr_nI _ _ _ (by omega) (by omega), bd_s]
    have e := fin2 (body := fun rec5 (i3 : Int32) (h4 : HS) => if i3 < 23 then (bd (rd h4 38 46 i3) fun r9 => bd (wr h4 49 46 ((23 * nI s) + i3) r9) fun h10 => rec5 (i3 + 1) h10) else (bd (f_X5_known h4 0) fun r7 => bd (f_X5_ones h4 r7) fun r8 => some (r8, h4))) (res := some (pop (kw (lvf h 0) m), cpH (hset h1 48 s 1) 49 (23 * s) (h1.1 38) 23)) (fun i => nI i) (fun i => cpH (hset h1 48 s 1) 49 (23 * s) (h1.1 38) i) 23 (fun rec i hi => by
        rw [L23, if_pos (nI_lt hi (by omega)), rd38 _ (by omega), bd_s, cp_o _ _ (Or.inl (by decide)), hs_o _ _ (by omega), pk_mul, nI_add, wr_nI _ _ _ (by omega) (by omega), bd_s, cp_s, nI_p1]) (fun rec => by
        rw [L23, if_neg (nI_nlt (by omega) (by omega)), (M_known (by rw [cp_o _ _ (Or.inl (by decide)), hs_o _ _ (by omega), go _ _ (by omega) (by omega)]; exact hm) h4).1, bd_s, M_ones, bd_s]
        rw [kw_congr (f := lvf h 0) h4 fun k hk => by rw [lv0, lv0, cp_o _ _ (Or.inl (by decide)), hs_o _ _ (by omega), e38]]) 400 0 (by omega) (by omega)
    rw [cp_0] at e
    exact e
  · have o2 : ∀ b k, ¬ (15 + 6 * s ≤ b ∧ b ≤ 15 + 6 * s + 5) → ¬ (b = 0 ∧ k = 5) → ¬ (b = 48 ∧ k = s) → ¬ (b = 49 ∧ 23 * s ≤ k ∧ k < 23 * s + 23) → (cpH (hset h1 48 s 1) 49 (23 * s) (h1.1 38) 23).1 b k = h.1 b k := by
      intro b k z1 z2 z3 z4
      rw [cp_o _ _ (by omega), hs_o _ _ (by omega), go _ _ z1 z2]
    have oc : ∀ b k, ¬ (b = 48 ∧ k = s) → ¬ (b = 49 ∧ 23 * s ≤ k ∧ k < 23 * s + 23) → (cpH (hset h1 48 s 1) 49 (23 * s) (h1.1 38) 23).1 b k = h1.1 b k := by
      intro b k z3 z4
      rw [cp_o _ _ (by omega), hs_o _ _ (by omega)]
    refine ⟨B.mv fun b k hb => o2 b k (by omega) (by omega) (by omega) (by omega), A.mv h6 h4 fun b k hb => o2 b k (by omega) (by omega) (by omega) (by omega), ⟨q, HH.mv fun b k hb => o2 b k (by omega) (by omega) (by omega) (by omega)⟩, T.mv fun b k hb => o2 b k (by omega) (by omega) (by omega) (by omega), fun t ht => ?_, ?_⟩
    · obtain ⟨k1, k2⟩ := K t ht
      rw [oc _ _ (by omega) (by omega), g05, bt_or, bt_one (by omega)]
      by_cases e : t = s
      · subst e
        have e48 : (cpH (hset h1 48 t 1) 49 (23 * t) (h1.1 38) 23).1 48 t = 1 := by rw [cp_o _ _ (by omega), hs_s]
        rw [e48]
        refine ⟨by simp, fun _ => ?_⟩
        have ek : ∀ k, k < 23 → (fun k => (cpH (hset h1 48 t 1) 49 (23 * t) (h1.1 38) 23).1 49 (23 * t + k)) k = lvf h 0 k := fun k hk => by
          show (cpH (hset h1 48 t 1) 49 (23 * t) (h1.1 38) 23).1 49 (23 * t + k) = _
          rw [cp_i _ _ hk, lv0, e38]
        exact ⟨CR_hl (CR_congr (CR_move gk fun b k hb => oc _ _ (by omega) (by omega)) ek) (fun k hk => o2 37 k (by omega) (by omega) (by omega) (by omega)), FR_congr h6 B.2.1 ek⟩
      · have e48 : (cpH (hset h1 48 s 1) 49 (23 * s) (h1.1 38) 23).1 48 t = h.1 48 t := o2 48 t (by omega) (by omega) (by omega) (by omega)
        rw [e48, k1]
        refine ⟨by simp [e], fun z => ?_⟩
        obtain ⟨k3, k4⟩ := k2 z
        have ek : ∀ k, k < 23 → (fun k => (cpH (hset h1 48 s 1) 49 (23 * s) (h1.1 38) 23).1 49 (23 * t + k)) k = (fun k => h.1 49 (23 * t + k)) k := fun k hk => o2 49 _ (by omega) (by omega) (by omega) (by omega)
        exact ⟨CR_hl (CR_congr (CR_move k3 fun b k hb => o2 _ _ (by omega) (by omega) (by omega) (by omega)) ek) (fun k hk => o2 37 k (by omega) (by omega) (by omega) (by omega)), FR_congr h6 k4 ek⟩
    · show h1.2 0 = h1.2 36
      rw [g2]; exact sd
theorem st_again {h : HS} (I : IV h) (s : Int32) : St (fun h => f_X4_again h s) (fun h => f_X5_again h s) h := by
  obtain ⟨n, m, I'⟩ := id I
  obtain ⟨B, ⟨x, c, A⟩, ⟨q, HH⟩, T, K, sd⟩ := id I'
  have H := B.1
  have hn := B.2.2.1
  have hm := B.2.2.2
  have h6 := H.1.2.2.1
  have h4 := H.1.2.2.2
  unfold St
  rcases nI_rg s 2 (by omega) with z | ⟨s, hs, rfl⟩
  · refine ⟨-1, h, h, ?_, ?_, I⟩
    · show f_X4_again h s = _
      unfold f_X4_again
      rw [X4_isSlot, z, bd_s, if_neg (by decide)]
    · show f_X5_again h s = _
      unfold f_X5_again
      rw [in_01, z, bd_s, if_neg (by decide)]
  simp only [X4_again_e _ hs]
  obtain ⟨k1, k2⟩ := K s hs
  rw [bt_get _ (by omega), k1]
  by_cases z : h.1 48 s = 0
  · refine ⟨-3, h, h, ?_, ?_, I⟩
    · rw [decide_eq_false (by simpa using z), b2i_f, if_pos rfl]
    · unfold f_X5_again
      rw [in_01, inB_nI hs (by omega), bd_s, if_pos rfl, rd_nI _ _ (by omega) (by omega), bd_s, if_pos z]
  obtain ⟨Ck, Fk⟩ := k2 z
  rw [decide_eq_true z, if_neg (by decide)]
  obtain ⟨g, eg, Cg, Og⟩ := C_become Ck (a := 3) (by omega)
  have g3 : CR (hset g 27 3 0) 3 (fun k => h.1 49 (23 * s + k)) (h.1 37) n m := CR_move Cg fun b k hb => by rw [hs_o _ _ (by omega)]
  have go : ∀ b k, ¬ (3 ≤ b ∧ b ≤ 8) → ¬ (b = 27 ∧ k = 3) → (hset g 27 3 0).1 b k = h.1 b k := fun b k z1 z2 => by rw [hs_o _ _ (by omega), Og.1 _ _ (by omega)]
  have g27 : (hset g 27 3 0).1 27 3 = 0 := hs_s _ _ _ _
  have g2 : (hset g 27 3 0).2 = h.2 := Og.2
  rw [eg, bd_s, C_known2 g3, bd_s, C_bitCount _ (kw_small _ h4), bd_s]
  generalize hset g 27 3 0 = h1 at g3 go g27 g2
  refine ⟨_, h1, hset (cpH h1 38 0 (fun k => h.1 49 (23 * s + k)) 23) 36 13 0, rfl, ?_, n, m, ?_⟩
  · unfold f_X5_again
    rw [in_01, inB_nI hs (by omega), bd_s, if_pos rfl, rd_nI _ _ (by omega) (by omega), bd_s, go _ _ (by omega) (by omega), if_neg z]
    have e := fin2 (body := fun rec5 (i3 : Int32) (h4 : HS) => if i3 < 23 then (bd (rd h4 49 46 ((23 * nI s) + i3)) fun r10 => bd (wr h4 38 46 i3 r10) fun h11 => rec5 (i3 + 1) h11) else (Lt (hset h4 36 13 0) fun h7 => bd (f_X5_known h7 0) fun r8 => bd (f_X5_ones h7 r8) fun r9 => some (r9, h7))) (res := some (pop (kw (fun k => h.1 49 (23 * s + k)) m), hset (cpH h1 38 0 (fun k => h.1 49 (23 * s + k)) 23) 36 13 0)) (fun i => nI i) (fun i => cpH h1 38 0 (fun k => h.1 49 (23 * s + k)) i) 23 (fun rec i hi => by
        rw [L23, if_pos (nI_lt hi (by omega)), pk_mul, nI_add, rd_nI _ _ (by omega) (by omega), bd_s, cp_o _ _ (Or.inl (by decide)), go _ _ (by omega) (by omega), wr_nI _ _ _ (by omega) (by omega), bd_s, nI_p1]
        have := cp_s h1 38 0 (fun k => h.1 49 (23 * s + k)) i
        rw [Nat.zero_add] at this
        rw [this]) (fun rec => by
        rw [L23, if_neg (nI_nlt (by omega) (by omega)), Lt_e, (M_known (by rw [hs_o _ _ (by omega), cp_o _ _ (Or.inl (by decide)), go _ _ (by omega) (by omega)]; exact hm) h4).1, bd_s, M_ones, bd_s]
        rw [kw_congr (f := fun k => h.1 49 (23 * s + k)) h4 fun k hk => by
          have := cp_i h1 (b := 38) (t := 0) (fun k => h.1 49 (23 * s + k)) hk
          rw [Nat.zero_add] at this
          rw [lv0, hs_o _ _ (by omega), this]]) 400 0 (by omega) (by omega)
    rw [cp_0] at e
    exact e
  · have o2 : ∀ b k, ¬ (3 ≤ b ∧ b ≤ 8) → ¬ (b = 27 ∧ k = 3) → ¬ (b = 38 ∧ k < 23) → ¬ (b = 36 ∧ k = 13) → (hset (cpH h1 38 0 (fun k => h.1 49 (23 * s + k)) 23) 36 13 0).1 b k = h.1 b k := by
      intro b k z1 z2 z3 z4
      rw [hs_o _ _ (by omega), cp_o _ _ (by omega), go _ _ z1 z2]
    have ek : ∀ k, k < 23 → lvf (hset (cpH h1 38 0 (fun k => h.1 49 (23 * s + k)) 23) 36 13 0) 0 k = (fun k => h.1 49 (23 * s + k)) k := fun k hk => by
      have := cp_i h1 (b := 38) (t := 0) (fun k => h.1 49 (23 * s + k)) hk
      rw [Nat.zero_add] at this
      rw [lv0, hs_o _ _ (by omega), this]
    refine ⟨⟨CR_hl (CR_congr (CR_move g3 fun b k hb => by rw [hs_o _ _ (by omega), cp_o _ _ (by omega)]) ek) (fun k hk => o2 37 k (by omega) (by omega) (by omega) (by omega)), FR_congr h6 Fk ek, by rw [o2 _ _ (by omega) (by omega) (by omega) (by omega)]; exact hn, by rw [o2 _ _ (by omega) (by omega) (by omega) (by omega)]; exact hm⟩, ⟨x, 0, ⟨A.1.1, by omega, ?_, ?_, ?_⟩, fun i hi => by omega⟩, ⟨q, HH.mv fun b k hb => o2 b k (by omega) (by omega) (by omega) (by omega)⟩, T.mv fun b k hb => o2 b k (by omega) (by omega) (by omega) (by omega), K.mv fun b k hb => o2 b k (by omega) (by omega) (by omega) (by omega), ?_⟩
    · rw [hs_o _ _ (by omega), cp_o _ _ (by omega), g27]; rfl
    · rw [hs_s]; rfl
    · rw [o2 _ _ (by omega) (by omega) (by omega) (by omega)]; exact A.1.2.2.2.2
    · show h1.2 0 = h1.2 36
      rw [g2]; exact sd
