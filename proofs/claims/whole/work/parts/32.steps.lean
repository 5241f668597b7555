/-! the doings, step by step -/
theorem b2n {b : Bool} (h : ¬ b = true) : b = false := by cases b <;> simp_all
theorem wr38 (h : HS) {k : Nat} (v : Int32) (hk : k < 46) : wr h 38 46 (nI k) v = some (hset h 38 k v) := wr_nI h 38 v hk (by omega)
theorem st_show {h : HS} (I : IV h) (p j : Int32) : St (fun h => f_X4_show h p j) (fun h => f_X5_show h p j) h := by
  obtain ⟨n, m, I'⟩ := id I
  obtain ⟨B, ⟨x, c, A⟩, -, -, -, -⟩ := id I'
  obtain ⟨H, hF, hn, hm⟩ := B
  have h6 := H.1.2.2.1
  have h4 := H.1.2.2.2
  unfold St f_X4_show f_X5_show
  simp only [C_isPerson H, C_isMatter H, bd_s]
  rcases nI_rg p n (by omega) with z | ⟨p, hp, rfl⟩
  · rw [z]; exact ⟨-1, h, h, if_neg (by decide), by rw [M_isPerson hn h6, bd_s, z, if_neg (by decide)], I⟩
  rcases nI_rg j m (by omega) with z | ⟨j, hj, rfl⟩
  · rw [z, inB_nI hp (by omega)]
    refine ⟨-1, h, h, ?_, ?_, I⟩
    · rw [if_pos rfl, if_neg (by decide)]
    · rw [M_isPerson hn h6, bd_s, inB_nI hp (by omega), if_pos rfl, M_isMatter hm h4, bd_s, z, if_neg (by decide)]
  rw [inB_nI hp (by omega), inB_nI hj (by omega), C_canSee H hp hj]
  simp only [bd_s, if_true]
  have cs := M_canShow hn h6 hm h4 (lv := 0) (by omega) hp hj
  rw [nI_0] at cs
  by_cases q : bt (lvf h 0 (7 + p)) j = true
  · rw [q]
    refine ⟨-3, h, h, if_neg (by decide), ?_, I⟩
    rw [M_isPerson hn h6, bd_s, inB_nI hp (by omega), if_pos rfl, M_isMatter hm h4, bd_s, inB_nI hj (by omega), if_pos rfl, cs, bd_s, q, if_neg (by decide)]
  · have q0 := b2n q
    rw [q0, if_pos (by decide)]
    obtain ⟨h5, e5, C5, O5⟩ := C_letSee H hp hj
    obtain ⟨h1, e1, C1, D⟩ := cls_add A.1.2.2.1 A.1.2.1 C5 O5 1 (nI p) (nI j)
    have d36 := D.fn (d := 36) (by omega)
    have d38 := D.fn (d := 38) (by omega)
    have FG : FR (shF (lvf h 0) p j) n m := FR_sh h6 hF hp hj h4
    have hbits : ∀ i, i < 32 → bt (h1.1 4 j) i = (decide (i < n) && bt (shF (lvf h 0) p j (7 + i)) j) := C1.2.2.2.1 j hj
    have hsm : small (h1.1 4 j) := small_of fun i z1 z2 => by rw [hbits i z2]; simp [show ¬ i < n by omega]
    refine ⟨pop (h1.1 4 j), h1, hset (ks h1 x c) 38 (7 + p) (shF (lvf h 0) p j (7 + p)), ?_, ?_, ?_⟩
    · rw [e5, bd_s, e1, bd_s]
      unfold f_X1_witnessesOf
      rw [C_matter C1 hj, bd_s, if_pos rfl, rd_nI _ _ (by omega) (by omega), bd_s, bd_s, C_bitCount h1 hsm, bd_s]
    · have cs' := M_canShow (h := h1) (by rw [d36]; exact hn) h6 (by rw [d36]; exact hm) h4 (lv := 0) (by omega) hp hj
      rw [nI_0, lv0, d38, ← lv0, q0] at cs'
      rw [M_isPerson (by rw [d36]; exact hn) h6, bd_s, inB_nI hp (by omega), if_pos rfl, M_isMatter (by rw [d36]; exact hm) h4, bd_s, inB_nI hj (by omega), if_pos rfl, cs', bd_s, if_pos (by decide), M_keepAct (x := x) (c := c) (by rw [d36]; exact A.1.2.2.2.2) (by rw [d36]; exact A.1.2.2.2.1) A.1.1 A.1.2.1, bd_s, L7, nI_add, rd38 _ (by omega), bd_s, wr38 _ _ (by omega), bd_s, ks_fn h1 x c (by decide), d38]
      have eh : hset (ks h1 x c) 38 (7 + p) (h.1 38 (7 + p) ||| 1 <<< (nI j &&& 31)) = hset (ks h1 x c) 38 (7 + p) (shF (lvf h 0) p j (7 + p)) := by
        unfold shF
        rw [upd_s, lv0]
      rw [eh]
      refine Eq.trans (fin2 (res := some (popF (h1.1 4 j) n, hset (ks h1 x c) 38 (7 + p) (shF (lvf h 0) p j (7 + p)))) (fun i => popF (h1.1 4 j) i) (fun i => nI i) n (fun rec i hi => ?_) (fun rec => ?_) 400 0 (by omega) (by omega)) ?_
      · rw [hs_o _ _ (by omega), ks_36 _ _ _ (by decide), d36, hn, if_pos (nI_lt hi (by omega)), nI_add, rd38 _ (by omega), bd_s]
        simp only [Lt_e, nI_p1]
        have ev : (hset (ks h1 x c) 38 (7 + p) (shF (lvf h 0) p j (7 + p))).1 38 (7 + i) = shF (lvf h 0) p j (7 + i) := by
          by_cases e : i = p
          · subst e; rw [hs_s]
          · rw [hs_o _ _ (by omega), ks_fn _ _ _ (by decide), d38]
            unfold shF
            rw [upd_n _ _ (by omega), lv0]
        rw [ev, bt_get _ (by omega)]
        show rec (_ + _) _ = rec (popF (h1.1 4 j) i + ((h1.1 4 j >>> (nI i &&& 31)) &&& 1)) _
        rw [bt_get (h1.1 4 j) (by omega), hbits i (by omega)]
        simp [hi]
      · rw [hs_o _ _ (by omega), ks_36 _ _ _ (by decide), d36, hn, if_neg (nI_nlt (Nat.le_refl _) (by omega))]
      · unfold pop
        have := popF_hi (x := h1.1 4 j) (n := n) (fun i z1 z2 => by rw [hbits i z2]; simp [show ¬ i < n by omega]) (6 - n) (by omega)
        rw [show n + (6 - n) = 6 by omega] at this
        rw [this]
    · refine act_end I' A C1 FG D (fun d k z => ?_) rfl (fun k hk => ?_) ?_
      · rw [hs_o _ _ (by omega)]
      · by_cases e : k = 7 + p
        · subst e; rw [hs_s]
        · rw [hs_o _ _ (by omega), ks_fn _ _ _ (by decide), d38]
          unfold shF
          rw [upd_n _ _ e, lv0]
      · rw [← lv0]
        exact UN_sh hF hp hj h4 q0
theorem st_deny {h : HS} (I : IV h) (j : Int32) : St (fun h => f_X4_deny h j) (fun h => f_X5_deny h j) h := by
  obtain ⟨n, m, I'⟩ := id I
  obtain ⟨B, ⟨x, c, A⟩, -, -, -, -⟩ := id I'
  obtain ⟨H, hF, hn, hm⟩ := B
  have h6 := H.1.2.2.1
  have h4 := H.1.2.2.2
  unfold St f_X4_deny f_X5_deny
  simp only [C_isMatter H, bd_s]
  rcases nI_rg j m (by omega) with z | ⟨j, hj, rfl⟩
  · rw [z]; exact ⟨-1, h, h, if_neg (by decide), by rw [M_isMatter hm h4, bd_s, z, if_neg (by decide)], I⟩
  rw [inB_nI hj (by omega), C_knownAs H hj]
  simp only [bd_s, if_true]
  by_cases q : lvf h 0 (13 + j) = -9
  · refine ⟨-3, h, h, if_pos q, ?_, I⟩
    rw [M_isMatter hm h4, bd_s, inB_nI hj (by omega), if_pos rfl, L13, nI_add, rd38 _ (by omega), bd_s, ← lv0, if_pos q]
  · rw [if_neg q]
    obtain ⟨h5, e5, C5, O5⟩ := C_setKnown H hj (-9)
    obtain ⟨h1, e1, C1, D⟩ := cls_add A.1.2.2.1 A.1.2.1 C5 O5 2 (nI j) (lvf h 0 (13 + j))
    have d36 := D.fn (d := 36) (by omega)
    have d38 := D.fn (d := 38) (by omega)
    refine ⟨lvf h 0 (13 + j), h1, hset (ks h1 x c) 38 (13 + j) (-9), ?_, ?_, ?_⟩
    · rw [e5, bd_s, e1, bd_s]
    · rw [M_isMatter (by rw [d36]; exact hm) h4, bd_s, inB_nI hj (by omega), if_pos rfl, L13, nI_add, rd38 _ (by omega), bd_s, d38, ← lv0, if_neg q, M_keepAct (x := x) (c := c) (by rw [d36]; exact A.1.2.2.2.2) (by rw [d36]; exact A.1.2.2.2.1) A.1.1 A.1.2.1, bd_s, wr38 _ _ (by omega), bd_s]
    · refine act_end I' A C1 (FR_kn h6 hF j (-9)) D (fun d k z => ?_) rfl (fun k hk => ?_) ?_
      · rw [hs_o _ _ (by omega)]
      · unfold knF
        by_cases e : k = 13 + j
        · subst e; rw [hs_s, upd_s]
        · rw [hs_o _ _ (by omega), ks_fn _ _ _ (by decide), d38, upd_n _ _ e, lv0]
      · rw [← lv0]
        exact UN_kn hF hj 2 (-9) (by decide) (by decide)
theorem st_swear {h : HS} (I : IV h) (i o j : Int32) : St (fun h => f_X4_swear h i o j) (fun h => f_X5_swear h i o j) h := by
  obtain ⟨n, m, I'⟩ := id I
  obtain ⟨B, ⟨x, c, A⟩, -, -, -, -⟩ := id I'
  obtain ⟨H, hF, hn, hm⟩ := B
  have h6 := H.1.2.2.1
  have h4 := H.1.2.2.2
  unfold St f_X4_swear f_X5_swear
  simp only [C_isPerson H, C_isMatter H, bd_s]
  rcases nI_rg i n (by omega) with z | ⟨i, hi, rfl⟩
  · rw [z]; exact ⟨-1, h, h, if_neg (by decide), by rw [M_isPerson hn h6, bd_s, z, if_neg (by decide)], I⟩
  rcases nI_rg o n (by omega) with z | ⟨o, ho, rfl⟩
  · rw [z, inB_nI hi (by omega)]
    refine ⟨-1, h, h, by rw [if_pos rfl, if_neg (by decide)], by rw [M_isPerson hn h6, bd_s, inB_nI hi (by omega), if_pos rfl, M_isPerson hn h6, bd_s, z, if_neg (by decide)], I⟩
  rcases nI_rg j m (by omega) with z | ⟨j, hj, rfl⟩
  · rw [z, inB_nI hi (by omega), inB_nI ho (by omega)]
    refine ⟨-1, h, h, by rw [if_pos rfl, if_pos rfl, if_neg (by decide)], by rw [M_isPerson hn h6, bd_s, inB_nI hi (by omega), if_pos rfl, M_isPerson hn h6, bd_s, inB_nI ho (by omega), if_pos rfl, M_isMatter hm h4, bd_s, z, if_neg (by decide)], I⟩
  rw [inB_nI hi (by omega), inB_nI ho (by omega), inB_nI hj (by omega), C_canLearn H hi ho hj]
  simp only [bd_s, if_true]
  have cs := M_canSwear hn h6 hm h4 (lv := 0) (by omega) hi ho hj
  rw [nI_0] at cs
  by_cases q : (decide (lvf h 0 (13 + j) = -9) && cp (lvf h 0) j i o) = true
  · rw [if_pos q]
    have q2 := q
    rw [Bool.and_eq_true, decide_eq_true_eq] at q2
    rw [C_toldBy H hF hi ho hj q2.2, bd_s]
    obtain ⟨h5, e5, C5, O5⟩ := C_setKnown H hj (tl (lvf h 0) (h.1 37) j i o)
    obtain ⟨h1, e1, C1, D⟩ := cls_add A.1.2.2.1 A.1.2.1 C5 O5 4 (nI j) (-9)
    have d36 := D.fn (d := 36) (by omega)
    have d37 := D.fn (d := 37) (by omega)
    have d38 := D.fn (d := 38) (by omega)
    have cs' := M_canSwear (h := h1) (by rw [d36]; exact hn) h6 (by rw [d36]; exact hm) h4 (lv := 0) (by omega) hi ho hj
    rw [nI_0, lv0, d38, ← lv0, q] at cs'
    have sw := M_sworn (h := ks h1 x c) (lv := 0) (by omega) (show i < 6 by omega) (show o < 6 by omega) (show j < 4 by omega)
    rw [nI_0, lv0, ks_fn _ _ _ (by decide), ks_fn _ _ _ (by decide), d37, d38, ← lv0] at sw
    refine ⟨tl (lvf h 0) (h.1 37) j i o, h1, hset (ks h1 x c) 38 (13 + j) (tl (lvf h 0) (h.1 37) j i o), ?_, ?_, ?_⟩
    · rw [e5, bd_s, e1, bd_s, C_knownAs C1 hj, bd_s]
      unfold knF
      rw [upd_s]
    · rw [M_isPerson (by rw [d36]; exact hn) h6, bd_s, inB_nI hi (by omega), if_pos rfl, M_isPerson (by rw [d36]; exact hn) h6, bd_s, inB_nI ho (by omega), if_pos rfl, M_isMatter (by rw [d36]; exact hm) h4, bd_s, inB_nI hj (by omega), if_pos rfl, cs', bd_s, if_pos rfl, M_keepAct (x := x) (c := c) (by rw [d36]; exact A.1.2.2.2.2) (by rw [d36]; exact A.1.2.2.2.1) A.1.1 A.1.2.1, bd_s, sw, bd_s, L13, nI_add, wr38 _ _ (by omega), bd_s, rd38 _ (by omega), bd_s, hs_s]
    · refine act_end I' A C1 (FR_kn h6 hF j _) D (fun d k z => ?_) rfl (fun k hk => ?_) ?_
      · rw [hs_o _ _ (by omega)]
      · unfold knF
        by_cases e : k = 13 + j
        · subst e; rw [hs_s, upd_s]
        · rw [hs_o _ _ (by omega), ks_fn _ _ _ (by decide), d38, upd_n _ _ e, lv0]
      · rw [← lv0]
        have := UN_kn hF hj 4 (tl (lvf h 0) (h.1 37) j i o) (by decide) (by decide)
        rw [q2.1] at this
        exact this
  · rw [if_neg q]
    refine ⟨-3, h, h, rfl, ?_, I⟩
    rw [M_isPerson hn h6, bd_s, inB_nI hi (by omega), if_pos rfl, M_isPerson hn h6, bd_s, inB_nI ho (by omega), if_pos rfl, M_isMatter hm h4, bd_s, inB_nI hj (by omega), if_pos rfl, cs, bd_s, if_neg q]
theorem M_dropOn (h : HS) {lv p : Nat} (hl : lv < 2) (hp : p < 6) : ∃ h', f_X5_dropOn h (nI lv) (nI p) = some h' ∧ (∀ k, k < 23 → h'.1 38 (23 * lv + k) = drF (lvf h lv) p k) ∧
    (∀ d k, ¬ (d = 38 ∧ 23 * lv ≤ k ∧ k < 23 * lv + 23) → h'.1 d k = h.1 d k) ∧ h'.2 = h.2 := by
  unfold f_X5_dropOn
  simp only [Lt_e, jn_e]
  rw [one_nI, ix3, rdl h hl (by omega), bd_s, L17, ix3, L23, pk_mul]
  have e0 : nI (23 * lv) = nI (23 * lv + 0) := rfl
  by_cases q : lvf h lv (1 + p) = 2
  · rw [if_pos q, wr38 _ _ (by omega), bd_s, rd38 _ (by omega), bd_s, wr38 _ _ (by omega), bd_s]
    refine ⟨_, rfl, fun k hk => ?_, fun d k z => ?_, rfl⟩
    · unfold drF
      rw [if_pos q]
      by_cases q1 : k = 17 + p
      · subst q1
        rw [hs_s, hs_o _ _ (by omega), upd_s, one_nI]
        rfl
      · rw [hs_o _ _ (by omega), upd_n _ _ q1]
        by_cases q2 : k = 1 + p
        · subst q2; rw [hs_s, upd_s]
        · rw [hs_o _ _ (by omega), upd_n _ _ q2]; rfl
    · rw [hs_o _ _ (by omega), hs_o _ _ (by omega)]
  · rw [if_neg q, e0, rdl h hl (by omega), bd_s, wr38 _ _ (by omega), bd_s, rd38 _ (by omega), bd_s, wr38 _ _ (by omega), bd_s]
    refine ⟨_, rfl, fun k hk => ?_, fun d k z => ?_, rfl⟩
    · unfold drF
      rw [if_neg q]
      by_cases q1 : k = 17 + p
      · subst q1
        rw [hs_s, hs_o _ _ (by omega), upd_s, one_nI]
        rfl
      · rw [hs_o _ _ (by omega), upd_n _ _ q1]
        by_cases q2 : k = 0
        · subst q2; rw [hs_s, upd_s, one_nI]
        · rw [hs_o _ _ (by omega), upd_n _ _ q2]; rfl
    · rw [hs_o _ _ (by omega), hs_o _ _ (by omega)]
theorem st_drop {h : HS} (I : IV h) (p : Int32) : St (fun h => f_X4_drop h p) (fun h => f_X5_drop h p) h := by
  obtain ⟨n, m, I'⟩ := id I
  obtain ⟨B, ⟨x, c, A⟩, -, -, -, -⟩ := id I'
  obtain ⟨H, hF, hn, hm⟩ := B
  have h6 := H.1.2.2.1
  have h4 := H.1.2.2.2
  unfold St f_X4_drop f_X5_drop
  simp only [C_isPerson H, bd_s]
  rcases nI_rg p n (by omega) with z | ⟨p, hp, rfl⟩
  · rw [z]; exact ⟨-1, h, h, if_neg (by decide), by rw [M_isPerson hn h6, bd_s, z, if_neg (by decide)], I⟩
  rw [inB_nI hp (by omega), C_canLose H hF hp]
  simp only [bd_s, if_true]
  have cs := M_canDrop hn h6 (lv := 0) (by omega) hp
  rw [nI_0] at cs
  by_cases q : lvf h 0 (1 + p) = 3
  · rw [decide_eq_true q]
    rw [decide_eq_true q] at cs
    refine ⟨-3, h, h, if_neg (by decide), ?_, I⟩
    rw [M_isPerson hn h6, bd_s, inB_nI hp (by omega), if_pos rfl, cs, bd_s, if_neg (by decide)]
  · rw [decide_eq_false q]
    rw [if_pos (by decide), C_kindOf H hF hp, bd_s]
    obtain ⟨h5, e5, C5, D5⟩ := cls_add A.1.2.2.1 A.1.2.1 H (Oc.rf 3 h) 3 (nI p) (lvf h 0 (1 + p))
    obtain ⟨h1, e1, C1, O1⟩ := C_loseGlass C5 hF hp
    have D := D5.oc O1
    have d36 := D.fn (d := 36) (by omega)
    have d38 := D.fn (d := 38) (by omega)
    have cs' := M_canDrop (h := h1) (by rw [d36]; exact hn) h6 (lv := 0) (by omega) hp
    rw [nI_0, lv0, d38, ← lv0, decide_eq_false q] at cs'
    obtain ⟨h2, e2, g2, o2, l2⟩ := M_dropOn (ks h1 x c) (lv := 0) (by omega) (show p < 6 by omega)
    rw [nI_0] at e2
    have g3 : ∀ k, k < 23 → h2.1 38 k = drF (lvf h 0) p k := fun k hk => by
      have := g2 k hk
      rw [lv0 (ks h1 x c), ks_fn _ _ _ (by decide), d38, ← lv0 h, Nat.mul_zero, Nat.zero_add] at this
      exact this
    refine ⟨b2i (bt (drF (lvf h 0) p 0) p), h1, h2, ?_, ?_, ?_⟩
    · rw [e5, bd_s, e1, bd_s, C_eyeOf C1 hp, bd_s]
    · rw [M_isPerson (by rw [d36]; exact hn) h6, bd_s, inB_nI hp (by omega), if_pos rfl, cs', bd_s, if_pos (by decide), M_keepAct (x := x) (c := c) (by rw [d36]; exact A.1.2.2.2.2) (by rw [d36]; exact A.1.2.2.2.1) A.1.1 A.1.2.1, bd_s, e2, bd_s, rd38_0, bd_s, lv0, g3 0 (by omega), bt_get _ (by omega)]
    · refine act_end I' A C1 (FR_dr h6 hF hp) D (fun d k z => ?_) l2 g3 ?_
      · exact o2 d k (by omega)
      · rw [← lv0]
        exact UN_dr h6 hF hp
theorem C_takeBack {h : HS} {n m x c : Nat} {hl : Nat → Int32} (H : CR h 3 (lvf h 0) hl n m) (A : ACx h n m x c) (c0 : 0 < c) : ∃ h1, f_X0_takeBackLast h 3 = some h1 ∧ CR h1 3 (sn h x c (c - 1)) hl n m ∧
    (∀ d k, ¬ (3 ≤ d ∧ d ≤ 8) → ¬ (d = 27 ∧ k = 3) → h1.1 d k = h.1 d k) ∧ h1.2 = h.2 ∧ h1.1 27 3 = nI (c - 1) := by
  obtain ⟨⟨x14, c14, e1, e2, e3⟩, U⟩ := A
  have e : sn h x c (c - 1 + 1) = lvf h 0 := by
    rw [lv0]; funext k; unfold sn; rw [if_neg (by omega)]
  have u := U (c - 1) (by omega)
  rw [e] at u
  have Hg : CR (hset h 27 3 (nI (c - 1))) 3 (lvf h 0) hl n m := CR_move H fun b k hb => by rw [hs_o _ _ (by omega)]
  have fin : ∀ {h1 : HS}, Oc 3 (hset h 27 3 (nI (c - 1))) h1 → (∀ d k, ¬ (3 ≤ d ∧ d ≤ 8) → ¬ (d = 27 ∧ k = 3) → h1.1 d k = h.1 d k) ∧ h1.2 = h.2 ∧ h1.1 27 3 = nI (c - 1) := by
    intro h1 O
    refine ⟨fun d k z1 z2 => by rw [O.1 _ _ (by omega), hs_o _ _ (by omega)], O.2, by rw [O.1 _ _ (by omega), hs_s]⟩
  unfold f_X0_takeBackLast
  rw [e1, one_nI, if_neg (nI_nlt (by omega) (by omega)), L14, if_neg (nI_nlt (by omega) (by omega)), nI_sub (by omega), ← one_nI]
  simp only [Lt_e]
  rw [hs_s, rd_nI _ _ (by omega) (by omega), rd_nI _ _ (by omega) (by omega), rd_nI _ _ (by omega) (by omega), hs_o _ _ (by omega), hs_o _ _ (by omega), hs_o _ _ (by omega)]
  simp only [bd_s]
  rcases u.2 with ⟨h1, p, j, hp, hj, ea, eb, hk⟩ | ⟨h1, p, hp, ea, eb, hk⟩ | ⟨h1, h2, j, hj, ea, hk⟩
  · rw [if_pos h1, ea, eb]
    obtain ⟨g, eg, Cg, Og⟩ := C_letUnsee Hg hp hj
    exact ⟨g, by rw [eg, bd_s], CR_congr Cg hk, fin Og⟩
  · rw [if_neg (by rw [h1]; decide), if_pos h1, ea]
    obtain ⟨g, eg, Cg, Og⟩ := C_regain Hg hp (h.1 30 (c - 1))
    exact ⟨g, by rw [eg, bd_s], CR_congr Cg hk, fin Og⟩
  · rw [if_neg h1, if_neg h2, ea]
    obtain ⟨g, eg, Cg, Og⟩ := C_setKnown Hg hj (h.1 30 (c - 1))
    exact ⟨g, by rw [eg, bd_s], CR_congr Cg hk, fin Og⟩
theorem st_undo {h : HS} (I : IV h) : St (fun h => f_X4_undo h) (fun h => f_X5_undo h) h := by
  obtain ⟨n, m, I'⟩ := id I
  obtain ⟨B, ⟨x, c, A⟩, ⟨q, HH⟩, T, K, s⟩ := id I'
  have H := B.1
  have h6 := H.1.2.2.1
  have h4 := H.1.2.2.2
  unfold St f_X4_undo
  simp only [A.1.2.2.1]
  by_cases c0 : c = 0
  · subst c0
    refine ⟨-3, h, h, if_pos nI_0, ?_, I⟩
    unfold f_X5_undo
    rw [A.1.2.2.2.1, if_pos nI_0]
  · rw [if_neg (nI_ne0 (by omega) (by have := A.1.2.1; omega))]
    obtain ⟨h1, e1, C1, o1, l1, r1⟩ := C_takeBack H A (by omega)
    have c14 := A.1.2.1
    have x14 := A.1.1
    have y14 : (x + 13) % 14 < 14 := Nat.mod_lt _ (by omega)
    have gn : ∀ d k, ¬ (3 ≤ d ∧ d ≤ 8) → ¬ (d = 27 ∧ k = 3) → ¬ (d = 36 ∧ (k = 13 ∨ k = 14)) → ¬ (d = 38 ∧ k < 23) → (us h1 ((x + 13) % 14) c).1 d k = h.1 d k := by
      intro d k z1 z2 z3 z4
      unfold us
      rw [cp_o _ _ (by omega), hs_o _ _ (by omega), hs_o _ _ (by omega), o1 d k z1 z2]
    have gs : ∀ k, k < 23 → (us h1 ((x + 13) % 14) c).1 38 k = sn h x c (c - 1) k := by
      intro k hk
      have : (us h1 ((x + 13) % 14) c).1 38 (0 + k) = h1.1 43 (23 * ((x + 13) % 14) + k) := by
        unfold us
        rw [cp_i _ _ hk]
      rw [Nat.zero_add] at this
      rw [this, o1 43 _ (by omega) (by omega)]
      unfold sn
      rw [if_pos (by omega), show (x + 14 - c + (c - 1)) % 14 = (x + 13) % 14 by omega]
    have gc : ∀ d k, (3 ≤ d ∧ d ≤ 8) ∨ (d = 27 ∧ k = 3) → (us h1 ((x + 13) % 14) c).1 d k = h1.1 d k := by
      intro d k z
      unfold us
      rw [cp_o _ _ (by omega), hs_o _ _ (by omega), hs_o _ _ (by omega)]
    have gl : ∀ k, k < 23 → lvf (us h1 ((x + 13) % 14) c) 0 k = sn h x c (c - 1) k := fun k hk => by rw [lv0]; exact gs k hk
    refine ⟨nI (c - 1), h1, us h1 ((x + 13) % 14) c, by rw [e1, bd_s, r1], M_undo (x := x) (by rw [o1 _ _ (by omega) (by omega)]; exact A.1.2.2.2.2) (by rw [o1 _ _ (by omega) (by omega)]; exact A.1.2.2.2.1) x14 c14 (by omega) rfl, n, m, ?_⟩
    refine ⟨⟨CR_hl (CR_congr (CR_move C1 fun b k hb => gc b k (by omega)) gl) (fun k hk => gn 37 k (by omega) (by omega) (by omega) (by omega)), FR_congr h6 (A.2 (c - 1) (by omega)).1 gl, ?_, ?_⟩, ⟨(x + 13) % 14, c - 1, ⟨y14, by omega, ?_, ?_, ?_⟩, fun i hi => ?_⟩, ⟨q, HH.mv fun b k hb => gn b k (by omega) (by omega) (by omega) (by omega)⟩, T.mv fun b k hb => gn b k (by omega) (by omega) (by omega) (by omega), K.mv fun b k hb => gn b k (by omega) (by omega) (by omega) (by omega), ?_⟩
    · rw [gn _ _ (by omega) (by omega) (by omega) (by omega)]; exact B.2.2.1
    · rw [gn _ _ (by omega) (by omega) (by omega) (by omega)]; exact B.2.2.2
    · rw [gc _ _ (by omega)]; exact r1
    · unfold us
      rw [cp_o _ _ (by omega), hs_o _ _ (by omega), hs_s]
    · unfold us
      rw [cp_o _ _ (by omega), hs_s]
    · rw [gn _ _ (by omega) (by omega) (by omega) (by omega), gn _ _ (by omega) (by omega) (by omega) (by omega), gn _ _ (by omega) (by omega) (by omega) (by omega)]
      have old : ∀ i k, i ≤ c - 1 → k < 23 → sn (us h1 ((x + 13) % 14) c) ((x + 13) % 14) (c - 1) i k = sn h x c i k := by
        intro i k hi hk
        by_cases e : i < c - 1
        · unfold sn
          rw [if_pos e, if_pos (by omega), gn _ _ (by omega) (by omega) (by omega) (by omega), show ((x + 13) % 14 + 14 - (c - 1) + i) % 14 = (x + 14 - c + i) % 14 by omega]
        · have : i = c - 1 := by omega
          subst this
          have e2 : sn (us h1 ((x + 13) % 14) c) ((x + 13) % 14) (c - 1) (c - 1) k = (us h1 ((x + 13) % 14) c).1 38 k := by
            unfold sn
            rw [if_neg (by omega)]
          rw [e2]
          exact gs k hk
      exact UN_congr h6 h4 (A.2 i (by omega)) (fun k hk => old _ _ (by omega) hk) (fun k hk => old _ _ (by omega) hk)
    · show h1.2 0 = h1.2 36
      rw [l1]; exact s
