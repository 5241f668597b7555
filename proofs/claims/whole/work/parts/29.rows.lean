/-! copying -/
def cpH (h : HS) (b t : Nat) (v : Nat → Int32) (i : Nat) : HS := (fun c j => if c = b ∧ t ≤ j ∧ j < t + i then v (j - t) else h.1 c j, h.2)
theorem HS_ext {h h' : HS} (h1 : ∀ c j, h.1 c j = h'.1 c j) (h2 : h.2 = h'.2) : h = h' := by
  obtain ⟨x1, x2⟩ := h
  obtain ⟨y1, y2⟩ := h'
  have e : x1 = y1 := by funext c j; exact h1 c j
  subst e
  simp only at h2
  subst h2
  rfl
theorem cp_0 (h : HS) (b t : Nat) (v : Nat → Int32) : cpH h b t v 0 = h := HS_ext (fun c j => by
  show (if _ then _ else _) = _
  rw [if_neg (by omega)]) rfl
theorem cp_s (h : HS) (b t : Nat) (v : Nat → Int32) (i : Nat) : hset (cpH h b t v i) b (t + i) (v i) = cpH h b t v (i + 1) := HS_ext (fun c j => by
  rw [hs_1]
  show (if c = b ∧ j = t + i then v i else if c = b ∧ t ≤ j ∧ j < t + i then v (j - t) else h.1 c j) = if c = b ∧ t ≤ j ∧ j < t + (i + 1) then v (j - t) else h.1 c j
  by_cases q : c = b ∧ j = t + i
  · rw [if_pos q, if_pos ⟨q.1, by omega, by omega⟩, show j - t = i by omega]
  · rw [if_neg q]
    by_cases q2 : c = b ∧ t ≤ j ∧ j < t + i
    · rw [if_pos q2, if_pos ⟨q2.1, q2.2.1, by omega⟩]
    · rw [if_neg q2, if_neg (fun z => q2 ⟨z.1, z.2.1, by
        rcases Nat.lt_or_ge j (t + i) with w | w
        · exact w
        · exact absurd ⟨z.1, by omega⟩ q⟩)]) rfl
theorem cp_o (h : HS) {b t i c j : Nat} (v : Nat → Int32) (hne : c ≠ b ∨ j < t ∨ t + i ≤ j) : (cpH h b t v i).1 c j = h.1 c j := by
  show (if _ then _ else _) = _
  rw [if_neg]
  rintro ⟨q1, q2, q3⟩
  rcases hne with z | z | z
  · exact z q1
  · omega
  · omega
theorem cp_i (h : HS) {b t i j : Nat} (v : Nat → Int32) (h1 : j < i) : (cpH h b t v i).1 b (t + j) = v j := by
  show (if _ then _ else _) = _
  rw [if_pos ⟨rfl, by omega, by omega⟩, show t + j - t = j by omega]
theorem cp_2 (h : HS) (b t : Nat) (v : Nat → Int32) (i : Nat) : (cpH h b t v i).2 = h.2 := rfl
/-! the model's ring -/
def ks (h : HS) (x c : Nat) : HS := hset (hset (cpH h 43 (23 * x) (h.1 38) 23) 36 14 (nI ((x + 1) % 14))) 36 13 (nI (if c < 14 then c + 1 else 14))
theorem M_keepAct {h : HS} {x c : Nat} (hx : h.1 36 14 = nI x) (hc : h.1 36 13 = nI c) (x14 : x < 14) (c14 : c ≤ 14) : f_X5_keepAct h = some (ks h x c) := by
  unfold f_X5_keepAct
  have e := fin2 (body := fun rec3 (i1 : Int32) (h2 : HS) => if i1 < 23 then (bd (rd h2 38 46 i1) fun r11 => bd (wr h2 43 322 ((23 * (h2.1 36 14)) + i1) r11) fun h12 => rec3 (i1 + 1) h12) else (bd (rm ((h2.1 36 14) + 1) 14) fun r5 => Lt (hset h2 36 14 r5) fun h6 => jn (fun (t7 : Int32) => Lt (hset h6 36 13 t7) fun h10 => some h10) (fun j8 => if (h6.1 36 13) < 14 then (j8 ((h6.1 36 13) + 1)) else (j8 14)))) (res := some (ks h x c)) (fun i => nI i) (fun i => cpH h 43 (23 * x) (h.1 38) i) 23 (fun rec i hi => by
      rw [L23, if_pos (nI_lt hi (by omega)), rd_nI _ _ (by omega) (by omega), bd_s, cp_o _ _ (Or.inl (by decide)), cp_o _ _ (Or.inl (by decide)), hx, pk_mul, nI_add, wr_nI _ _ _ (by omega) (by omega), bd_s, cp_s, nI_p1]) (fun rec => by
      rw [L23, if_neg (nI_nlt (by omega) (by omega)), cp_o _ _ (Or.inl (by decide)), hx, nI_p1, L14, rmN (by omega) (by omega) (by omega), bd_s]
      simp only [Lt_e, jn_e]
      rw [hs_o _ _ (by omega), cp_o _ _ (Or.inl (by decide)), hc]
      unfold ks
      by_cases q : c < 14
      · rw [if_pos (nI_lt q (by omega)), if_pos q, nI_p1]
      · rw [if_neg (nI_nlt (by omega) (by omega)), if_neg q]) 400 0 (by omega) (by omega)
  rw [cp_0] at e
  exact e
/-- what has been undone -/
def us (h : HS) (y c : Nat) : HS := cpH (hset (hset h 36 13 (nI (c - 1))) 36 14 (nI y)) 38 0 (fun k => h.1 43 (23 * y + k)) 23
theorem M_undo_run {h : HS} {y c : Nat} (y14 : y < 14) : loop2 (fun rec6 (i4 : Int32) (h5 : HS) => if i4 < 23 then (bd (rd h5 43 322 ((23 * (h5.1 36 14)) + i4)) fun r8 => bd (wr h5 38 46 i4 r8) fun h9 => rec6 (i4 + 1) h9) else (some ((h5.1 36 13), h5))) 400 0 (hset (hset h 36 13 (nI (c - 1))) 36 14 (nI y)) = some (nI (c - 1), us h y c) := by
  have e := fin2 (body := fun rec6 (i4 : Int32) (h5 : HS) => if i4 < 23 then (bd (rd h5 43 322 ((23 * (h5.1 36 14)) + i4)) fun r8 => bd (wr h5 38 46 i4 r8) fun h9 => rec6 (i4 + 1) h9) else (some ((h5.1 36 13), h5))) (res := some (nI (c - 1), us h y c)) (fun i => nI i) (fun i => cpH (hset (hset h 36 13 (nI (c - 1))) 36 14 (nI y)) 38 0 (fun k => h.1 43 (23 * y + k)) i) 23 (fun rec i hi => by
      rw [L23, if_pos (nI_lt hi (by omega)), cp_o _ _ (Or.inl (by decide)), hs_s, pk_mul, nI_add, rd_nI _ _ (by omega) (by omega), bd_s, cp_o _ _ (Or.inl (by decide)), hs_o _ _ (by omega), hs_o _ _ (by omega), wr_nI _ _ _ (by omega) (by omega), bd_s, nI_p1]
      have := cp_s (hset (hset h 36 13 (nI (c - 1))) 36 14 (nI y)) 38 0 (fun k => h.1 43 (23 * y + k)) i
      rw [Nat.zero_add] at this
      rw [this]) (fun rec => by
      rw [L23, if_neg (nI_nlt (by omega) (by omega)), cp_o _ _ (Or.inl (by decide)), hs_o _ _ (by omega), hs_s, us]) 400 0 (by omega) (by omega)
  rw [cp_0] at e
  exact e
theorem M_undo {h : HS} {x c y : Nat} (hx : h.1 36 14 = nI x) (hc : h.1 36 13 = nI c) (x14 : x < 14) (c14 : c ≤ 14) (c0 : 0 < c) (hy : (x + 13) % 14 = y) : f_X5_undo h = some (nI (c - 1), us h y c) := by
  have y14 : y < 14 := by omega
  unfold f_X5_undo
  rw [hc, if_neg (nI_ne0 c0 (by omega)), Lt_e, show nI c - 1 = nI (c - 1) by rw [one_nI, nI_sub (by omega)], hs_o _ _ (by omega), hx, show (13 : Int32) = nI 13 from L13, nI_add, L14, rmN (by omega) (by omega) (by omega), bd_s, hy, Lt_e]
  exact M_undo_run y14
/-! the program's row of acts -/
def shH (h : HS) (i : Nat) : HS := (fun c j => if (28 ≤ c ∧ c ≤ 30) ∧ j + 1 < i then h.1 c (j + 1) else h.1 c j, h.2)
theorem sh_1 (h : HS) : shH h 1 = h := HS_ext (fun c j => by
  show (if _ then _ else _) = _
  rw [if_neg (by omega)]) rfl
theorem sh_s (h : HS) {i : Nat} (hi : 1 ≤ i) : hset (hset (hset (shH h i) 28 (i - 1) (h.1 28 i)) 29 (i - 1) (h.1 29 i)) 30 (i - 1) (h.1 30 i) = shH h (i + 1) := HS_ext (fun c j => by
  rw [hs_1, hs_1, hs_1]
  show _ = if (28 ≤ c ∧ c ≤ 30) ∧ j + 1 < i + 1 then h.1 c (j + 1) else h.1 c j
  by_cases q : j = i - 1
  · have qe : j + 1 = i := by omega
    by_cases c0 : c = 30
    · subst c0
      rw [if_pos ⟨rfl, q⟩, if_pos ⟨by omega, by omega⟩, qe]
    · rw [if_neg (fun z => c0 z.1)]
      by_cases c1 : c = 29
      · subst c1
        rw [if_pos ⟨rfl, q⟩, if_pos ⟨by omega, by omega⟩, qe]
      · rw [if_neg (fun z => c1 z.1)]
        by_cases c2 : c = 28
        · subst c2
          rw [if_pos ⟨rfl, q⟩, if_pos ⟨by omega, by omega⟩, qe]
        · rw [if_neg (fun z => c2 z.1), if_neg (by omega)]
          show (if _ then _ else _) = _
          rw [if_neg (by omega)]
  · rw [if_neg (fun z => q z.2), if_neg (fun z => q z.2), if_neg (fun z => q z.2)]
    show (if (28 ≤ c ∧ c ≤ 30) ∧ j + 1 < i then h.1 c (j + 1) else h.1 c j) = _
    by_cases q2 : (28 ≤ c ∧ c ≤ 30) ∧ j + 1 < i
    · rw [if_pos q2, if_pos (by omega)]
    · rw [if_neg q2, if_neg (by omega)]) rfl
theorem sh_o (h : HS) {i c j : Nat} (hne : (c < 28 ∨ 30 < c) ∨ i ≤ j + 1) : (shH h i).1 c j = h.1 c j := by
  show (if _ then _ else _) = _
  rw [if_neg (by omega)]
theorem sh_i (h : HS) {i c j : Nat} (hc : 28 ≤ c ∧ c ≤ 30) (hj : j + 1 < i) : (shH h i).1 c j = h.1 c (j + 1) := by
  show (if _ then _ else _) = _
  rw [if_pos (by omega)]
theorem X0_forget (h : HS) : f_X0_forgetFirst h = some (hset (shH h 14) 27 3 13) := by
  unfold f_X0_forgetFirst
  have e := fin2 (body := fun rec3 (i1 : Int32) (h2 : HS) => if i1 < 14 then (bd (rd h2 28 14 i1) fun r6 => bd (wr h2 28 14 (i1 - 1) r6) fun h7 => bd (rd h7 29 14 i1) fun r8 => bd (wr h7 29 14 (i1 - 1) r8) fun h9 => bd (rd h9 30 14 i1) fun r10 => bd (wr h9 30 14 (i1 - 1) r10) fun h11 => rec3 (i1 + 1) h11) else (Lt (hset h2 27 3 13) fun h5 => some h5)) (res := some (hset (shH h 14) 27 3 13)) (fun i => nI (i + 1)) (fun i => shH h (i + 1)) 13 (fun rec i hi => by
      rw [L14, if_pos (nI_lt (by omega) (by omega)), nI_pred, rd_nI _ _ (by omega) (by omega), bd_s, wr_nI _ _ _ (by omega) (by omega), bd_s, rd_nI _ _ (by omega) (by omega), bd_s, wr_nI _ _ _ (by omega) (by omega), bd_s, rd_nI _ _ (by omega) (by omega), bd_s, wr_nI _ _ _ (by omega) (by omega), bd_s, nI_p1]
      rw [sh_o h (Or.inr (by omega)), hs_o _ _ (by omega), sh_o h (Or.inr (by omega)), hs_o _ _ (by omega), hs_o _ _ (by omega), sh_o h (Or.inr (by omega))]
      have := sh_s h (i := i + 1) (by omega)
      rw [Nat.add_sub_cancel] at this
      rw [this]) (fun rec => by
      rw [L14, if_neg (nI_nlt (by omega) (by omega))]
      rfl) 400 0 (by omega) (by omega)
  rw [show shH h (0 + 1) = h from sh_1 h] at e
  exact e
/-- an act is added: records move on when there are 14 -/
theorem C_add {h : HS} {c : Nat} (hc : h.1 27 3 = nI c) (c14 : c ≤ 14) (w a b : Int32) : ∃ h', f_X0_add h w a b = some h' ∧ (∀ d k, ¬ (d = 27 ∧ k = 3) → ¬ (28 ≤ d ∧ d ≤ 30) → h'.1 d k = h.1 d k) ∧ h'.2 = h.2 ∧
    h'.1 27 3 = nI (if c < 14 then c + 1 else 14) ∧ (∀ i, i < (if c < 14 then c else 13) → h'.1 28 i = h.1 28 (if c < 14 then i else i + 1) ∧ h'.1 29 i = h.1 29 (if c < 14 then i else i + 1) ∧ h'.1 30 i = h.1 30 (if c < 14 then i else i + 1)) ∧
    (h'.1 28 (if c < 14 then c else 13) = w ∧ h'.1 29 (if c < 14 then c else 13) = a ∧ h'.1 30 (if c < 14 then c else 13) = b) := by
  have add : ∀ (g : HS) (c : Nat), g.1 27 3 = nI c → c < 14 → (if (g.1 27 3) < 0 then (some g) else (if (g.1 27 3) < 14 then (bd (wr g 28 14 (g.1 27 3) w) fun h4 => bd (wr h4 29 14 (h4.1 27 3) a) fun h5 => bd (wr h5 30 14 (h5.1 27 3) b) fun h6 => Lt (hset h6 27 3 ((h6.1 27 3) + 1)) fun h7 => some h7) else (some g))) = some (hset (hset (hset (hset g 28 c w) 29 c a) 30 c b) 27 3 (nI (c + 1))) := by
    intro g c hg hc
    rw [hg, if_neg (nI_pos (by omega)), L14, if_pos (nI_lt hc (by omega)), wr_nI _ _ _ (by omega) (by omega), bd_s, hs_o _ _ (by omega), hg, wr_nI _ _ _ (by omega) (by omega), bd_s, hs_o _ _ (by omega), hs_o _ _ (by omega), hg, wr_nI _ _ _ (by omega) (by omega), bd_s, hs_o _ _ (by omega), hs_o _ _ (by omega), hs_o _ _ (by omega), hg, nI_p1]
    rfl
  unfold f_X0_add
  simp only [jn_e]
  rw [hc]
  by_cases q : c < 14
  · simp only [if_pos q]
    rw [L14, if_pos (nI_lt q (by omega)), ← L14, ← hc, add h c hc q]
    refine ⟨_, rfl, fun d k h1 h2 => ?_, rfl, ?_, fun i hi => ⟨?_, ?_, ?_⟩, ?_, ?_, ?_⟩
    · rw [hs_o _ _ (by omega), hs_o _ _ (by omega), hs_o _ _ (by omega), hs_o _ _ (by omega)]
    · rw [hs_s]
    · rw [hs_o _ _ (by omega), hs_o _ _ (by omega), hs_o _ _ (by omega), hs_o _ _ (by omega)]
    · rw [hs_o _ _ (by omega), hs_o _ _ (by omega), hs_o _ _ (by omega), hs_o _ _ (by omega)]
    · rw [hs_o _ _ (by omega), hs_o _ _ (by omega), hs_o _ _ (by omega), hs_o _ _ (by omega)]
    · rw [hs_o _ _ (by omega), hs_o _ _ (by omega), hs_o _ _ (by omega), hs_s]
    · rw [hs_o _ _ (by omega), hs_o _ _ (by omega), hs_s]
    · rw [hs_o _ _ (by omega), hs_s]
  · simp only [if_neg q]
    rw [L14, if_neg (nI_nlt (by omega) (by omega)), ← L14, X0_forget, bd_s, add _ 13 (by rw [hs_s]; exact L13) (by omega)]
    refine ⟨_, rfl, fun d k h1 h2 => ?_, rfl, ?_, fun i hi => ⟨?_, ?_, ?_⟩, ?_, ?_, ?_⟩
    · rw [hs_o _ _ (by omega), hs_o _ _ (by omega), hs_o _ _ (by omega), hs_o _ _ (by omega), hs_o _ _ (by omega), sh_o h (by omega)]
    · rw [hs_s]; exact L14.symm
    · rw [hs_o _ _ (by omega), hs_o _ _ (by omega), hs_o _ _ (by omega), hs_o _ _ (by omega), hs_o _ _ (by omega), sh_i h (by omega) (by omega)]
    · rw [hs_o _ _ (by omega), hs_o _ _ (by omega), hs_o _ _ (by omega), hs_o _ _ (by omega), hs_o _ _ (by omega), sh_i h (by omega) (by omega)]
    · rw [hs_o _ _ (by omega), hs_o _ _ (by omega), hs_o _ _ (by omega), hs_o _ _ (by omega), hs_o _ _ (by omega), sh_i h (by omega) (by omega)]
    · rw [hs_o _ _ (by omega), hs_o _ _ (by omega), hs_o _ _ (by omega), hs_s]
    · rw [hs_o _ _ (by omega), hs_o _ _ (by omega), hs_s]
    · rw [hs_o _ _ (by omega), hs_s]
