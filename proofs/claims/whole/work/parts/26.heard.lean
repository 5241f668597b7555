/-! heard, counts -/
theorem esc2 {A B R : Type} {body : (A → B → Option R) → A → B → Option R} {e : Option R} (F : Nat → A) (G : Nat → B) (N : Nat) (g : Nat → Bool) (val : Nat → Option R) (hs : ∀ rec i, i < N → body rec (F i) (G i) = if g i = true then val i else rec (F (i + 1)) (G (i + 1))) (he : ∀ rec, body rec (F N) (G N) = e) : ∀ f i, i ≤ N → N < f + i → loop2 body f (F i) (G i) = srO g val e (N - i) i := by
  intro f
  induction f with
  | zero => intro i h1 h2; omega
  | succ f ih =>
    intro i h1 h2
    show body (loop2 body f) (F i) (G i) = _
    by_cases hi : i < N
    · rw [hs _ i hi, show N - i = (N - (i + 1)) + 1 by omega]
      show _ = if g i = true then val i else srO g val e (N - (i + 1)) (i + 1)
      by_cases hg : g i = true
      · rw [if_pos hg, if_pos hg]
      · rw [if_neg hg, if_neg hg]
        exact ih (i + 1) (by omega) (by omega)
    · rw [show i = N by omega, he, Nat.sub_self]
      rfl
def anyB (g : Nat → Bool) : Nat → Bool
  | 0 => false
  | k + 1 => anyB g k || g k
theorem srO_any {R : Type} (g : Nat → Bool) (c : Option R) : ∀ (N : Nat) (e : Option R), srO g (fun _ => c) e N 0 = if anyB g N = true then c else e
  | 0, e => rfl
  | N + 1, e => by
    have h1 := srO_app g (fun _ => c) e N 1 0
    rw [Nat.zero_add] at h1
    rw [← h1, srO_any g c N]
    show (if anyB g N = true then c else if g N = true then c else e) = if (anyB g N || g N) = true then c else e
    cases anyB g N <;> cases g N <;> rfl
def HD (h : HS) (q : Nat) : Prop := (h.1 31 3 = nI q ∧ h.1 36 17 = nI q ∧ q ≤ 6) ∧ ∀ k, k < q → h.1 32 k = h.1 45 k ∧ h.1 33 k = h.1 46 k ∧ h.1 34 k = h.1 47 k
section HEARD
variable {h : HS} {n m q : Nat}
/-- at place k something is said of the half: as v, as 9 less v, otherwise -/
def hm (h : HS) (j s : Int32) (k : Nat) : Bool := decide (h.1 45 k = j) && decide (h.1 46 k = s)
def hbad (h : HS) (j s v : Int32) (k : Nat) : Bool := hm h j s k && (!decide (h.1 47 k = v) && !decide (h.1 47 k = 9 - v))
def hlie (h : HS) (j s v : Int32) (k : Nat) : Bool := hm h j s k && decide (h.1 47 k = 9 - v)
theorem v_ne : ∀ v, v < 10 → nI v ≠ 9 - nI v := by decide +kernel
theorem C_allows (H : HD h q) (j s : Int32) {v : Nat} (hv : v < 10) (l : Int32) : f_X2_allows h j s (nI v) l = some (!anyB (hbad h j s (nI v)) q && !decide (l < nI (cN (hlie h j s (nI v)) q))) := by
  obtain ⟨⟨e1, e2, h6⟩, hk⟩ := H
  unfold f_X2_allows
  have key := esc2 (body := fun rec3 (i1 : Int32) (i2 : Int32) => jn (if l < i1 then (some false) else (some true)) (fun j5 => if i2 < (h.1 31 3) then (if i2 < 6 then (bd (rd h 32 6 i2) fun r7 => jn (fun (w8 : Int32) => rec3 w8 (i2 + 1)) (fun j9 => if r7 = j then (bd (rd h 33 6 i2) fun r11 => if r11 = s then (bd (rd h 34 6 i2) fun r12 => if r12 = nI v then (j9 i1) else (bd (rd h 34 6 i2) fun r13 => if r13 = (9 - nI v) then (j9 (i1 + 1)) else (some false))) else (j9 i1)) else (j9 i1))) else (j5)) else (j5))) (e := some (!decide (l < nI (cN (hlie h j s (nI v)) q)))) (fun k => nI (cN (hlie h j s (nI v)) k)) (fun k => nI k) q (hbad h j s (nI v)) (fun _ => some false) (fun rec k hkq => by
      obtain ⟨k1, k2, k3⟩ := hk k hkq
      simp only [jn_e, e1]
      rw [if_pos (nI_lt hkq (by omega)), L6, if_pos (nI_lt (by omega) (by omega)), rd_nI _ _ (by omega) (by omega), rd_nI _ _ (by omega) (by omega), rd_nI _ _ (by omega) (by omega), k1, k2, k3]
      simp only [bd_s, nI_p1]
      have c1 : cN (hlie h j s (nI v)) (k + 1) = if hlie h j s (nI v) k = true then cN (hlie h j s (nI v)) k + 1 else cN (hlie h j s (nI v)) k := rfl
      rw [c1]
      unfold hbad hlie hm
      by_cases a1 : h.1 45 k = j
      · by_cases a2 : h.1 46 k = s
        · by_cases a3 : h.1 47 k = nI v
          · have a4 : ¬ nI v = 9 - nI v := v_ne v hv
            simp [a1, a2, a3, a4]
          · by_cases a4 : h.1 47 k = 9 - nI v
            · have a5 : ¬ 9 - nI v = nI v := fun e => v_ne v hv e.symm
              simp [a1, a2, a4, a5]
            · simp [a1, a2, a3, a4]
        · simp [a1, a2]
      · simp [a1]) (fun rec => by
      simp only [jn_e, e1]
      rw [if_neg (nI_nlt (Nat.le_refl _) (by omega))]
      by_cases a : l < nI (cN (hlie h j s (nI v)) q)
      · rw [if_pos a]; simp [a]
      · rw [if_neg a]; simp [a]) 400 0 (by omega) (by omega)
  rw [Nat.sub_zero, srO_any] at key
  refine Eq.trans key ?_
  cases anyB (hbad h j s (nI v)) q <;> rfl
theorem M_mayBe (H : HD h q) (j s : Int32) {v : Nat} (hv : v < 10) (l : Int32) : f_X5_mayBe h j s (nI v) l = some (!anyB (hbad h j s (nI v)) q && !decide (l < nI (cN (hlie h j s (nI v)) q))) := by
  obtain ⟨⟨e1, e2, h6⟩, hk⟩ := H
  unfold f_X5_mayBe
  refine fin3 (fun k => nI (cN (hlie h j s (nI v)) k)) (fun k => b2i (!anyB (hbad h j s (nI v)) k)) (fun k => nI k) q (fun rec k hkq => ?_) (fun rec => ?_) 400 0 (by omega) (by omega)
  · rw [e2, if_pos (nI_lt hkq (by omega)), rd_nI _ _ (by omega) (by omega), rd_nI _ _ (by omega) (by omega), rd_nI _ _ (by omega) (by omega)]
    simp only [bd_s, nI_p1, jn_e, Lt_e]
    have c1 : cN (hlie h j s (nI v)) (k + 1) = if hlie h j s (nI v) k = true then cN (hlie h j s (nI v)) k + 1 else cN (hlie h j s (nI v)) k := rfl
    have c2 : anyB (hbad h j s (nI v)) (k + 1) = (anyB (hbad h j s (nI v)) k || hbad h j s (nI v) k) := rfl
    have hx : ∀ x : Int32, x + 0 = x := Int32.add_zero
    rw [c1, c2]
    generalize anyB (hbad h j s (nI v)) k = ab
    unfold hbad hlie hm
    by_cases a1 : h.1 45 k = j
    · by_cases a2 : h.1 46 k = s
      · by_cases a3 : h.1 47 k = nI v
        · have a4 : ¬ nI v = 9 - nI v := v_ne v hv
          cases ab <;> simp [a1, a2, a3, a4, b2i_t, b2i_f, hx]
        · by_cases a4 : h.1 47 k = 9 - nI v
          · have a5 : ¬ 9 - nI v = nI v := fun e => v_ne v hv e.symm
            cases ab <;> simp [a1, a2, a4, a5, b2i_t, b2i_f, hx, nI_p1]
          · cases ab <;> simp [a1, a2, a3, a4, b2i_t, b2i_f, hx]
      · simp [a1, a2]
    · simp [a1]
  · rw [e2, if_neg (nI_nlt (Nat.le_refl _) (by omega))]
    generalize anyB (hbad h j s (nI v)) q = ab
    by_cases a : l < nI (cN (hlie h j s (nI v)) q)
    · rw [if_pos a]; cases ab <;> simp [a, b2i_t, b2i_f]
    · rw [if_neg a]; cases ab <;> simp [a, b2i_t, b2i_f]
theorem L10 : (10 : Int32) = nI 10 := by decide +kernel
theorem L9 : (9 : Int32) = nI 9 := by decide +kernel
theorem q_values (B : Base h n m) (H : HD h q) (j s l : Int32) : Both (f_X4_values h j s l) (f_X5_values h j s l) := by
  obtain ⟨Hc, hF, hn, hm⟩ := B
  have h6 := Hc.1.2.2.1
  have h4 := Hc.1.2.2.2
  unfold f_X4_values f_X5_values
  rw [C_isMatter Hc, M_isMatter hm h4, bd_s, bd_s]
  rcases nI_rg j m (by omega) with hz | ⟨j, hj, rfl⟩
  · rw [hz]; exact ⟨_, rfl, rfl⟩
  rw [inB_nI hj (by omega), if_pos rfl, if_pos rfl, X4_isHalf, in_01, bd_s, bd_s]
  rcases nI_rg s 2 (by omega) with hz | ⟨s, hs, rfl⟩
  · rw [hz]; exact ⟨_, rfl, rfl⟩
  rw [inB_nI hs (by omega), if_pos rfl, if_pos rfl, in_n h l 6 (t := 6) (by decide), bd_s]
  rcases nI_rg2 l 7 (by omega) with hz | ⟨l, hl, rfl⟩
  · rw [inB_out hz, if_neg (show ¬ false = true by decide)]
    by_cases c1 : l < 0
    · rw [if_pos c1]; exact ⟨_, rfl, rfl⟩
    · rw [if_neg c1]
      by_cases c2 : (6 : Int32) < l
      · rw [if_pos c2]; exact ⟨_, rfl, rfl⟩
      · rw [Int32.lt_iff_toInt_lt, Int32.toInt_zero] at c1
        rw [Int32.lt_iff_toInt_lt, show (6 : Int32).toInt = 6 by decide] at c2
        omega
  rw [inB_nI hl (by omega), if_pos rfl, if_neg (nI_pos (by omega)), L6, if_neg (nI_nlt (by omega) (by omega))]
  generalize hg : (fun v => !anyB (hbad h (nI j) (nI s) (nI v)) q && !decide (nI l < nI (cN (hlie h (nI j) (nI s) (nI v)) q))) = g
  have eg : ∀ v, (!anyB (hbad h (nI j) (nI s) (nI v)) q && !decide (nI l < nI (cN (hlie h (nI j) (nI s) (nI v)) q))) = g v := fun v => by rw [← hg]
  refine both_i (mkk g 10) ?_ ?_
  · refine fin2 (fun i => mkk g i) (fun i => nI i) 10 (fun rec i hi => ?_) (fun rec => ?_) 400 0 (by omega) (by omega)
    · rw [L9, if_neg (nI_nlt (by omega) (by omega)), C_allows H _ _ hi, eg, bd_s]
      simp only [jn_e, Lt_e, nI_p1, mkk]
      by_cases z : g i = true
      · rw [if_pos z, if_pos z]
      · rw [if_neg z, if_neg z, or_0]
    · rw [L9, if_pos (nI_lt (by omega) (by omega))]
  · refine fin2 (fun i => mkk g i) (fun i => nI i) 10 (fun rec i hi => ?_) (fun rec => ?_) 400 0 (by omega) (by omega)
    · rw [L10, if_pos (nI_lt (by omega) (by omega)), M_mayBe H _ _ hi, eg, bd_s]
      simp only [jn_e, Lt_e, nI_p1, mkk]
      by_cases z : g i = true
      · rw [if_pos z, if_pos z]
      · rw [if_neg z, if_neg z]
    · rw [L10, if_neg (nI_nlt (by omega) (by omega))]
/-! what is known -/
def kw (f : Nat → Int32) (m : Nat) : Int32 := mkk (fun j => decide (f (13 + j) ≠ -9)) m
def kr (f hl : Nat → Int32) (m : Nat) : Int32 := mkk (fun j => decide (f (13 + j) = 10 * hl j + hl (4 + j))) m
theorem C_known {a : Nat} {f hl : Nat → Int32} (H : CR h a f hl n m) : f_X1_knownMatters h a = some (kw f m) := by
  have h4 := H.1.2.2.2
  unfold f_X1_knownMatters
  refine fin2 (fun i => kw f i) (fun i => nI i) m (fun rec i hi => ?_) (fun rec => ?_) 400 0 (by omega) (by omega)
  · rw [H.1.2.1, if_pos (nI_lt hi (by omega)), C_knownAs H hi, bd_s]
    simp only [jn_e, Lt_e, nI_p1, kw, mkk]
    by_cases z : f (13 + i) = -9
    · rw [if_pos z, if_neg (by simp [z]), or_0]
    · rw [if_neg z, if_pos (by simp [z])]
  · rw [H.1.2.1, if_neg (nI_nlt (Nat.le_refl _) (by omega))]
theorem C_rightly {a : Nat} {f hl : Nat → Int32} (H : CR h a f hl n m) : f_X1_rightlyKnownMatters h a = some (kr f hl m) := by
  have h4 := H.1.2.2.2
  unfold f_X1_rightlyKnownMatters
  refine fin2 (fun i => kr f hl i) (fun i => nI i) m (fun rec i hi => ?_) (fun rec => ?_) 400 0 (by omega) (by omega)
  · rw [H.1.2.1, if_pos (nI_lt hi (by omega)), C_knownAs H hi, C_asItIs H hi, bd_s, bd_s]
    simp only [jn_e, Lt_e, nI_p1, kr, mkk]
    by_cases z : f (13 + i) = 10 * hl i + hl (4 + i)
    · rw [if_pos z, if_pos (by simp [z])]
    · rw [if_neg z, if_neg (by simp [z]), or_0]
  · rw [H.1.2.1, if_neg (nI_nlt (Nat.le_refl _) (by omega))]
theorem M_known (hm : h.1 36 1 = nI m) (h4 : m ≤ 4) : f_X5_known h 0 = some (kw (lvf h 0) m) ∧ f_X5_known h 1 = some (kr (lvf h 0) (h.1 37) m) := by
  constructor
  · unfold f_X5_known
    refine fin2 (fun i => kw (lvf h 0) i) (fun i => nI i) m (fun rec i hi => ?_) (fun rec => ?_) 400 0 (by omega) (by omega)
    · rw [hm, if_pos (nI_lt hi (by omega)), L13, nI_add, rd38 h (by omega), ← lv0]
      simp only [jn_e, Lt_e, nI_p1, kw, mkk, bd_s]
      by_cases z : lvf h 0 (13 + i) = -9
      · simp [z]
      · simp [z]
    · rw [hm, if_neg (nI_nlt (Nat.le_refl _) (by omega))]
  · unfold f_X5_known
    refine fin2 (fun i => kr (lvf h 0) (h.1 37) i) (fun i => nI i) m (fun rec i hi => ?_) (fun rec => ?_) 400 0 (by omega) (by omega)
    · rw [hm, if_pos (nI_lt hi (by omega)), L13, nI_add, rd38 h (by omega), ← lv0, rd37 h (by omega), L4, nI_add, rd37 h (by omega)]
      simp only [jn_e, Lt_e, nI_p1, kr, mkk, bd_s]
      by_cases z : lvf h 0 (13 + i) = 10 * h.1 37 i + h.1 37 (4 + i)
      · simp [z]
      · simp [z]
    · rw [hm, if_neg (nI_nlt (Nat.le_refl _) (by omega))]
def sm (f : Nat → Int32) : Nat → Int32
  | 0 => 0
  | p + 1 => sm f p + f (17 + p)
theorem C_allFines {a : Nat} {f hl : Nat → Int32} (H : CR h a f hl n m) : f_X1_allFines h a = some (sm f n) := by
  have h6 := H.1.2.2.1
  unfold f_X1_allFines
  refine fin2 (fun i => sm f i) (fun i => nI i) n (fun rec i hi => ?_) (fun rec => ?_) 400 0 (by omega) (by omega)
  · rw [H.1.1, if_pos (nI_lt hi (by omega)), C_finesOf H hi, bd_s]
    simp only [Lt_e, nI_p1]
    rfl
  · rw [H.1.1, if_neg (nI_nlt (Nat.le_refl _) (by omega))]
theorem q_count (B : Base h n m) (H : HD h q) (et : h.1 1 1 = h.1 36 10) (ea : h.1 27 3 = h.1 36 13) (w : Int32) : Both (f_X4_count h w) (f_X5_count h w) := by
  obtain ⟨Hc, hF, hn, hm⟩ := B
  have h6 := Hc.1.2.2.1
  have h4 := Hc.1.2.2.2
  have ev := M_every hn h6
  have ec := fun s => M_canBe hn h6 hm h4 (lv := 0) (by omega) s
  rw [nI_0] at ec
  have key : f_X4_count h w = (if w = 0 then (some (h.1 36 10)) else (if w = 1 then (some (h.1 36 0)) else (if w = 2 then (some (h.1 36 1)) else (if w = 3 then (bd (f_X5_every h) fun r8 => bd (f_X5_canBe h 0 r8) fun r9 => some r9) else (if w = 4 then (bd (f_X5_known h 0) fun r7 => some r7) else (if w = 5 then (bd (f_X5_known h 1) fun r6 => some r6) else (if w = 6 then (some (sm (lvf h 0) n)) else (if w = 7 then (some (h.1 36 13)) else (if w = 8 then (some (h.1 36 17)) else (some (-2))))))))))) := by
    unfold f_X4_count
    rw [et, ea, H.1.1, H.1.2.1, Hc.1.1, Hc.1.2.1, hn, hm, C_everybody Hc, C_known Hc, C_rightly Hc, C_allFines Hc, ev, (M_known hm h4).1, (M_known hm h4).2]
    simp only [bd_s, C_knowable Hc, ec]
  have key2 : f_X5_count h w = (if w = 0 then (some (h.1 36 10)) else (if w = 1 then (some (h.1 36 0)) else (if w = 2 then (some (h.1 36 1)) else (if w = 3 then (bd (f_X5_every h) fun r8 => bd (f_X5_canBe h 0 r8) fun r9 => some r9) else (if w = 4 then (bd (f_X5_known h 0) fun r7 => some r7) else (if w = 5 then (bd (f_X5_known h 1) fun r6 => some r6) else (if w = 6 then (some (sm (lvf h 0) n)) else (if w = 7 then (some (h.1 36 13)) else (if w = 8 then (some (h.1 36 17)) else (some (-2))))))))))) := by
    unfold f_X5_count
    refine fin2 (fun i => sm (lvf h 0) i) (fun i => nI i) n (fun rec i hi => ?_) (fun rec => ?_) 400 0 (by omega) (by omega)
    · rw [hn, if_pos (nI_lt hi (by omega)), L17, nI_add, rd38 h (by omega), ← lv0, bd_s]
      simp only [Lt_e, nI_p1]
      rfl
    · rw [hn, if_neg (nI_nlt (Nat.le_refl _) (by omega))]
  rw [key, key2, ev, bd_s, ec, (M_known hm h4).1, (M_known hm h4).2]
  by_cases w0 : w = 0
  · rw [if_pos w0]; exact ⟨_, rfl, rfl⟩
  rw [if_neg w0]
  by_cases w0 : w = 1
  · rw [if_pos w0]; exact ⟨_, rfl, rfl⟩
  rw [if_neg w0]
  by_cases w0 : w = 2
  · rw [if_pos w0]; exact ⟨_, rfl, rfl⟩
  rw [if_neg w0]
  by_cases w0 : w = 3
  · rw [if_pos w0]; exact ⟨_, rfl, rfl⟩
  rw [if_neg w0]
  by_cases w0 : w = 4
  · rw [if_pos w0]; exact ⟨_, rfl, rfl⟩
  rw [if_neg w0]
  by_cases w0 : w = 5
  · rw [if_pos w0]; exact ⟨_, rfl, rfl⟩
  rw [if_neg w0]
  by_cases w0 : w = 6
  · rw [if_pos w0]; exact ⟨_, rfl, rfl⟩
  rw [if_neg w0]
  by_cases w0 : w = 7
  · rw [if_pos w0]; exact ⟨_, rfl, rfl⟩
  rw [if_neg w0]
  by_cases w0 : w = 8
  · rw [if_pos w0]; exact ⟨_, rfl, rfl⟩
  rw [if_neg w0]
  exact ⟨_, rfl, rfl⟩
end HEARD
