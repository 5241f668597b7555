/-! what the program asks of one letter -/
def UL (f : Nat → Int32) (m p : Nat) : Bool := anyB (fun j => !bt (f (7 + p)) j) m
def UA (f : Nat → Int32) (n m : Nat) : Bool := anyB (fun p => UL f m p) n
section LET
variable {h : HS} {f hl : Nat → Int32} {n m : Nat}
theorem C_seeMore (H : CR h 9 f hl n m) {p : Nat} (hp : p < n) : f_X1_canSeeMore h 9 (nI p) = some (UL f m p) := by
  have h4 := H.1.2.2.2
  unfold f_X1_canSeeMore
  have key := esc1 (body := fun rec2 (i1 : Int32) => if i1 < (h.1 9 1) then (bd (f_X1_canSee h 9 (nI p) i1) fun r4 => if r4 = true then (some true) else (rec2 (i1 + 1))) else (some false)) (e := some false) (fun i => nI i) m (fun j => !bt (f (7 + p)) j) (fun _ => some true) (fun rec i hi => by
    rw [H.1.2.1, if_pos (nI_lt hi (by omega)), C_canSee H hp hi, bd_s, nI_p1]) (fun rec => by
    rw [H.1.2.1, if_neg (nI_nlt (Nat.le_refl _) (by omega))]) 400 0 (by omega) (by omega)
  rw [Nat.sub_zero, srO_any] at key
  refine Eq.trans key ?_
  unfold UL
  cases anyB (fun j => !bt (f (7 + p)) j) m <;> rfl
theorem C_seeMore0 (H : CR h 9 f hl n m) {v : Int32} (hv : inB v n = false) : f_X1_canSeeMore h 9 v = some false := by
  have h4 := H.1.2.2.2
  unfold f_X1_canSeeMore
  have e : ∀ i, i < m → f_X1_canSee h 9 v (nI i) = some false := fun i hi => by
    unfold f_X1_canSee
    rw [C_isPerson H, hv]; rfl
  refine fin1 (fun i => nI i) m (fun rec i hi => ?_) (fun rec => ?_) 400 0 (by omega) (by omega)
  · rw [H.1.2.1, if_pos (nI_lt hi (by omega)), e i hi, bd_s, if_neg (by decide), nI_p1]
  · rw [H.1.2.1, if_neg (nI_nlt (Nat.le_refl _) (by omega))]
theorem C_anySee (H : CR h 9 f hl n m) : f_X1_canAnybodySee h 9 = some (UA f n m) := by
  have h6 := H.1.2.2.1
  unfold f_X1_canAnybodySee
  have key := esc1 (body := fun rec2 (i1 : Int32) => if i1 < (h.1 9 0) then (bd (f_X1_canSeeMore h 9 i1) fun r4 => if r4 = true then (some true) else (rec2 (i1 + 1))) else (some false)) (e := some false) (fun i => nI i) n (fun p => UL f m p) (fun _ => some true) (fun rec i hi => by
    rw [H.1.1, if_pos (nI_lt hi (by omega)), C_seeMore H hi, bd_s, nI_p1]) (fun rec => by
    rw [H.1.1, if_neg (nI_nlt (Nat.le_refl _) (by omega))]) 400 0 (by omega) (by omega)
  rw [Nat.sub_zero, srO_any] at key
  refine Eq.trans key ?_
  unfold UA
  cases anyB (fun p => UL f m p) n <;> rfl
/-- may a part begin with this letter -/
def bgn (n m : Nat) (f : Nat → Int32) (c : Int32) : Bool := if c = 77 then decide (m < 4) else if c = 80 then decide (n < 6) else if c = 83 then UA f n m else false
theorem C_canBegin (H : CR h 9 f hl n m) (c : Int32) : f_X1_canBegin h 9 c = some (bgn n m f c) := by
  have h6 := H.1.2.2.1
  have h4 := H.1.2.2.2
  unfold f_X1_canBegin bgn
  by_cases c1 : c = 77
  · rw [if_pos c1, if_pos c1, H.1.2.1, L4]
    by_cases q : m < 4
    · rw [if_pos (nI_lt q (by omega)), decide_eq_true q]
    · rw [if_neg (nI_nlt (by omega) (by omega)), decide_eq_false q]
  rw [if_neg c1, if_neg c1]
  by_cases c2 : c = 80
  · rw [if_pos c2, if_pos c2, H.1.1, L6]
    by_cases q : n < 6
    · rw [if_pos (nI_lt q (by omega)), decide_eq_true q]
    · rw [if_neg (nI_nlt (by omega) (by omega)), decide_eq_false q]
  rw [if_neg c2, if_neg c2]
  by_cases c3 : c = 83
  · rw [if_pos c3, if_pos c3, C_anySee H, bd_s]
  · rw [if_neg c3, if_neg c3]
theorem X1_isFigure (h : HS) (v : Int32) : f_X1_isFigure h v = some (inB v 10) := by
  unfold f_X1_isFigure
  rcases nI_rg v 10 (by omega) with z | ⟨j, hj, rfl⟩
  · rw [z]
    by_cases c1 : v < 0
    · rw [if_pos c1]
    · rw [if_neg c1, if_pos ((out_9 z).resolve_left c1)]
  · rw [inB_nI hj (by omega), if_neg (nI_pos (by omega)), L9, if_neg (nI_nlt (by omega) (by omega))]
/-- may the part go on with this figure -/
def gon (n m : Nat) (f : Nat → Int32) (c : Int32) (j : Nat) : Bool := if c = 77 then true else if c = 80 then decide (j < 2) else if c = 83 then (decide (j < n) && UL f m j) else false
theorem C_goOn (H : CR h 9 f hl n m) (c : Int32) {j : Nat} (hj : j < 10) : f_X1_canGoOn h 9 c (nI j) = some (gon n m f c j) := by
  have h6 := H.1.2.2.1
  unfold f_X1_canGoOn gon
  by_cases c1 : c = 77
  · rw [if_pos c1, if_pos c1, X1_isFigure, inB_nI hj (by omega), bd_s]
  rw [if_neg c1, if_neg c1]
  by_cases c2 : c = 80
  · rw [if_pos c2, if_pos c2]
    by_cases q : j < 2
    · rw [decide_eq_true q]
      rcases nI01 q with rfl | rfl
      · rw [if_pos nI_0]
      · rw [if_neg (by decide +kernel), if_pos (by decide +kernel)]
    · rw [decide_eq_false q, if_neg (nI_ne0 (by omega) (by omega)), if_neg (by rw [one_nI]; exact fun z => by have := (nI_eq (by omega) (by omega)).mp z; omega)]
  rw [if_neg c2, if_neg c2]
  by_cases c3 : c = 83
  · rw [if_pos c3, if_pos c3]
    by_cases q : j < n
    · rw [C_seeMore H q, decide_eq_true q, bd_s, Bool.true_and]
    · rw [C_seeMore0 H (by rw [inB_nd (by omega) (by omega), decide_eq_false q]), decide_eq_false q, bd_s, Bool.false_and]
  · rw [if_neg c3, if_neg c3]
theorem inB_mono {v : Int32} {a b : Nat} (h : inB v b = false) (hab : a ≤ b) : inB v a = false := by
  unfold inB at *
  rw [Bool.and_eq_false_iff, decide_eq_false_iff_not, decide_eq_false_iff_not] at *
  omega
theorem C_goOn0 (H : CR h 9 f hl n m) (c : Int32) {v : Int32} (hv : inB v 10 = false) : f_X1_canGoOn h 9 c v = some false := by
  have h6 := H.1.2.2.1
  unfold f_X1_canGoOn
  by_cases c1 : c = 77
  · rw [if_pos c1, X1_isFigure, hv, bd_s]
  rw [if_neg c1]
  by_cases c2 : c = 80
  · have v0 : v ≠ 0 := fun e => by subst e; revert hv; decide
    have v1 : v ≠ 1 := fun e => by subst e; revert hv; decide
    rw [if_pos c2, if_neg v0, if_neg v1]
  rw [if_neg c2]
  by_cases c3 : c = 83
  · rw [if_pos c3, C_seeMore0 H (inB_mono hv (by omega)), bd_s]
  · rw [if_neg c3]
/-- the third letter: is it right, and what the Court is then -/
def tkB (n m : Nat) (f : Nat → Int32) (c : Int32) (p j : Nat) : Bool := if c = 77 then true else if c = 80 then decide (j < 4) else (decide (j < m) && !bt (f (7 + p)) j)
def tkS (n m : Nat) (f hl : Nat → Int32) (c : Int32) (p j : Nat) : Nat × Nat × (Nat → Int32) × (Nat → Int32) := if c = 77 then (n, m + 1, f, adL hl m (nI p) (nI j)) else if c = 80 then (n + 1, m, adF f n (decide (p = 1)) (nI j), hl) else (n, m, shF f p j, hl)
theorem C_takes (H : CR h 9 f hl n m) (P : PS f n m) {c : Int32} {p : Nat} (hp : p < 10) (hb : bgn n m f c = true) (hg : gon n m f c p = true) {j : Nat} (hj : j < 10) (ht : tkB n m f c p j = true) : ∃ h', f_X1_takesPart h 9 c (nI p) (nI j) = some (true, h') ∧ CR h' 9 (tkS n m f hl c p j).2.2.1 (tkS n m f hl c p j).2.2.2 (tkS n m f hl c p j).1 (tkS n m f hl c p j).2.1 ∧ PS (tkS n m f hl c p j).2.2.1 (tkS n m f hl c p j).1 (tkS n m f hl c p j).2.1 ∧ Oc 9 h h' := by
  have h6 := H.1.2.2.1
  have h4 := H.1.2.2.2
  unfold f_X1_takesPart
  unfold bgn at hb
  unfold gon at hg
  unfold tkB at ht
  unfold tkS
  by_cases c1 : c = 77
  · rw [if_pos c1] at hb hg ht ⊢
    rw [if_pos c1, X1_isFigure, inB_nI hj (by omega), bd_s, if_pos rfl]
    obtain ⟨g, eg, Cg, Og⟩ := C_addMatter H P (by simpa using hb) (nI p) (nI j)
    exact ⟨g, by rw [eg, bd2_s, if_pos rfl], Cg, PS_m P (by simpa using hb), Og⟩
  rw [if_neg c1] at hb hg ht ⊢
  rw [if_neg c1]
  by_cases c2 : c = 80
  · rw [if_pos c2] at hb hg ht ⊢
    have j4 : j < 4 := by simpa using ht
    have p2 : p < 2 := by simpa using hg
    rw [if_pos c2, if_neg (nI_pos (by omega)), show (3 : Int32) = nI 3 by decide +kernel, if_neg (nI_nlt (by omega) (by omega))]
    have n6 : n < 6 := by simpa using hb
    have eb : nI p = b2i (decide (p = 1)) := by rcases nI01 p2 with rfl | rfl <;> decide +kernel
    have ek : nI j = 0 ∨ nI j = 1 ∨ nI j = 2 ∨ nI j = 3 := by
      have : ∀ j, j < 4 → (nI j = 0 ∨ nI j = 1 ∨ nI j = 2 ∨ nI j = 3) := by decide +kernel
      exact this j j4
    obtain ⟨g, eg, Cg, Og⟩ := C_addPerson H P n6 (decide (p = 1)) (nI j)
    rw [← eb] at eg
    exact ⟨g, by rw [eg, bd2_s, if_pos rfl], Cg, PS_ad P n6 _ ek, Og⟩
  rw [if_neg c2] at hb hg ht ⊢
  rw [if_neg c2]
  by_cases c3 : c = 83
  · rw [if_pos c3] at hg
    rw [Bool.and_eq_true, decide_eq_true_eq] at hg ht
    rw [if_pos c3, C_canSee H hg.1 ht.1, bd_s, if_pos ht.2]
    obtain ⟨g, eg, Cg, Og⟩ := C_letSee H hg.1 ht.1
    exact ⟨g, by rw [eg, bd_s], Cg, PS_sh P hg.1 ht.1, Og⟩
  · rw [if_neg c3] at hb
    cases hb
theorem C_takes0 (H : CR h 9 f hl n m) {c : Int32} {p : Nat} (hp : p < 10) (hb : bgn n m f c = true) (hg : gon n m f c p = true) {v : Int32} (hv : inB v 10 = false ∨ ∃ j, j < 10 ∧ v = nI j ∧ tkB n m f c p j = false) : f_X1_takesPart h 9 c (nI p) v = some (false, h) := by
  have h6 := H.1.2.2.1
  have h4 := H.1.2.2.2
  unfold f_X1_takesPart
  unfold bgn at hb
  unfold gon at hg
  unfold tkB at hv
  by_cases c1 : c = 77
  · rw [if_pos c1, X1_isFigure]
    rcases hv with z | ⟨j, hj, rfl, z⟩
    · rw [z]; rfl
    · rw [if_pos c1] at z; cases z
  rw [if_neg c1] at hb hg ⊢
  by_cases c2 : c = 80
  · rw [if_pos c2]
    rcases hv with z | ⟨j, hj, rfl, z⟩
    · by_cases c4 : v < 0
      · rw [if_pos c4]
      · rw [if_neg c4]
        have := (out_9 z).resolve_left c4
        rw [if_pos (Int32.lt_iff_toInt_lt.mpr (by have := Int32.lt_iff_toInt_lt.mp this; rw [show (9 : Int32).toInt = 9 by decide] at this; rw [show (3 : Int32).toInt = 3 by decide]; omega))]
    · rw [if_neg c1, if_pos c2] at z
      have j4 : ¬ j < 4 := by simpa using z
      rw [if_neg (nI_pos (by omega)), show (3 : Int32) = nI 3 by decide +kernel, if_pos (nI_lt (by omega) (by omega))]
  rw [if_neg c2] at hb hg ⊢
  by_cases c3 : c = 83
  · rw [if_pos c3] at hg
    rw [Bool.and_eq_true, decide_eq_true_eq] at hg
    rw [if_pos c3]
    have e : f_X1_canSee h 9 (nI p) v = some false := by
      rcases hv with z | ⟨j, hj, rfl, z⟩
      · unfold f_X1_canSee
        rw [C_person H hg.1, C_isMatter H, inB_mono z (by omega)]; rfl
      · rw [if_neg c1, if_neg c2] at z
        by_cases q : j < m
        · rw [decide_eq_true q, Bool.true_and] at z
          rw [C_canSee H hg.1 q, z]
        · unfold f_X1_canSee
          rw [C_person H hg.1, C_isMatter H, inB_nd (by omega) (by omega), decide_eq_false q]; rfl
    rw [e, bd_s, if_neg (by decide)]
  · rw [if_neg c3] at hb
    cases hb
end LET
