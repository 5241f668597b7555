/-! most pairs, the model: the first row of k pairs -/
def roV (h : HS) (p1 i1 i7 i19 : Int32) : Option Int32 := if p1 = 1 then (bd (rd h 44 15 i1) fun r40 => bd (f_X5_toldOf h r40) fun r41 => some r41) else (if p1 = 2 then (bd (rd h 44 15 i1) fun r36 => bd (f_X5_toldOf h r36) fun r37 => bd (rd h 44 15 i7) fun r38 => bd (f_X5_toldOf h r38) fun r39 => some ((100 * r37) + r39)) else (bd (rd h 44 15 i1) fun r30 => bd (f_X5_toldOf h r30) fun r31 => bd (rd h 44 15 i7) fun r32 => bd (f_X5_toldOf h r32) fun r33 => bd (rd h 44 15 i19) fun r34 => bd (f_X5_toldOf h r34) fun r35 => some (((10000 * r31) + (100 * r33)) + r35)))
def roC (h : HS) (p1 p2 i1 i7 t13 : Int32) (nx : Option Int32) (rec20 : Int32 → Option Int32) (i19 : Int32) : Option Int32 := jn nx (fun j22 => if t13 = 0 then (j22) else (jn (fun (t24 : Int32) => if i19 < t24 then (jn (fun (t27 : Int32) => if t27 = 0 then (rec20 (i19 + 1)) else roV h p1 i1 i7 i19) (fun j28 => jn (j28 1) (fun j42 => if p1 < 3 then (j42) else (bd (rd h 44 15 i1) fun r44 => bd (rd h 44 15 i7) fun r45 => bd (rd h 44 15 i19) fun r46 => if ((r44 ||| r45) &&& r46) = 0 then (j42) else (j28 0))))) else (j22)) (fun j25 => if (2 : Int32) < p1 then (j25 p2) else (j25 (i7 + 1)))))
def roB (h : HS) (p1 p2 i1 : Int32) (nx : Option Int32) (rec8 : Int32 → Option Int32) (i7 : Int32) : Option Int32 := jn (fun (t10 : Int32) => if i7 < t10 then (jn (fun (t13 : Int32) => jn (fun (t16 : Int32) => loop1 (roC h p1 p2 i1 i7 t13 (rec8 (i7 + 1))) 400 t16) (fun j17 => if (2 : Int32) < p1 then (j17 (i7 + 1)) else (j17 i7))) (fun j14 => jn (j14 1) (fun j47 => if p1 < 2 then (j47) else (bd (rd h 44 15 i1) fun r49 => bd (rd h 44 15 i7) fun r50 => if (r49 &&& r50) = 0 then (j47) else (j14 0))))) else (nx)) (fun j11 => if (1 : Int32) < p1 then (j11 p2) else (j11 (i1 + 1)))
def roA (h : HS) (p1 p2 : Int32) (rec2 : Int32 → Option Int32) (i1 : Int32) : Option Int32 := if i1 < p2 then (jn (fun (t4 : Int32) => loop1 (roB h p1 p2 i1 (rec2 (i1 + 1))) 400 t4) (fun j5 => if (1 : Int32) < p1 then (j5 (i1 + 1)) else (j5 i1))) else (some (-9))
theorem X5_row_e (h : HS) (p1 p2 : Int32) : f_X5_rowOf h p1 p2 = loop1 (roA h p1 p2) 400 0 := rfl
def bl (t k a : Nat) : Nat := if t < k then a + 1 else a
def bh (t k N a : Nat) : Nat := if t < k then N else a + 1
theorem pql {γ : Type} {Q : Option γ → Prop} (F : Int32 → Option γ) (t : Int32) {s k a : Nat} (ht : t = nI s) (s4 : s < 4) (k4 : k < 4) (H : Q (F (nI (bl s k a)))) : Q (jn F (fun j => if t < nI k then j (nI a + 1) else j (nI a))) := by
  subst ht
  unfold bl at H
  rw [jn_e]
  by_cases q : s < k
  · rw [if_pos q] at H
    rw [if_pos (nI_lt q (by omega)), nI_p1]
    exact H
  · rw [if_neg q] at H
    rw [if_neg (nI_nlt (by omega) (by omega))]
    exact H
theorem pqh {γ : Type} {Q : Option γ → Prop} (F : Int32 → Option γ) (t : Int32) {s k N a : Nat} (ht : t = nI s) (s4 : s < 4) (k4 : k < 4) (H : Q (F (nI (bh s k N a)))) : Q (jn F (fun j => if t < nI k then j (nI N) else j (nI a + 1))) := by
  subst ht
  unfold bh at H
  rw [jn_e]
  by_cases q : s < k
  · rw [if_pos q] at H
    rw [if_pos (nI_lt q (by omega))]
    exact H
  · rw [if_neg q] at H
    rw [if_neg (nI_nlt (by omega) (by omega)), nI_p1]
    exact H
def D2 (h : HS) (k a b : Nat) : Prop := k < 2 ∨ (h.1 44 a &&& h.1 44 b) = 0
def D3 (h : HS) (k a b c : Nat) : Prop := k < 3 ∨ ((h.1 44 a ||| h.1 44 b) &&& h.1 44 c) = 0
theorem pq2 {Q : Option Int32 → Prop} (h : HS) (G : Int32 → Option Int32) {k a b : Nat} (k4 : k < 4) (ha : a < 15) (hb : b < 15) (H1 : D2 h k a b → Q (G 1)) (H0 : ¬ D2 h k a b → Q (G 0)) : Q (jn G (fun j14 => jn (j14 1) (fun j47 => if nI k < 2 then (j47) else (bd (rd h 44 15 (nI a)) fun r49 => bd (rd h 44 15 (nI b)) fun r50 => if (r49 &&& r50) = 0 then (j47) else (j14 0))))) := by
  unfold D2 at H1 H0
  rw [jn_e, jn_e, L2]
  by_cases q : k < 2
  · rw [if_pos (nI_lt q (by omega))]
    exact H1 (Or.inl q)
  · rw [if_neg (nI_nlt (by omega) (by omega)), rd_nI _ _ ha (by omega), bd_s, rd_nI _ _ hb (by omega), bd_s]
    by_cases w : (h.1 44 a &&& h.1 44 b) = 0
    · rw [if_pos w]
      exact H1 (Or.inr w)
    · rw [if_neg w]
      exact H0 (fun z => z.elim q w)
theorem pq3 {Q : Option Int32 → Prop} (h : HS) (G : Int32 → Option Int32) {k a b c : Nat} (k4 : k < 4) (ha : a < 15) (hb : b < 15) (hc : c < 15) (H1 : D3 h k a b c → Q (G 1)) (H0 : ¬ D3 h k a b c → Q (G 0)) : Q (jn G (fun j28 => jn (j28 1) (fun j42 => if nI k < 3 then (j42) else (bd (rd h 44 15 (nI a)) fun r44 => bd (rd h 44 15 (nI b)) fun r45 => bd (rd h 44 15 (nI c)) fun r46 => if ((r44 ||| r45) &&& r46) = 0 then (j42) else (j28 0))))) := by
  unfold D3 at H1 H0
  rw [jn_e, jn_e, L3]
  by_cases q : k < 3
  · rw [if_pos (nI_lt q (by omega))]
    exact H1 (Or.inl q)
  · rw [if_neg (nI_nlt (by omega) (by omega)), rd_nI _ _ ha (by omega), bd_s, rd_nI _ _ hb (by omega), bd_s, rd_nI _ _ hc (by omega), bd_s]
    by_cases w : ((h.1 44 a ||| h.1 44 b) &&& h.1 44 c) = 0
    · rw [if_pos w]
      exact H1 (Or.inr w)
    · rw [if_neg w]
      exact H0 (fun z => z.elim q w)
def vl (W : Nat → Nat) (k a b c : Nat) : Nat := if k = 1 then W a else if k = 2 then 100 * W a + W b else 10000 * W a + 100 * W b + W c
theorem M_roV {h : HS} {W : Nat → Nat} {N k a b c : Nat} (n15 : N ≤ 15) (k4 : k < 4) (k0 : 0 < k) (T : ∀ j, j < N → f_X5_toldOf h (h.1 44 j) = some (nI (W j))) (ha : a < N) (hb : b < N) (hc : c < N) : roV h (nI k) (nI a) (nI b) (nI c) = some (nI (vl W k a b c)) := by
  unfold roV vl
  rw [rd_nI _ _ (by omega) (by omega), rd_nI _ _ (by omega) (by omega), rd_nI _ _ (by omega) (by omega)]
  simp only [bd_s]
  rw [T a ha, T b hb, T c hc]
  simp only [bd_s]
  rw [L100, show (10000 : Int32) = nI 10000 by decide +kernel, pk_mul, pk_mul, pk_mul, nI_add, nI_add, nI_add]
  rcases (by omega : k = 1 ∨ k = 2 ∨ k = 3) with rfl | rfl | rfl
  · rw [if_pos (show nI 1 = 1 from rfl), if_pos rfl]
  · rw [if_neg (show ¬ nI 2 = 1 by decide), if_pos (show nI 2 = 2 from rfl), if_neg (by decide), if_pos rfl]
  · rw [if_neg (show ¬ nI 3 = 1 by decide), if_neg (show ¬ nI 3 = 2 by decide), if_neg (by decide), if_neg (by decide)]
def okT (h : HS) (k N a b c : Nat) : Prop := (a < N ∧ bl 1 k a ≤ b ∧ b < bh 1 k N a ∧ bl 2 k b ≤ c ∧ c < bh 2 k N b) ∧ D2 h k a b ∧ D3 h k a b c
def Lx (a b c a' b' c' : Nat) : Prop := a < a' ∨ (a = a' ∧ (b < b' ∨ (b = b' ∧ c ≤ c')))
def PR (h : HS) (W : Nat → Nat) (k N : Nat) (r : Option Int32) : Prop := ∃ z, r = some z ∧ ((z = -9 ∧ ∀ a b c, ¬ okT h k N a b c) ∨ ∃ a b c, okT h k N a b c ∧ z = nI (vl W k a b c) ∧ ∀ a' b' c', okT h k N a' b' c' → Lx a b c a' b' c')
theorem loop1_u {A R : Type} (body : (A → Option R) → A → Option R) (f : Nat) (x : A) : loop1 body (f + 1) x = body (loop1 body f) x := rfl
theorem M_rowOf {h : HS} {W : Nat → Nat} {N k : Nat} (n15 : N ≤ 15) (k4 : k < 4) (k0 : 0 < k) (T : ∀ j, j < N → f_X5_toldOf h (h.1 44 j) = some (nI (W j))) : PR h W k N (f_X5_rowOf h (nI k) (nI N)) := by
  rw [X5_row_e]
  refine inv1 (Q := PR h W k N) (fun a x => x = nI a ∧ ∀ a' b' c', okT h k N a' b' c' → a ≤ a') N (fun recA a x ha P ihA => ?_) (fun recA x P => ?_) 400 0 _ (by omega) (by omega) ⟨nI_0.symm, fun a' b' c' _ => Nat.zero_le _⟩
  · obtain ⟨rfl, PA⟩ := P
    unfold roA
    rw [if_pos (nI_lt ha (by omega))]
    refine pql (Q := PR h W k N) _ 1 (s := 1) one_nI (by omega) k4 ?_
    refine inv1 (Q := PR h W k N) (fun b x => x = nI b ∧ bl 1 k a ≤ b ∧ ∀ a' b' c', okT h k N a' b' c' → a < a' ∨ (a = a' ∧ b ≤ b')) (bh 1 k N a) (fun recB b x hb P ihB => ?_) (fun recB x P => ?_) 400 (bl 1 k a) _ ?_ ?_ ⟨rfl, Nat.le_refl _, fun a' b' c' O => ?_⟩
    · obtain ⟨rfl, b0, PB⟩ := P
      have bN : b < N := by unfold bh at hb; split at hb <;> omega
      unfold roB
      refine pqh (Q := PR h W k N) _ 1 (s := 1) one_nI (by omega) k4 ?_
      have bh31 : bh 1 k N a < 2 ^ 31 := by unfold bh; split <;> omega
      rw [if_pos (nI_lt hb bh31)]
      refine pq2 (Q := PR h W k N) h _ k4 (by omega) (by omega) (fun d2 => ?_) (fun d2 => ?_)
      · refine pql (Q := PR h W k N) _ 2 (s := 2) L2 (by omega) k4 ?_
        refine inv1 (Q := PR h W k N) (fun c x => x = nI c ∧ bl 2 k b ≤ c ∧ ∀ a' b' c', okT h k N a' b' c' → Lx a b c a' b' c') (bh 2 k N b) (fun recC c x hc P ihC => ?_) (fun recC x P => ?_) 400 (bl 2 k b) _ ?_ ?_ ⟨rfl, Nat.le_refl _, fun a' b' c' O => ?_⟩
        · obtain ⟨rfl, c0, PC⟩ := P
          have cN : c < N := by unfold bh at hc; split at hc <;> omega
          have ch31 : bh 2 k N b < 2 ^ 31 := by unfold bh; split <;> omega
          unfold roC
          rw [jn_e, if_neg (by decide)]
          refine pqh (Q := PR h W k N) _ 2 (s := 2) L2 (by omega) k4 ?_
          rw [if_pos (nI_lt hc ch31)]
          refine pq3 (Q := PR h W k N) h _ k4 (by omega) (by omega) (by omega) (fun d3 => ?_) (fun d3 => ?_)
          · rw [if_neg (by decide), M_roV n15 k4 k0 T ha bN cN]
            exact ⟨_, rfl, Or.inr ⟨a, b, c, ⟨⟨ha, b0, hb, c0, hc⟩, d2, d3⟩, rfl, PC⟩⟩
          · rw [if_pos rfl, nI_p1]
            refine ihC _ ⟨rfl, by omega, fun a' b' c' O => ?_⟩
            have w := PC a' b' c' O
            unfold Lx at w ⊢
            by_cases e : a = a' ∧ b = b' ∧ c = c'
            · obtain ⟨rfl, rfl, rfl⟩ := e
              exact absurd O.2.2 d3
            · omega
        · obtain ⟨rfl, c0, PC⟩ := P
          unfold roC
          rw [jn_e, if_neg (by decide)]
          refine pqh (Q := PR h W k N) _ 2 (s := 2) L2 (by omega) k4 ?_
          have ch31 : bh 2 k N b < 2 ^ 31 := by unfold bh; split <;> omega
          rw [if_neg (nI_nlt (Nat.le_refl _) ch31)]
          refine ihB _ ⟨nI_p1 b, by omega, fun a' b' c' O => ?_⟩
          have w := PC a' b' c' O
          have o := O.1.2.2.2.2
          unfold Lx at w
          by_cases e : a = a' ∧ b = b'
          · obtain ⟨rfl, rfl⟩ := e
            omega
          · omega
        · unfold bl bh; split <;> omega
        · unfold bl bh; split <;> omega
        · have w := PB a' b' c' O
          have o := O.1.2.2.2.1
          unfold Lx
          by_cases e : b = b'
          · subst e; omega
          · omega
      · refine pql (Q := PR h W k N) _ 2 (s := 2) L2 (by omega) k4 ?_
        rw [show (400 : Nat) = 399 + 1 from rfl, loop1_u]
        unfold roC
        rw [jn_e, if_pos rfl]
        refine ihB _ ⟨nI_p1 b, by omega, fun a' b' c' O => ?_⟩
        have w := PB a' b' c' O
        by_cases e : a = a' ∧ b = b'
        · obtain ⟨rfl, rfl⟩ := e
          exact absurd O.2.1 d2
        · omega
    · obtain ⟨rfl, b0, PB⟩ := P
      unfold roB
      refine pqh (Q := PR h W k N) _ 1 (s := 1) one_nI (by omega) k4 ?_
      have bh31 : bh 1 k N a < 2 ^ 31 := by unfold bh; split <;> omega
      rw [if_neg (nI_nlt (Nat.le_refl _) bh31), nI_p1]
      refine ihA _ ⟨rfl, fun a' b' c' O => ?_⟩
      have w := PB a' b' c' O
      have o := O.1.2.2.1
      by_cases e : a = a'
      · subst e; omega
      · omega
    · unfold bl bh; split <;> omega
    · unfold bl bh; split <;> omega
    · have w := PA a' b' c' O
      have o := O.1.2.1
      by_cases e : a = a'
      · subst e; omega
      · omega
  · obtain ⟨rfl, PA⟩ := P
    unfold roA
    rw [if_neg (nI_nlt (Nat.le_refl _) (by omega))]
    refine ⟨_, rfl, Or.inl ⟨rfl, fun a b c O => ?_⟩⟩
    have := PA a b c O
    have := O.1.1
    omega
