/-! acts on both sides -/
theorem AC_add {h h' : HS} {n m x c : Nat} {w a b : Int32} (n6 : n ≤ 6) (m4 : m ≤ 4) (A : ACx h n m x c)
    (r1 : h'.1 27 3 = nI (if c < 14 then c + 1 else 14))
    (r2 : ∀ i, i < (if c < 14 then c else 13) → h'.1 28 i = h.1 28 (if c < 14 then i else i + 1) ∧ h'.1 29 i = h.1 29 (if c < 14 then i else i + 1) ∧ h'.1 30 i = h.1 30 (if c < 14 then i else i + 1))
    (r3 : h'.1 28 (if c < 14 then c else 13) = w ∧ h'.1 29 (if c < 14 then c else 13) = a ∧ h'.1 30 (if c < 14 then c else 13) = b)
    (r4 : ∀ k, h'.1 43 k = (cpH h 43 (23 * x) (h.1 38) 23).1 43 k) (r5 : h'.1 36 14 = nI ((x + 1) % 14)) (r6 : h'.1 36 13 = nI (if c < 14 then c + 1 else 14))
    (U : UN n m w a b (h'.1 38) (h.1 38)) : AC h' n m := by
  obtain ⟨⟨x14, c14, e1, e2, e3⟩, H⟩ := A
  have slot : ∀ y k, y < 14 → y ≠ x → k < 23 → h'.1 43 (23 * y + k) = h.1 43 (23 * y + k) := by
    intro y k hy hx hk
    rw [r4, cp_o _ _ (Or.inr (by omega))]
  have slotx : ∀ k, k < 23 → h'.1 43 (23 * x + k) = h.1 38 k := by
    intro k hk
    rw [r4, cp_i _ _ hk]
  by_cases q : c < 14
  · simp only [if_pos q] at r1 r2 r3 r6
    refine ⟨(x + 1) % 14, c + 1, ⟨Nat.mod_lt _ (by omega), by omega, r1, r6, r5⟩, fun i hi => ?_⟩
    have old : ∀ i k, i ≤ c → k < 23 → sn h' ((x + 1) % 14) (c + 1) i k = sn h x c i k := by
      intro i k hi hk
      unfold sn
      rw [if_pos (by omega)]
      by_cases e : i < c
      · rw [if_pos e, show ((x + 1) % 14 + 14 - (c + 1) + i) % 14 = (x + 14 - c + i) % 14 by omega, slot _ _ (by omega) (by omega) hk]
      · rw [if_neg e, show ((x + 1) % 14 + 14 - (c + 1) + i) % 14 = x by omega, slotx _ hk]
    by_cases e : i < c
    · rw [(r2 i e).1, (r2 i e).2.1, (r2 i e).2.2]
      exact UN_congr n6 m4 (H i e) (fun k hk => old _ _ (by omega) hk) (fun k hk => old _ _ (by omega) hk)
    · have ec : i = c := by omega
      subst ec
      rw [r3.1, r3.2.1, r3.2.2]
      refine UN_congr n6 m4 U (fun k hk => ?_) (fun k hk => ?_)
      · unfold sn
        rw [if_neg (by omega)]
      · rw [old _ _ (by omega) hk]
        unfold sn
        rw [if_neg (by omega)]
  · simp only [if_neg q] at r1 r2 r3 r6
    have c0 : c = 14 := by omega
    subst c0
    refine ⟨(x + 1) % 14, 14, ⟨Nat.mod_lt _ (by omega), by omega, r1, r6, r5⟩, fun i hi => ?_⟩
    have old : ∀ i k, i < 14 → k < 23 → sn h' ((x + 1) % 14) 14 i k = sn h x 14 (i + 1) k := by
      intro i k hi hk
      unfold sn
      rw [if_pos (by omega)]
      by_cases e : i + 1 < 14
      · rw [if_pos e, show ((x + 1) % 14 + 14 - 14 + i) % 14 = (x + 14 - 14 + (i + 1)) % 14 by omega, slot _ _ (by omega) (by omega) hk]
      · rw [if_neg e, show ((x + 1) % 14 + 14 - 14 + i) % 14 = x by omega, slotx _ hk]
    by_cases e : i < 13
    · rw [(r2 i e).1, (r2 i e).2.1, (r2 i e).2.2]
      exact UN_congr n6 m4 (H (i + 1) (by omega)) (fun k hk => old _ _ (by omega) hk) (fun k hk => old _ _ (by omega) hk)
    · have ec : i = 13 := by omega
      subst ec
      rw [r3.1, r3.2.1, r3.2.2]
      refine UN_congr n6 m4 U (fun k hk => ?_) (fun k hk => ?_)
      · unfold sn
        rw [if_neg (by omega)]
      · rw [old _ _ (by omega) hk]
        unfold sn
        rw [if_neg (by omega)]
/-- a record and its opposite, from both sides: h1 the program's, h2 the model's outcome -/
theorem act_Inv {h h1 h2 : HS} {n m x c : Nat} {w a b : Int32} {g : Nat → Int32} (I : Inv h n m) (A : ACx h n m x c)
    (C1 : CR h1 3 g (h.1 37) n m) (Fg : FR g n m)
    (o1 : ∀ d k, ¬ (3 ≤ d ∧ d ≤ 8) → ¬ (d = 27 ∧ k = 3) → ¬ (28 ≤ d ∧ d ≤ 30) → h1.1 d k = h.1 d k) (l1 : h1.2 = h.2)
    (r1 : h1.1 27 3 = nI (if c < 14 then c + 1 else 14))
    (r2 : ∀ i, i < (if c < 14 then c else 13) → h1.1 28 i = h.1 28 (if c < 14 then i else i + 1) ∧ h1.1 29 i = h.1 29 (if c < 14 then i else i + 1) ∧ h1.1 30 i = h.1 30 (if c < 14 then i else i + 1))
    (r3 : h1.1 28 (if c < 14 then c else 13) = w ∧ h1.1 29 (if c < 14 then c else 13) = a ∧ h1.1 30 (if c < 14 then c else 13) = b)
    (o2 : ∀ d k, ¬ (d = 38 ∧ k < 23) → h2.1 d k = (ks h1 x c).1 d k) (l2 : h2.2 = h1.2)
    (g2 : ∀ k, k < 23 → h2.1 38 k = g k) (U : UN n m w a b g (h.1 38)) : Inv h2 n m := by
  obtain ⟨B, -, ⟨q, H⟩, T, K, s⟩ := I
  have h6 := B.1.1.2.2.1
  have h4 := B.1.1.2.2.2
  have e2 : ∀ d k, ¬ (3 ≤ d ∧ d ≤ 8) → ¬ (d = 27 ∧ k = 3) → ¬ (28 ≤ d ∧ d ≤ 30) → ¬ (d = 38 ∧ k < 23) → d ≠ 43 → ¬ (d = 36 ∧ (k = 13 ∨ k = 14)) → h2.1 d k = h.1 d k := by
    intro d k z1 z2 z3 z4 z5 z6
    rw [o2 d k z4]
    unfold ks
    rw [hs_o _ _ (by omega), hs_o _ _ (by omega), cp_o _ _ (Or.inl z5)]
    exact o1 d k z1 z2 z3
  have e3 : ∀ d k, (d = 27 ∧ k = 3) ∨ (28 ≤ d ∧ d ≤ 30) ∨ (3 ≤ d ∧ d ≤ 8) → h2.1 d k = h1.1 d k := by
    intro d k z
    rw [o2 d k (by omega)]
    unfold ks
    rw [hs_o _ _ (by omega), hs_o _ _ (by omega), cp_o _ _ (Or.inl (by omega))]
  have eg : ∀ k, k < 23 → lvf h2 0 k = g k := fun k hk => by rw [lv0]; exact g2 k hk
  refine ⟨⟨CR_hl (CR_congr (CR_move C1 (fun b k hb => e3 b k (by omega))) eg) (fun k hk => e2 37 k (by omega) (by omega) (by omega) (by omega) (by omega) (by omega)), FR_congr h6 Fg eg, ?_, ?_⟩, ?_, ⟨q, H.mv fun b k hb => e2 b k (by omega) (by omega) (by omega) (by omega) (by omega) (by omega)⟩, T.mv fun b k hb => e2 b k (by omega) (by omega) (by omega) (by omega) (by omega) (by omega), K.mv fun b k hb => e2 b k (by omega) (by omega) (by omega) (by omega) (by omega) (by omega), ?_⟩
  · rw [e2 _ _ (by omega) (by omega) (by omega) (by omega) (by omega) (by omega)]; exact B.2.2.1
  · rw [e2 _ _ (by omega) (by omega) (by omega) (by omega) (by omega) (by omega)]; exact B.2.2.2
  · refine AC_add (w := w) (a := a) (b := b) h6 h4 A (by rw [e3 _ _ (by omega)]; exact r1) (fun i hi => ?_) ?_ (fun k => ?_) ?_ ?_ ?_
    · rw [e3 _ _ (by omega), e3 _ _ (by omega), e3 _ _ (by omega)]; exact r2 i hi
    · rw [e3 _ _ (by omega), e3 _ _ (by omega), e3 _ _ (by omega)]; exact r3
    · rw [o2 _ _ (by omega)]
      unfold ks
      rw [hs_o _ _ (by omega), hs_o _ _ (by omega)]
      show (if _ then _ else _) = (if _ then _ else _)
      rw [o1 43 k (by omega) (by omega) (by omega), o1 38 _ (by omega) (by omega) (by omega)]
    · rw [o2 _ _ (by omega)]
      unfold ks
      rw [hs_o _ _ (by omega), hs_s]
    · rw [o2 _ _ (by omega)]
      unfold ks
      rw [hs_s]
    · exact UN_congr h6 h4 U g2 (fun k hk => rfl)
  · rw [l2, l1]; exact s
/-! what the program's two steps leave -/
def AD (h h1 : HS) (c : Nat) (w a b : Int32) : Prop :=
  (∀ d k, ¬ (3 ≤ d ∧ d ≤ 8) → ¬ (d = 27 ∧ k = 3) → ¬ (28 ≤ d ∧ d ≤ 30) → h1.1 d k = h.1 d k) ∧ h1.2 = h.2 ∧
  h1.1 27 3 = nI (if c < 14 then c + 1 else 14) ∧
  (∀ i, i < (if c < 14 then c else 13) → h1.1 28 i = h.1 28 (if c < 14 then i else i + 1) ∧ h1.1 29 i = h.1 29 (if c < 14 then i else i + 1) ∧ h1.1 30 i = h.1 30 (if c < 14 then i else i + 1)) ∧
  (h1.1 28 (if c < 14 then c else 13) = w ∧ h1.1 29 (if c < 14 then c else 13) = a ∧ h1.1 30 (if c < 14 then c else 13) = b)
theorem cls_add {h h5 : HS} {n m c : Nat} {g hl : Nat → Int32} (ec : h.1 27 3 = nI c) (c14 : c ≤ 14) (C5 : CR h5 3 g hl n m) (O : Oc 3 h h5) (w a b : Int32) : ∃ h1, f_X0_add h5 w a b = some h1 ∧ CR h1 3 g hl n m ∧ AD h h1 c w a b := by
  obtain ⟨h1, e, o, l, r1, r2, r3⟩ := C_add (h := h5) (c := c) (by rw [O.1 _ _ (by omega)]; exact ec) c14 w a b
  refine ⟨h1, e, CR_move C5 (fun b k hb => o b k (by omega) (by omega)), fun d k z1 z2 z3 => ?_, by rw [l, O.2], r1, fun i hi => ?_, r3⟩
  · rw [o d k z2 z3, O.1 d k (by omega)]
  · have := r2 i hi
    rw [O.1 _ _ (by omega), O.1 _ _ (by omega), O.1 _ _ (by omega)] at this
    exact this
theorem AD.oc {h h1 h2 : HS} {c : Nat} {w a b : Int32} (A : AD h h1 c w a b) (O : Oc 3 h1 h2) : AD h h2 c w a b := by
  obtain ⟨o, l, r1, r2, r3⟩ := A
  refine ⟨fun d k z1 z2 z3 => by rw [O.1 d k (by omega)]; exact o d k z1 z2 z3, by rw [O.2, l], by rw [O.1 _ _ (by omega)]; exact r1, fun i hi => by rw [O.1 _ _ (by omega), O.1 _ _ (by omega), O.1 _ _ (by omega)]; exact r2 i hi, by rw [O.1 _ _ (by omega), O.1 _ _ (by omega), O.1 _ _ (by omega)]; exact r3⟩
theorem AD.fn {h h1 : HS} {c d : Nat} {w a b : Int32} (A : AD h h1 c w a b) (hd : 31 ≤ d) : h1.1 d = h.1 d := by
  funext k
  exact A.1 d k (by omega) (by omega) (by omega)
theorem ks_fn (h : HS) (x c : Nat) {d : Nat} (hd : d ≠ 36 ∧ d ≠ 43) : (ks h x c).1 d = h.1 d := by
  funext k
  unfold ks
  rw [hs_o _ _ (by omega), hs_o _ _ (by omega), cp_o _ _ (Or.inl hd.2)]
theorem ks_36 (h : HS) (x c : Nat) {k : Nat} (hd : k ≠ 13 ∧ k ≠ 14) : (ks h x c).1 36 k = h.1 36 k := by
  unfold ks
  rw [hs_o _ _ (by omega), hs_o _ _ (by omega), cp_o _ _ (Or.inl (by decide))]
theorem act_end {h h1 h2 : HS} {n m x c : Nat} {w a b : Int32} {g : Nat → Int32} (I : Inv h n m) (A : ACx h n m x c)
    (C1 : CR h1 3 g (h.1 37) n m) (Fg : FR g n m) (D : AD h h1 c w a b)
    (o2 : ∀ d k, ¬ (d = 38 ∧ k < 23) → h2.1 d k = (ks h1 x c).1 d k) (l2 : h2.2 = h1.2)
    (g2 : ∀ k, k < 23 → h2.1 38 k = g k) (U : UN n m w a b g (h.1 38)) : IV h2 :=
  ⟨n, m, act_Inv I A C1 Fg D.1 D.2.1 D.2.2.1 D.2.2.2.1 D.2.2.2.2 o2 l2 g2 U⟩
theorem popF_hi {x : Int32} {n : Nat} (hz : ∀ i, n ≤ i → i < 32 → bt x i = false) : ∀ d, n + d ≤ 6 → popF x (n + d) = popF x n
  | 0, _ => rfl
  | d + 1, hd => by
    show popF x (n + d) + ((x >>> (nI (n + d) &&& 31)) &&& 1) = _
    rw [bt_get _ (by omega), hz _ (by omega) (by omega), popF_hi hz d (by omega), b2i_f, Int32.add_zero]
theorem lvk (h : HS) (lv k : Nat) : lvf h lv k = h.1 38 (23 * lv + k) := rfl
theorem rdl (h : HS) {lv k : Nat} (hl : lv < 2) (hk : k < 23) : rd h 38 46 (nI (23 * lv + k)) = some (lvf h lv k) := rd_lv h hl hk
theorem ix3 (lv a p : Nat) : (23 * nI lv + nI a) + nI p = nI (23 * lv + (a + p)) := by
  rw [L23, pk_mul, nI_add, nI_add, Nat.add_assoc]
theorem M_canShow {h : HS} {n m : Nat} (hn : h.1 36 0 = nI n) (n6 : n ≤ 6) (hm : h.1 36 1 = nI m) (m4 : m ≤ 4) {lv p j : Nat} (hl : lv < 2) (hp : p < n) (hj : j < m) : f_X5_canShow h (nI lv) (nI p) (nI j) = some (!bt (lvf h lv (7 + p)) j) := by
  unfold f_X5_canShow
  rw [M_isPerson hn n6, M_isMatter hm m4, inB_nI hp (by omega), inB_nI hj (by omega), L7, ix3, rdl h hl (by omega)]
  simp only [bd_s, if_true]
  rw [M_has _ _ (by omega), bd_s]
  cases bt (lvf h lv (7 + p)) j <;> rfl
theorem M_canDrop {h : HS} {n : Nat} (hn : h.1 36 0 = nI n) (n6 : n ≤ 6) {lv p : Nat} (hl : lv < 2) (hp : p < n) : f_X5_canDrop h (nI lv) (nI p) = some (!decide (lvf h lv (1 + p) = 3)) := by
  unfold f_X5_canDrop
  rw [M_isPerson hn n6, inB_nI hp (by omega), one_nI, ix3, rdl h hl (by omega)]
  simp only [bd_s, if_true]
  by_cases q : lvf h lv (1 + p) = 3
  · rw [if_pos q, decide_eq_true q]; rfl
  · rw [if_neg q, decide_eq_false q]; rfl
theorem M_canSwear {h : HS} {n m : Nat} (hn : h.1 36 0 = nI n) (n6 : n ≤ 6) (hm : h.1 36 1 = nI m) (m4 : m ≤ 4) {lv i o j : Nat} (hl : lv < 2) (hi : i < n) (ho : o < n) (hj : j < m) : f_X5_canSwear h (nI lv) (nI i) (nI o) (nI j) = some (decide (lvf h lv (13 + j) = -9) && cp (lvf h lv) j i o) := by
  unfold f_X5_canSwear
  rw [M_isPerson hn n6, M_isPerson hn n6, M_isMatter hm m4, inB_nI hi (by omega), inB_nI ho (by omega), inB_nI hj (by omega), show (13 : Int32) = nI 13 from L13, ix3, rdl h hl (by omega), M_isCouple hl (by omega) (by omega) (by omega)]
  simp only [bd_s, if_true]
  by_cases q : lvf h lv (13 + j) = -9
  · rw [if_pos q, decide_eq_true q]
    cases cp (lvf h lv) j i o <;> rfl
  · rw [if_neg q, decide_eq_false q]; rfl
theorem UN_sh {f : Nat → Int32} {n m p j : Nat} (hF : FR f n m) (hp : p < n) (hj : j < m) (m4 : m ≤ 4) (hz : bt (f (7 + p)) j = false) : UN n m 1 (nI p) (nI j) (shF f p j) f := by
  refine ⟨hF, Or.inl ⟨rfl, p, j, hp, hj, rfl, rfl, fun k hk => ?_⟩⟩
  unfold unF shF
  by_cases q : k = 7 + p
  · subst q
    rw [upd_s, upd_s]
    apply bt_ext
    intro i hi
    rw [bt_and, bt_or, bt_xor, bt_m1, bt_one (by omega)]
    by_cases e : i = j
    · subst e; simp [hz, hi]
    · simp [e, hi]
  · rw [upd_n _ _ q, upd_n _ _ q]
theorem UN_kn {f : Nat → Int32} {n m j : Nat} (hF : FR f n m) (hj : j < m) (w v : Int32) (h1 : w ≠ 1) (h3 : w ≠ 3) : UN n m w (nI j) (f (13 + j)) (knF f j v) f := by
  refine ⟨hF, Or.inr (Or.inr ⟨h1, h3, j, hj, rfl, fun k hk => ?_⟩)⟩
  unfold knF
  by_cases q : k = 13 + j
  · subst q; rw [upd_s]
  · rw [upd_n _ _ q, upd_n _ _ q]
theorem UN_dr {f : Nat → Int32} {n m p : Nat} (n6 : n ≤ 6) (hF : FR f n m) (hp : p < n) : UN n m 3 (nI p) (f (1 + p)) (drF f p) f := by
  refine ⟨hF, Or.inr (Or.inl ⟨rfl, p, hp, rfl, hF.1 p hp, fun k hk => ?_⟩)⟩
  unfold reF drF
  by_cases q : k = 17 + p
  · subst q
    rw [upd_s, upd_s, Int32.add_assoc, show (1 : Int32) + -1 = 0 by decide, Int32.add_zero]
  · rw [upd_n _ _ q]
    by_cases q2 : f (1 + p) = 2
    · rw [if_pos q2, if_pos q2]
      by_cases q3 : k = 1 + p
      · subst q3; rw [upd_s, q2]
      · rw [upd_n _ _ q3, upd_n _ _ q, upd_n _ _ q3]
    · rw [if_neg q2, if_neg q2]
      by_cases q3 : k = 0
      · subst q3
        rw [upd_s, upd_n _ _ (by omega), upd_s, Int32.xor_assoc, Int32.xor_self, Int32.xor_zero]
      · rw [upd_n _ _ q3, upd_n _ _ q, upd_n _ _ q3]
