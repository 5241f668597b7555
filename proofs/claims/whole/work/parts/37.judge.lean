/-! the model's trial -/
def OM (h h' : HS) : Prop := (∀ b k, ¬ (b = 38 ∧ 23 ≤ k) → h'.1 b k = h.1 b k) ∧ h'.2 = h.2
theorem OM.rf (h : HS) : OM h h := ⟨fun _ _ _ => rfl, rfl⟩
theorem OM.tr {h1 h2 h3 : HS} (x : OM h1 h2) (y : OM h2 h3) : OM h1 h3 := ⟨fun b k hb => (y.1 b k hb).trans (x.1 b k hb), y.2.trans x.2⟩
theorem OM.sq {h h' : HS} (O : OM h h') : Sq h h' := ⟨fun b k z => O.1 b k (fun z2 => z (by unfold SCR; omega)), O.2⟩
theorem Oc.sq {h h' : HS} (O : Oc 9 h h') : Sq h h' := ⟨fun b k z => O.1 b k (fun z2 => z (by unfold SCR; omega)), O.2⟩
def TM (h : HS) (f hl : Nat → Int32) (n m : Nat) : Prop := (∀ k, k < 23 → lvf h 1 k = f k) ∧ h.1 37 = hl ∧ h.1 36 0 = nI n ∧ h.1 36 1 = nI m ∧ n ≤ 6 ∧ m ≤ 4
theorem TM.om {h h' : HS} {f f' hl : Nat → Int32} {n m : Nat} (T : TM h f hl n m) (O : OM h h') (e : ∀ k, k < 23 → lvf h' 1 k = f' k) : TM h' f' hl n m := by
  obtain ⟨-, t1, t2, t3, t4, t5⟩ := T
  refine ⟨e, ?_, ?_, ?_, t4, t5⟩
  · rw [← t1]; funext k; exact O.1 _ _ (by omega)
  · rw [O.1 _ _ (by omega)]; exact t2
  · rw [O.1 _ _ (by omega)]; exact t3
section TRM
variable {h : HS} {f hl : Nat → Int32} {n m : Nat}
theorem OM_set (h : HS) {k : Nat} (hk : 23 ≤ k) (v : Int32) : OM h (hset h 38 k v) := ⟨fun b j z => by rw [hs_o _ _ (by omega)], rfl⟩
theorem lv1_set (T : ∀ k, k < 23 → lvf h 1 k = f k) (i : Nat) (v : Int32) : ∀ k, k < 23 → lvf (hset h 38 (23 + i) v) 1 k = upd f i v k := by
  intro k hk
  rw [lvk]
  by_cases q : k = i
  · subst q; rw [hs_s, upd_s]
  · rw [hs_o _ _ (by omega), upd_n _ _ q]
    exact T k hk
theorem M_canShowG (T : TM h f hl n m) {p j : Nat} (hp : p < 100) (hj : j < 100) : f_X5_canShow h 1 (nI p) (nI j) = some (shD n m f p j).1 := by
  obtain ⟨t0, t1, hn, hm, n6, m4⟩ := T
  by_cases q : p < n ∧ j < m
  · have := M_canShow hn n6 hm m4 (lv := 1) (by omega) q.1 q.2
    rw [← one_nI, t0 _ (by omega)] at this
    rw [this]
    by_cases b : bt (f (7 + p)) j = false
    · rw [show shD n m f p j = (true, shF f p j) from if_pos ⟨q.1, q.2, b⟩, b]; rfl
    · rw [show shD n m f p j = (false, f) from if_neg (fun z => b z.2.2), show bt (f (7 + p)) j = true by simpa using b]; rfl
  · rw [show shD n m f p j = (false, f) from if_neg (fun z => q ⟨z.1, z.2.1⟩)]
    unfold f_X5_canShow
    rw [M_isPerson hn n6, M_isMatter hm m4, inB_nd (by omega) (by omega), inB_nd (by omega) (by omega)]
    by_cases q1 : p < n
    · rw [decide_eq_true q1, decide_eq_false (fun z => q ⟨q1, z⟩)]; rfl
    · rw [decide_eq_false q1]; rfl
theorem M_canDropG (T : TM h f hl n m) {p : Nat} (hp : p < 100) : f_X5_canDrop h 1 (nI p) = some (drD n f p).1 := by
  obtain ⟨t0, t1, hn, hm, n6, m4⟩ := T
  by_cases q : p < n
  · have := M_canDrop hn n6 (lv := 1) (by omega) q
    rw [← one_nI, t0 _ (by omega)] at this
    rw [this]
    by_cases b : f (1 + p) = 3
    · rw [show drD n f p = (false, f) from if_neg (fun z => z.2 b), decide_eq_true b]; rfl
    · rw [show drD n f p = (true, drF f p) from if_pos ⟨q, b⟩, decide_eq_false b]; rfl
  · rw [show drD n f p = (false, f) from if_neg (fun z => q z.1)]
    unfold f_X5_canDrop
    rw [M_isPerson hn n6, inB_nd (by omega) (by omega), decide_eq_false q]; rfl
theorem M_canSwearG (T : TM h f hl n m) {i o j : Nat} (hi : i < 100) (ho : o < 100) (hj : j < 100) : f_X5_canSwear h 1 (nI i) (nI o) (nI j) = some (leD n m f hl i o j).1 := by
  obtain ⟨t0, t1, hn, hm, n6, m4⟩ := T
  by_cases q : j < m ∧ i < n ∧ o < n
  · have := M_canSwear hn n6 hm m4 (lv := 1) (by omega) q.2.1 q.2.2 q.1
    rw [← one_nI, t0 _ (by omega), cp_cg t0 (by omega) (by omega)] at this
    rw [this]
    by_cases b : f (13 + j) = -9 ∧ cp f j i o = true
    · rw [show leD n m f hl i o j = (true, knF f j (tl f hl j i o)) from if_pos ⟨q.1, b.1, q.2.1, q.2.2, b.2⟩, decide_eq_true b.1, b.2]; rfl
    · rw [show leD n m f hl i o j = (false, f) from if_neg (fun z => b ⟨z.2.1, z.2.2.2.2⟩)]
      by_cases b1 : f (13 + j) = -9
      · rw [decide_eq_true b1, b2n (fun z => b ⟨b1, z⟩)]; rfl
      · rw [decide_eq_false b1]; rfl
  · rw [show leD n m f hl i o j = (false, f) from if_neg (fun z => q ⟨z.1, z.2.2.1, z.2.2.2.1⟩)]
    unfold f_X5_canSwear
    rw [M_isPerson hn n6, M_isPerson hn n6, M_isMatter hm m4, inB_nd (by omega) (by omega), inB_nd (by omega) (by omega), inB_nd (by omega) (by omega)]
    by_cases q1 : i < n
    · by_cases q2 : o < n
      · rw [decide_eq_true q1, decide_eq_true q2, decide_eq_false (fun z => q ⟨z, q1, q2⟩)]; rfl
      · rw [decide_eq_true q1, decide_eq_false q2]; rfl
    · rw [decide_eq_false q1]; rfl
theorem L30 : (30 : Int32) = nI 30 := by decide +kernel
theorem L36 : (36 : Int32) = nI 36 := by decide +kernel
theorem M_shD (T : TM h f hl n m) {p j : Nat} (hp : p < 100) (q : (shD n m f p j).1 = true) : ∃ h', (bd (rd h 38 46 (30 + nI p)) fun r15 => bd (wr h 38 46 (30 + nI p) (r15 ||| (1 <<< (nI j &&& 31)))) fun h16 => some h16) = some h' ∧ TM h' (shD n m f p j).2 hl n m ∧ OM h h' := by
  have n6 := T.2.2.2.2.1
  have qq : p < n ∧ j < m ∧ bt (f (7 + p)) j = false := by
    by_cases z : p < n ∧ j < m ∧ bt (f (7 + p)) j = false
    · exact z
    · rw [show shD n m f p j = (false, f) from if_neg z] at q; cases q
  rw [show shD n m f p j = (true, shF f p j) from if_pos qq, L30, nI_add, rd38 _ (by omega), bd_s, wr38 _ _ (by omega), bd_s]
  have O := OM_set h (k := 30 + p) (by omega) (h.1 38 (30 + p) ||| 1 <<< (nI j &&& 31))
  refine ⟨_, rfl, T.om O fun k hk => ?_, O⟩
  have e := lv1_set T.1 (7 + p) (h.1 38 (30 + p) ||| 1 <<< (nI j &&& 31)) k hk
  rw [show 23 + (7 + p) = 30 + p by omega] at e
  rw [e]
  unfold shF
  rw [← T.1 (7 + p) (by omega), lvk, show 23 * 1 + (7 + p) = 30 + p by omega]
theorem M_kn (T : TM h f hl n m) {j : Nat} (hj : j < 4) (v : Int32) : ∃ h', wr h 38 46 (nI (36 + j)) v = some h' ∧ TM h' (knF f j v) hl n m ∧ OM h h' := by
  rw [wr38 _ _ (by omega)]
  have O := OM_set h (k := 36 + j) (by omega) v
  refine ⟨_, rfl, T.om O fun k hk => ?_, O⟩
  have e := lv1_set T.1 (13 + j) v k hk
  rw [show 23 + (13 + j) = 36 + j by omega] at e
  exact e
theorem M_drD (T : TM h f hl n m) {p : Nat} (q : (drD n f p).1 = true) : ∃ h', f_X5_dropOn h 1 (nI p) = some h' ∧ TM h' (drD n f p).2 hl n m ∧ OM h h' := by
  have n6 := T.2.2.2.2.1
  have qq : p < n ∧ f (1 + p) ≠ 3 := by
    by_cases z : p < n ∧ f (1 + p) ≠ 3
    · exact z
    · rw [show drD n f p = (false, f) from if_neg z] at q; cases q
  obtain ⟨h', e, g, o, l⟩ := M_dropOn h (lv := 1) (by omega) (show p < 6 by omega)
  rw [← one_nI] at e
  have O : OM h h' := ⟨fun b k z => o b k (by omega), l⟩
  rw [show drD n f p = (true, drF f p) from if_pos qq]
  refine ⟨h', e, T.om O fun k hk => ?_, O⟩
  rw [lvk, g k hk]
  exact drF_cg T.1 (by omega) k hk
theorem in_47 (h : HS) (p : Int32) : f_X5_in h (Int32.toInt64 p) 4 7 = some (decide (4 ≤ p.toInt) && decide (p.toInt ≤ 7)) := by
  rw [M_in, toI64]
  rfl
theorem M_try (T : TM h f hl n m) {a b c : Nat} (ha : a < 10) (hb : b < 10) (hc : c < 10) : ∃ h', f_X5_tryThing h (nI a) (nI b) (nI c) = some ((dn n m f hl a b c).1, h') ∧ TM h' (dn n m f hl a b c).2 hl n m ∧ OM h h' := by
  have n6 := T.2.2.2.2.1
  have m4 := T.2.2.2.2.2
  have hn := T.2.2.1
  have hm := T.2.2.2.1
  unfold f_X5_tryThing dn
  simp only [jn_e]
  have z1 : ¬ (1 : Int32) = 0 := by decide
  by_cases a1 : a = 1
  · subst a1
    have e1 : nI 1 = 1 := one_nI.symm
    rw [if_pos e1, if_pos rfl, M_canShowG T (by omega) (by omega), bd_s]
    by_cases q : (shD n m f b c).1 = true
    · rw [q, b2i_t, if_neg z1, if_pos e1]
      obtain ⟨g, eg, Tg, Og⟩ := M_shD T (by omega) q
      refine ⟨g, ?_, Tg, Og⟩
      rw [L30, nI_add, rd38 _ (by omega), bd_s, wr38 _ _ (by omega), bd_s] at eg ⊢
      cases eg
      rfl
    · have q0 := b2n q
      rw [q0, b2i_f, if_pos rfl, if_pos rfl, if_pos rfl, if_pos rfl]
      refine ⟨h, rfl, ?_, OM.rf h⟩
      have : (shD n m f b c).2 = f := by
        unfold shD at q ⊢
        by_cases z : b < n ∧ c < m ∧ bt (f (7 + b)) c = false
        · rw [if_pos z] at q; exact absurd rfl q
        · rw [if_neg z]
      rw [this]
      exact T
  have n1 : ¬ nI a = 1 := by rw [one_nI]; exact fun z => a1 ((nI_eq (by omega) (by omega)).mp z)
  rw [if_neg n1, if_neg a1]
  have stop : ∃ h', (if (0 : Int32) = 0 then (if (0 : Int32) = 0 then (if (0 : Int32) = 0 then (if (0 : Int32) = 0 then (retBH 0 h) else none) else none) else none) else none) = some (false, h') ∧ TM h' f hl n m ∧ OM h h' := by
    rw [if_pos rfl, if_pos rfl, if_pos rfl, if_pos rfl]
    exact ⟨h, rfl, T, OM.rf h⟩
  by_cases a2 : a = 2
  · subst a2
    have e2 : nI 2 = 2 := L2.symm
    rw [if_pos e2, if_pos rfl]
    by_cases b0 : b = 0
    · subst b0
      rw [if_pos nI_0, if_pos rfl, M_isMatter hm m4, bd_s, inB_nd (by omega) (by omega)]
      by_cases q : c < m
      · rw [decide_eq_true q, if_pos rfl, L36, nI_add, rd38 _ (by omega), bd_s]
        have ec : h.1 38 (36 + c) = f (13 + c) := by
          rw [← T.1 _ (by omega), lvk, show 23 * 1 + (13 + c) = 36 + c by omega]
        rw [ec]
        by_cases v : f (13 + c) = -9
        · rw [show fgD m f c = (false, f) from if_neg (fun z => z.2 v), if_pos v, if_pos True.intro]
          exact ⟨h, rfl, T, OM.rf h⟩
        · rw [show fgD m f c = (true, knF f c (-9)) from if_pos ⟨q, v⟩, if_neg v, if_neg z1, if_neg n1, if_neg z1, if_pos e2]
          obtain ⟨g, eg, Tg, Og⟩ := M_kn T (show c < 4 by omega) (-9)
          exact ⟨g, by rw [eg, bd_s]; rfl, Tg, Og⟩
      · rw [show fgD m f c = (false, f) from if_neg (fun z => q z.1), decide_eq_false q, if_neg (by decide), if_pos True.intro]
        exact ⟨h, rfl, T, OM.rf h⟩
    · rw [if_neg (nI_ne0 (by omega) (by omega)), if_neg b0, if_pos True.intro]
      exact ⟨h, rfl, T, OM.rf h⟩
  have n2 : ¬ nI a = 2 := by rw [L2]; exact fun z => a2 ((nI_eq (by omega) (by omega)).mp z)
  rw [if_neg n2, if_neg a2]
  by_cases a3 : a = 3
  · subst a3
    have e3 : nI 3 = 3 := by decide +kernel
    rw [if_pos e3, if_pos rfl]
    by_cases b0 : b = 0
    · subst b0
      rw [if_pos nI_0, if_pos rfl, M_canDropG T (by omega), bd_s]
      by_cases q : (drD n f c).1 = true
      · rw [q, if_pos rfl, if_neg z1, if_neg n1, if_neg z1, if_neg n2, if_neg z1, if_pos e3]
        obtain ⟨g, eg, Tg, Og⟩ := M_drD T q
        exact ⟨g, by rw [eg, bd_s]; rfl, Tg, Og⟩
      · have q0 := b2n q
        rw [q0, if_neg (by decide), if_pos True.intro]
        have : (drD n f c).2 = f := by
          unfold drD at q ⊢
          by_cases z : c < n ∧ f (1 + c) ≠ 3
          · rw [if_pos z] at q; exact absurd rfl q
          · rw [if_neg z]
        rw [this]
        exact ⟨h, rfl, T, OM.rf h⟩
    · rw [if_neg (nI_ne0 (by omega) (by omega)), if_neg b0, if_pos True.intro]
      exact ⟨h, rfl, T, OM.rf h⟩
  have n3 : ¬ nI a = 3 := by rw [show (3 : Int32) = nI 3 by decide +kernel]; exact fun z => a3 ((nI_eq (by omega) (by omega)).mp z)
  rw [if_neg n3, if_neg a3, in_47, bd_s, nI_toInt (by omega)]
  by_cases a4 : 4 ≤ a
  · rw [if_pos a4]
    by_cases a7 : a ≤ 7
    · rw [decide_eq_true (show (4 : Int) ≤ (a : Int) by omega), decide_eq_true (show (a : Int) ≤ 7 by omega), if_pos (by decide), nI_sub4 a4, M_canSwearG T (by omega) (by omega) (by omega), bd_s]
      by_cases q : (leD n m f hl b c (a - 4)).1 = true
      · rw [q, if_pos rfl, if_neg z1, if_neg n1, if_neg z1, if_neg n2, if_neg z1, if_neg n3, if_neg z1]
        have qq : (a - 4) < m ∧ f (13 + (a - 4)) = -9 ∧ b < n ∧ c < n ∧ cp f (a - 4) b c = true := by
          by_cases z : (a - 4) < m ∧ f (13 + (a - 4)) = -9 ∧ b < n ∧ c < n ∧ cp f (a - 4) b c = true
          · exact z
          · rw [show leD n m f hl b c (a - 4) = (false, f) from if_neg z] at q; cases q
        have sw := M_sworn (h := h) (lv := 1) (by omega) (show b < 6 by omega) (show c < 6 by omega) (show a - 4 < 4 by omega)
        rw [← one_nI, T.2.1, tl_cg hl T.1 (by omega) (by omega)] at sw
        rw [sw, bd_s, L36, nI_add, nI_sub4 (by omega), show 36 + a - 4 = 36 + (a - 4) by omega, show leD n m f hl b c (a - 4) = (true, knF f (a - 4) (tl f hl (a - 4) b c)) from if_pos qq]
        obtain ⟨g, eg, Tg, Og⟩ := M_kn T (show a - 4 < 4 by omega) (tl f hl (a - 4) b c)
        exact ⟨g, by rw [eg, bd_s]; rfl, Tg, Og⟩
      · have q0 := b2n q
        rw [q0, if_neg (by decide), if_pos True.intro]
        have : (leD n m f hl b c (a - 4)).2 = f := by
          unfold leD at q ⊢
          by_cases z : (a - 4) < m ∧ f (13 + (a - 4)) = -9 ∧ b < n ∧ c < n ∧ cp f (a - 4) b c = true
          · rw [if_pos z] at q; exact absurd rfl q
          · rw [if_neg z]
        rw [this]
        exact ⟨h, rfl, T, OM.rf h⟩
    · rw [decide_eq_false (show ¬ (a : Int) ≤ 7 by omega), Bool.and_false, if_neg (by decide), if_pos True.intro, show leD n m f hl b c (a - 4) = (false, f) from if_neg (by omega)]
      exact ⟨h, rfl, T, OM.rf h⟩
  · rw [if_neg a4, decide_eq_false (show ¬ (4 : Int) ≤ (a : Int) by omega), Bool.false_and, if_neg (by decide), if_pos True.intro]
    exact ⟨h, rfl, T, OM.rf h⟩
end TRM
