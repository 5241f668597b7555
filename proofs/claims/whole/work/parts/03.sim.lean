/-! layout of the abstract heap, by program -/
def layL : List Nat := [4, 3, 148, 1, 104, 104, 104, 104, 106, 1, 104, 104, 104, 104, 106, 1, 104, 104, 104, 104, 106, 1, 104, 104, 104, 104, 106, 0, 114, 114, 114, 2, 106, 106, 106, 164, 5, 108, 146, 112, 108, 106, 148, 422, 115, 106, 106, 106, 1002, 146]
def fkL : List (List Nat) := [[1, 1, 1, 0], [0, 0, 0, 0, 0, 0, 1, 1, 1, 1, 1], [1, 1, 1, 0], [1, 0], [1, 1, 1, 1, 1, 0, 1, 1, 1, 2], [0, 0, 1, 1, 1, 1, 1, 0, 0, 1, 0, 0, 0, 0, 0, 1, 1, 0, 1, 1, 1, 2, 1, 1]]
def ofL : List (List Nat) := [[1, 2, 3, 0], [0, 0, 0, 0, 0, 0, 1, 2, 3, 4, 5], [1, 2, 3, 0], [1, 0], [1, 3, 9, 15, 21, 0, 27, 31, 35, 0], [0, 0, 1, 2, 3, 4, 5, 0, 0, 6, 0, 0, 0, 0, 0, 7, 8, 0, 9, 10, 11, 0, 12, 13]]
def fldT : List (Nat × Nat × Nat × Nat × Nat) := [(3, 9, 3, 0, 58), (3, 15, 3, 1, 59), (4, 54, 3, 1, 60), (1, 27, 1, 0, 73), (4, 72, 1, 0, 74), (1, 31, 1, 1, 75), (4, 75, 1, 1, 76), (1, 34, 1, 2, 77), (1, 37, 1, 3, 78), (1, 40, 1, 4, 79), (1, 43, 1, 5, 80), (1, 9, 1, 6, 81), (1, 15, 1, 7, 82), (1, 18, 1, 8, 83), (1, 21, 1, 9, 84), (1, 24, 1, 10, 85), (0, 9, 0, 0, 115), (0, 15, 0, 1, 116), (0, 18, 0, 2, 117), (0, 21, 0, 3, 118), (4, 66, 0, 3, 119), (2, 9, 2, 0, 135), (2, 15, 2, 1, 136), (2, 18, 2, 2, 137), (2, 21, 2, 3, 138), (4, 187, 2, 3, 139), (4, 10, 4, 0, 149), (4, 19, 4, 1, 150), (4, 23, 4, 2, 151), (4, 26, 4, 3, 152), (4, 29, 4, 4, 153), (4, 69, 4, 5, 154), (4, 35, 4, 6, 155), (4, 42, 4, 7, 156), (4, 46, 4, 8, 157), (4, 209, 4, 9, 158), (5, 96, 5, 0, 614), (5, 99, 5, 1, 615), (5, 7, 5, 2, 616), (5, 13, 5, 3, 617), (5, 16, 5, 4, 618), (5, 19, 5, 5, 619), (5, 22, 5, 6, 620), (5, 75, 5, 7, 621), (5, 72, 5, 8, 622), (5, 25, 5, 9, 623), (5, 56, 5, 10, 624), (5, 63, 5, 11, 625), (5, 60, 5, 12, 626), (5, 106, 5, 13, 627), (5, 135, 5, 14, 628), (5, 28, 5, 15, 629), (5, 31, 5, 16, 630), (5, 193, 5, 17, 631), (5, 34, 5, 18, 632), (5, 37, 5, 19, 633), (5, 40, 5, 20, 634), (5, 213, 5, 21, 635), (5, 43, 5, 22, 636), (5, 47, 5, 23, 637)]
/-! a method: program, name, code, locals, answer, room (frames, locals) -/
abbrev MI : Type := Nat × MethodName × ByteArray × Nat × Option FieldType × Nat × Nat
abbrev mO (M : MI) : Nat := M.1
abbrev mY (M : MI) : MethodName := M.2.1
abbrev mC (M : MI) : ByteArray := M.2.2.1
abbrev mL (M : MI) : Nat := M.2.2.2.1
abbrev mT (M : MI) : Option FieldType := M.2.2.2.2.1
abbrev mF (M : MI) : Nat := M.2.2.2.2.2.1
abbrev mR (M : MI) : Nat := M.2.2.2.2.2.2
def nmC (k : Nat) : String := match k with
  | 0 => RX0
  | 1 => RX1
  | 2 => RX2
  | 3 => RX3
  | 4 => RX4
  | 5 => RX5
  | 6 => RL
  | 7 => RJ6
  | _ => RJ9
/-- the abstract heap: ints of a cell's slots, the long of a cell -/
abbrev HS : Type := (Nat → Nat → Int32) × (Nat → Int64)
def hset (h : HS) (a k : Nat) (v : Int32) : HS := (fun b j => if b = a ∧ j = k then v else h.1 b j, h.2)
def hlng (h : HS) (a : Nat) (v : Int64) : HS := (h.1, fun b => if b = a then v else h.2 b)
def lay (a : Nat) : Nat := layL.getD a 5000
def alen (a : Nat) : Nat := if lay a < 1000 then lay a - 100 else lay a - 1000
def fk (c k : Nat) : Nat := (fkL.getD c []).getD k 3
def ofs (c k : Nat) : Nat := (ofL.getD c []).getD k 0
def rz (ρ : Nat → Nat) (v : Value) : Value := match v with
  | .ref a => .ref (ρ a)
  | v => v
def fv (h : HS) (a c k : Nat) : Value := match fk c k with
  | 0 => .int (h.1 a k)
  | 1 => .ref (a + ofs c k)
  | _ => .long (h.2 a)
def fvs (ρ : Nat → Nat) (h : HS) (a c : Nat) : List Value := (List.range (fkL.getD c []).length).map (fun k => rz ρ (fv h a c k))
def ct (ρ : Nat → Nat) (cI cZ : ClassId) (h : HS) (a : Nat) : va_E :=
  if lay a < 100 then .inr (lay a, fvs ρ h a (lay a)) else .inl (if lay a < 1000 then cI else cZ, alen a, .inl (h.1 a))
def wl (ρ : Nat → Nat) (cI cZ : ClassId) (h : HS) : va_W := (List.range 50).map (fun a => (ρ a, ct ρ cI cZ h a))
def Rep (ρ : Nat → Nat) (D : va_G) (cI cZ : ClassId) (h : HS) (H : Heap) : Prop := va_P D vwCl (wl ρ cI cZ h) H
def tysI (cI cZ : ClassId) : List (ClassId × FieldType) := [(cI, .int), (cZ, .boolean)]
def lw_gd : List Jvm.Cond := lw_tbl.filter goodWord
theorem mem_gd {w : Jvm.Cond} (h : w ∈ lw_tbl) (hg : goodWord w = true) : w ∈ lw_gd := List.mem_filter.mpr ⟨h, hg⟩
theorem gd_good {w : Jvm.Cond} (h : w ∈ lw_gd) : goodWord w = true := (List.mem_filter.mp h).2
def clC (c : Nat) : vw_C := vwCl.getD c (RX0, TX0, 0)
def tyC (c : Nat) : Nat → FieldType := match c with
  | 0 => tyX0
  | 1 => tyX1
  | 2 => tyX2
  | 3 => tyX3
  | 4 => tyX4
  | _ => tyX5
def fldB (q : Nat × Nat × Nat × Nat × Nat) : Bool :=
  decide (q.2.2.1 < 6) && decide (q.2.2.2.1 < (clC q.2.2.1).2.2) && decide (lw_tbl[q.2.2.2.2]? = some (Jvm.Cond.fieldLink (nmC q.1) q.2.1 ((clC q.2.2.1).2.1 q.2.2.2.1).1 ((clC q.2.2.1).2.1 q.2.2.2.1).2.1 ((clC q.2.2.1).2.1 q.2.2.2.1).2.2.1))
set_option maxRecDepth 100000 in
theorem fldT_ok : fldT.all fldB = true := by decide +kernel
theorem inAll : ∀ c, c < 6 → ∀ w ∈ u_ws (clC c).1 (clC c).2.1 (clC c).2.2, w ∈ lw_gd := by decide +kernel
theorem clC_at : ∀ c, c < 6 → vwCl[c]? = some ((clC c).1, (clC c).2.1, (clC c).2.2) := fun c h => by
  match c, h with
  | 0, _ => rfl
  | 1, _ => rfl
  | 2, _ => rfl
  | 3, _ => rfl
  | 4, _ => rfl
  | 5, _ => rfl
  | c + 6, h => omega
theorem nmAll : ∀ c, c < 6 → ∀ a, a < (clC c).2.2 → ∀ b, b < (clC c).2.2 → a ≠ b → ((clC c).2.1 a).2.1 ≠ ((clC c).2.1 b).2.1 := fun c h => by
  match c, h with
  | 0, _ => exact nmX0
  | 1, _ => exact nmX1
  | 2, _ => exact nmX2
  | 3, _ => exact nmX3
  | 4, _ => exact nmX4
  | 5, _ => exact nmX5
  | c + 6, h => omega
theorem tyAll : ∀ c, c < 6 → ∀ k, k < (clC c).2.2 → parseFieldDescriptor ((clC c).2.1 k).2.2.1 = some (tyC c k) := fun c h => by
  match c, h with
  | 0, _ => exact tyX0_ok
  | 1, _ => exact tyX1_ok
  | 2, _ => exact tyX2_ok
  | 3, _ => exact tyX3_ok
  | 4, _ => exact tyX4_ok
  | 5, _ => exact tyX5_ok
  | c + 6, h => omega
theorem lenAll : ∀ c, c < 6 → (fkL.getD c []).length = (clC c).2.2 := by decide +kernel
theorem fkI : ∀ c, c < 6 → ∀ k, k < (clC c).2.2 → fk c k = 0 → ((clC c).2.1 k).2.2 = ("I", false) := by decide +kernel
theorem fkJ : ∀ c, c < 6 → ∀ k, k < (clC c).2.2 → fk c k = 2 → ((clC c).2.1 k).2.2 = ("J", false) := by decide +kernel
theorem fkLt : ∀ c, c < 6 → ∀ k, k < (clC c).2.2 → fk c k < 3 := by decide +kernel
theorem fkOne : ∀ c, c < 6 → ∀ i, i < (clC c).2.2 → fk c i = 2 → ∀ j, j < (clC c).2.2 → fk c j = 2 → j = i := by decide +kernel
theorem layLt : ∀ a, lay a < 5000 → a < 50 := fun a h => by
  rcases Nat.lt_or_ge a 50 with q | q
  · exact q
  · have : lay a = 5000 := by
      unfold lay
      rw [List.getD_eq_getElem?_getD, List.getElem?_eq_none (by simpa [layL] using q)]
      rfl
    omega
/-! the list of cells -/
theorem wl_get (ρ : Nat → Nat) (cI cZ : ClassId) (h : HS) {a : Nat} (ha : a < 50) : (wl ρ cI cZ h)[a]? = some (ρ a, ct ρ cI cZ h a) := by
  unfold wl
  rw [List.getElem?_map, List.getElem?_range ha]
  rfl
theorem wl_set (ρ : Nat → Nat) (cI cZ : ClassId) (h h' : HS) {a : Nat} (e : va_E) (he : ct ρ cI cZ h' a = e) (ho : ∀ b, b ≠ a → ct ρ cI cZ h' b = ct ρ cI cZ h b) : (wl ρ cI cZ h).set a (ρ a, e) = wl ρ cI cZ h' := by
  apply List.ext_getElem?
  intro b
  by_cases hb : b < 50
  · by_cases hba : b = a
    · subst hba
      rw [List.getElem?_set_self (by simpa [wl] using hb), wl_get ρ cI cZ h' hb, he]
    · rw [List.getElem?_set_ne (Ne.symm hba), wl_get ρ cI cZ h hb, wl_get ρ cI cZ h' hb, ho b hba]
  · rw [List.getElem?_eq_none (by simp [wl]; omega), List.getElem?_eq_none (by simp [wl]; omega)]
theorem wl_D {ρ : Nat → Nat} {cI cZ : ClassId} {h : HS} {A : Nat → Prop} (hi : ∀ i j, i < 50 → j < 50 → ρ i = ρ j → i = j) (hA : ∀ i, i < 50 → A (ρ i)) : va_D A (wl ρ cI cZ h) := by
  have lt : ∀ (i : Nat) (q : Nat × va_E), (wl ρ cI cZ h)[i]? = some q → i < 50 := fun i q hq => by
    have := (List.getElem?_eq_some_iff.mp hq).1
    simpa [wl] using this
  refine ⟨fun i j p q hp hq hpq => ?_, fun k q hq => ?_⟩
  · have l1 := lt i p hp
    have l2 := lt j q hq
    rw [wl_get ρ cI cZ h l1] at hp
    rw [wl_get ρ cI cZ h l2] at hq
    cases hp; cases hq
    exact hi i j l1 l2 hpq
  · have l1 := lt k q hq
    rw [wl_get ρ cI cZ h l1] at hq
    cases hq
    exact hA k l1
theorem fvs_get (ρ : Nat → Nat) (h : HS) {a c k : Nat} (hk : k < (fkL.getD c []).length) : (fvs ρ h a c)[k]? = some (rz ρ (fv h a c k)) := by
  unfold fvs
  rw [List.getElem?_map, List.getElem?_range hk]
  rfl
theorem ct_off {ρ : Nat → Nat} {cI cZ : ClassId} {h h' : HS} {b : Nat} (h1 : h'.1 b = h.1 b) (h2 : h'.2 b = h.2 b) : ct ρ cI cZ h' b = ct ρ cI cZ h b := by
  have e : ∀ k, fv h' b (lay b) k = fv h b (lay b) k := fun k => by
    unfold fv
    rw [h1, h2]
  unfold ct fvs
  simp only [e, h1]
theorem fvs_set {ρ : Nat → Nat} {h h' : HS} {a c k : Nat} {v : Value} (hv : rz ρ (fv h' a c k) = v) (ho : ∀ j, j < (fkL.getD c []).length → j ≠ k → fv h' a c j = fv h a c j) : (fvs ρ h a c).set k v = fvs ρ h' a c := by
  apply List.ext_getElem?
  intro j
  by_cases hj : j < (fkL.getD c []).length
  · by_cases hjk : j = k
    · subst hjk
      rw [List.getElem?_set_self (by simpa [fvs] using hj), fvs_get ρ h' hj, hv]
    · rw [List.getElem?_set_ne (Ne.symm hjk), fvs_get ρ h hj, fvs_get ρ h' hj, ho j hj hjk]
  · rw [List.getElem?_eq_none (by simp [fvs]; simp at hj; omega), List.getElem?_eq_none (by simp [fvs]; simp at hj; omega)]
/-! locals -/
def LR (ρ : Nat → Nat) (n : Nat) (ls : List Value) (lsr : Array Slot) : Prop := ls.length = n ∧ lsr.size = n ∧ lv_wf lsr ∧ ∀ (i : Nat) (v : Value), ls[i]? = some v → v ≠ .null → lsr[i]? = some (.val (rz ρ v))
def lvl (ρ : Nat → Nat) (ls : List Value) : List (Nat × Value) := (List.range ls.length).filterMap (fun i => match ls[i]? with
  | some Value.null => none
  | some v => some (i, rz ρ v)
  | none => none)
theorem lvl_mem {ρ : Nat → Nat} {ls : List Value} {q : Nat × Value} : q ∈ lvl ρ ls ↔ ∃ v, ls[q.1]? = some v ∧ v ≠ .null ∧ q.2 = rz ρ v := by
  unfold lvl
  rw [List.mem_filterMap]
  constructor
  · rintro ⟨i, -, hq⟩
    split at hq
    · cases hq
    · rename_i v hn hv
      cases hq
      exact ⟨v, hv, fun e => hn e, rfl⟩
    · cases hq
  · rintro ⟨v, hv, hn, he⟩
    refine ⟨q.1, List.mem_range.mpr (List.getElem?_eq_some_iff.mp hv).1, ?_⟩
    rw [hv]
    cases v <;> first | exact absurd rfl hn | (obtain ⟨q1, q2⟩ := q; simp only at he; subst he; rfl)
theorem LR.has {ρ : Nat → Nat} {n : Nat} {ls : List Value} {lsr : Array Slot} (h : LR ρ n ls lsr) : lv_has lsr n (lvl ρ ls) := by
  refine ⟨h.2.1, h.2.2.1, fun q hq => ?_⟩
  obtain ⟨v, h1, h2, h3⟩ := lvl_mem.mp hq
  rw [h3]
  exact h.2.2.2 q.1 v h1 h2
def stOK (ls : List Value) (i : Nat) : Bool := match i with
  | 0 => true
  | j + 1 => match ls[j]? with
    | some (.long _) => false
    | some (.double _) => false
    | _ => true
theorem rz_cat (ρ : Nat → Nat) (v : Value) : (rz ρ v).category = v.category := by cases v <;> rfl
theorem stOK_cat {ls : List Value} {i j : Nat} {v : Value} (h : stOK ls i = true) (hj : j + 1 = i) (hv : ls[j]? = some v) : v.category ≠ 2 := by
  subst hj
  unfold stOK at h
  simp only [hv] at h
  cases v <;> first | (simp at h; done) | (simp [Value.category])
theorem LR.store {ρ : Nat → Nat} {n i : Nat} {ls : List Value} {lsr ls' : Array Slot} {v : Value} (h : LR ρ n ls lsr) (hok : stOK ls i = true)
    (h' : lv_has ls' n ((i, rz ρ v) :: (lvl ρ ls).filter (fun q => !(q.1 == i) && !(q.1 + 1 == i && q.2.category == 2)))) : LR ρ n (ls.set i v) ls' := by
  refine ⟨by rw [List.length_set]; exact h.1, h'.1, h'.2.1, fun j w hj hn => ?_⟩
  by_cases hji : j = i
  · subst hji
    have hl : j < ls.length := by
      have := (List.getElem?_eq_some_iff.mp hj).1
      rwa [List.length_set] at this
    rw [List.getElem?_set_self hl] at hj
    cases hj
    exact h'.2.2 (j, rz ρ v) List.mem_cons_self
  · rw [List.getElem?_set_ne (Ne.symm hji)] at hj
    refine h'.2.2 (j, rz ρ w) (List.mem_cons_of_mem _ (List.mem_filter.mpr ⟨lvl_mem.mpr ⟨w, hj, hn, rfl⟩, ?_⟩))
    simp only [Bool.and_eq_true, Bool.not_eq_true', beq_eq_false_iff_ne, ne_eq, Bool.and_eq_false_iff]
    refine ⟨hji, ?_⟩
    by_cases e : j + 1 = i
    · exact Or.inr (by rw [rz_cat]; exact stOK_cat hok e hj)
    · exact Or.inl e
theorem LR.store2 {ρ : Nat → Nat} {n i : Nat} {ls : List Value} {lsr ls' : Array Slot} {v : Value} (h : LR ρ n ls lsr) (hok : stOK ls i = true)
    (h' : lv_has ls' n ((i, rz ρ v) :: (lvl ρ ls).filter (fun q => !(q.1 == i) && (!(q.1 == i + 1) && !(q.1 + 1 == i && q.2.category == 2))))) : LR ρ n ((ls.set i v).set (i + 1) .null) ls' := by
  refine ⟨by rw [List.length_set, List.length_set]; exact h.1, h'.1, h'.2.1, fun j w hj hn => ?_⟩
  have hl : j < ls.length := by
    have := (List.getElem?_eq_some_iff.mp hj).1
    rwa [List.length_set, List.length_set] at this
  by_cases hj1 : j = i + 1
  · subst hj1
    rw [List.getElem?_set_self (by rw [List.length_set]; exact hl)] at hj
    cases hj
    exact absurd rfl hn
  rw [List.getElem?_set_ne (Ne.symm hj1)] at hj
  by_cases hji : j = i
  · subst hji
    rw [List.getElem?_set_self hl] at hj
    cases hj
    exact h'.2.2 (j, rz ρ v) List.mem_cons_self
  · rw [List.getElem?_set_ne (Ne.symm hji)] at hj
    refine h'.2.2 (j, rz ρ w) (List.mem_cons_of_mem _ (List.mem_filter.mpr ⟨lvl_mem.mpr ⟨w, hj, hn, rfl⟩, ?_⟩))
    simp only [Bool.and_eq_true, Bool.not_eq_true', beq_eq_false_iff_ne, ne_eq, Bool.and_eq_false_iff]
    refine ⟨hji, hj1, ?_⟩
    by_cases e : j + 1 = i
    · exact Or.inr (by rw [rz_cat]; exact stOK_cat hok e hj)
    · exact Or.inl e
/-! simple instructions -/
abbrev Op1 : Type := Instr × Nat × (Nat × Nat) × Int32
def nx (i : Instr) (n : Nat) (x : Nat × Nat) (pc : Nat) : Nat := match i with
  | .goto _ => x.1
  | _ => pc + n
def inF (o j : Nat) (x : Nat × Nat) : Bool := fldT.any (fun q => q.1 == o && q.2.1 == j && q.2.2.1 == x.1 && q.2.2.2.1 == x.2)
def opOK (o pc : Nat) (i : Instr) (n : Nat) (x : Nat × Nat) (v : Int32) : Bool := match i with
  | .iconst a => n == 1 && Int32.ofInt a == v
  | .bipush a => n == 2 && (Int8.ofInt a).toInt32 == v
  | .sipush a => n == 3 && (Int16.ofInt a).toInt32 == v
  | .iinc _ a => n == 3 && Int32.ofInt a == v
  | .getfield j => n == 3 && inF o j x
  | .putfield j => n == 3 && inF o j x
  | .goto off => n == 3 && decide ((pc : Int) + off = (x.1 : Int))
  | .iload _ => n == 2
  | .lload _ => n == 2
  | .aload _ => n == 2
  | .istore _ => n == 2
  | .lstore _ => n == 2
  | .astore _ => n == 2
  | _ => n == 1
def ex (i : Instr) (x : Nat × Nat) (v : Int32) (ls st : List Value) (h : HS) : Option (List Value × List Value × HS) := match i with
  | .iconst _ => some (ls, .int v :: st, h)
  | .bipush _ => some (ls, .int v :: st, h)
  | .sipush _ => some (ls, .int v :: st, h)
  | .lconst a => some (ls, .long (Int64.ofNat a.val) :: st, h)
  | .goto _ => some (ls, st, h)
  | .iload_n a => match ls[a.val]? with
    | some (.int y) => some (ls, .int y :: st, h)
    | _ => none
  | .iload a => match ls[a]? with
    | some (.int y) => some (ls, .int y :: st, h)
    | _ => none
  | .lload_n a => match ls[a.val]? with
    | some (.long y) => some (ls, .long y :: st, h)
    | _ => none
  | .lload a => match ls[a]? with
    | some (.long y) => some (ls, .long y :: st, h)
    | _ => none
  | .aload_n a => match ls[a.val]? with
    | some (.ref y) => some (ls, .ref y :: st, h)
    | _ => none
  | .aload a => match ls[a]? with
    | some (.ref y) => some (ls, .ref y :: st, h)
    | _ => none
  | .istore_n a => match st, ls[a.val]?, stOK ls a.val with
    | .int y :: r, some _, true => some (ls.set a.val (.int y), r, h)
    | _, _, _ => none
  | .istore a => match st, ls[a]?, stOK ls a with
    | .int y :: r, some _, true => some (ls.set a (.int y), r, h)
    | _, _, _ => none
  | .astore_n a => match st, ls[a.val]?, stOK ls a.val with
    | .ref y :: r, some _, true => some (ls.set a.val (.ref y), r, h)
    | _, _, _ => none
  | .astore a => match st, ls[a]?, stOK ls a with
    | .ref y :: r, some _, true => some (ls.set a (.ref y), r, h)
    | _, _, _ => none
  | .lstore_n a => match st, ls[a.val + 1]?, stOK ls a.val with
    | .long y :: r, some _, true => some ((ls.set a.val (.long y)).set (a.val + 1) .null, r, h)
    | _, _, _ => none
  | .lstore a => match st, ls[a + 1]?, stOK ls a with
    | .long y :: r, some _, true => some ((ls.set a (.long y)).set (a + 1) .null, r, h)
    | _, _, _ => none
  | .iinc a _ => match ls[a]?, stOK ls a with
    | some (.int y), true => some (ls.set a (.int (y + v)), st, h)
    | _, _ => none
  | .dup => match st with
    | .int y :: r => some (ls, .int y :: .int y :: r, h)
    | .ref y :: r => some (ls, .ref y :: .ref y :: r, h)
    | _ => none
  | .pop => match st with
    | .int _ :: r => some (ls, r, h)
    | .ref _ :: r => some (ls, r, h)
    | _ => none
  | .dup2 => match st with
    | .int y :: .ref z :: r => some (ls, .int y :: .ref z :: .int y :: .ref z :: r, h)
    | _ => none
  | .iadd => match st with
    | .int y :: .int z :: r => some (ls, .int (z + y) :: r, h)
    | _ => none
  | .isub => match st with
    | .int y :: .int z :: r => some (ls, .int (z - y) :: r, h)
    | _ => none
  | .imul => match st with
    | .int y :: .int z :: r => some (ls, .int (z * y) :: r, h)
    | _ => none
  | .iand => match st with
    | .int y :: .int z :: r => some (ls, .int (z &&& y) :: r, h)
    | _ => none
  | .ior => match st with
    | .int y :: .int z :: r => some (ls, .int (z ||| y) :: r, h)
    | _ => none
  | .ixor => match st with
    | .int y :: .int z :: r => some (ls, .int (z ^^^ y) :: r, h)
    | _ => none
  | .ineg => match st with
    | .int y :: r => some (ls, .int (-y) :: r, h)
    | _ => none
  | .ishl => match st with
    | .int y :: .int z :: r => some (ls, .int (z <<< (y &&& 31)) :: r, h)
    | _ => none
  | .ishr => match st with
    | .int y :: .int z :: r => some (ls, .int (z >>> (y &&& 31)) :: r, h)
    | _ => none
  | .iushr => match st with
    | .int y :: .int z :: r => some (ls, .int ((z.toUInt32 >>> (y.toUInt32 &&& Int32.toUInt32 31)).toInt32) :: r, h)
    | _ => none
  | .i2l => match st with
    | .int y :: r => some (ls, .long y.toInt64 :: r, h)
    | _ => none
  | .l2i => match st with
    | .long y :: r => some (ls, .int y.toInt32 :: r, h)
    | _ => none
  | .ladd => match st with
    | .long y :: .long z :: r => some (ls, .long (z + y) :: r, h)
    | _ => none
  | .lmul => match st with
    | .long y :: .long z :: r => some (ls, .long (z * y) :: r, h)
    | _ => none
  | .land => match st with
    | .long y :: .long z :: r => some (ls, .long (z &&& y) :: r, h)
    | _ => none
  | .lor => match st with
    | .long y :: .long z :: r => some (ls, .long (z ||| y) :: r, h)
    | _ => none
  | .lushr => match st with
    | .int y :: .long z :: r => some (ls, .long ((z.toUInt64 >>> (y.toInt64.toUInt64 &&& Int64.toUInt64 63)).toInt64) :: r, h)
    | _ => none
  | .lshl => match st with
    | .int y :: .long z :: r => some (ls, .long (z <<< (y.toInt64 &&& 63)) :: r, h)
    | _ => none
  | .lcmp => match st with
    | .long y :: .long z :: r => some (ls, .int (lg_cmp z y) :: r, h)
    | _ => none
  | .arraylength => match st with
    | .ref a :: r => if 100 ≤ lay a ∧ lay a < 5000 then some (ls, .int (Int32.ofNat (alen a)) :: r, h) else none
    | _ => none
  | .getfield _ => match st with
    | .ref a :: r => if lay a = x.1 then some (ls, fv h a x.1 x.2 :: r, h) else none
    | _ => none
  | .putfield _ => match st, fk x.1 x.2 with
    | .int y :: .ref a :: r, 0 => if lay a = x.1 then some (ls, r, hset h a x.2 y) else none
    | .long y :: .ref a :: r, 2 => if lay a = x.1 then some (ls, r, hlng h a y) else none
    | _, _ => none
  | _ => none
def segOK (M : MI) : Nat → List Op1 → Bool
  | _, [] => true
  | pc, (i, n, x, v) :: r => decide (decode (mC M) pc = .ok (i, n)) && opOK (mO M) pc i n x v && segOK M (nx i n x pc) r
def segPc : Nat → List Op1 → Nat
  | pc, [] => pc
  | pc, (i, n, x, _) :: r => segPc (nx i n x pc) r
def run1 : List Op1 → List Value → List Value → HS → Option (List Value × List Value × HS)
  | [], ls, st, h => some (ls, st, h)
  | (i, _, x, v) :: r, ls, st, h => match ex i x v ls st h with
    | some (ls', st', h') => run1 r ls' st' h'
    | none => none
/-! what holds all through a method's run -/
def Cx (sc : Option (Nat × (Nat → Int32))) (M : MI) (ρ : Nat → Nat) (D : va_G) (cI cZ : ClassId) (A : Nat → Prop) (p : Program) (R : Room) (s : State) (m : MethodId) (args : Array Value) (meth : Method) (c : Code) : Prop :=
  p.tables.exec = Jvm.exec ∧ c.code = mC M ∧ c.maxLocals = mL M ∧ meth.sig.returnType = mT M ∧ meth.locks = false ∧ s.vm.findClass (nmC (mO M)) = some m.cls ∧ (∀ w ∈ lw_gd, w.before args s = true) ∧ mF M ≤ R.frames ∧ mR M ≤ R.locals ∧
  va_K D vwCl (tysI cI cZ) s ∧ (∀ i j, i < 50 → j < 50 → ρ i = ρ j → i = j) ∧ (∀ i, i < 50 → A (ρ i)) ∧
  (∀ L xs, sc = some (L, xs) → va_X (ρ 99) L xs s s.heap ∧ ρ 99 < s.heap.size ∧ ¬ A (ρ 99))
theorem fld_of {o j : Nat} {x : Nat × Nat} (h : inF o j x = true) : x.1 < 6 ∧ x.2 < (clC x.1).2.2 ∧ Jvm.Cond.fieldLink (nmC o) j ((clC x.1).2.1 x.2).1 ((clC x.1).2.1 x.2).2.1 ((clC x.1).2.1 x.2).2.2.1 ∈ lw_gd := by
  unfold inF at h
  obtain ⟨q, hq, hb⟩ := List.any_eq_true.mp h
  simp only [Bool.and_eq_true, beq_iff_eq] at hb
  obtain ⟨⟨⟨h1, h2⟩, h3⟩, h4⟩ := hb
  have h5 := List.all_eq_true.mp fldT_ok q hq
  unfold fldB at h5
  simp only [Bool.and_eq_true, decide_eq_true_eq] at h5
  obtain ⟨⟨h6, h7⟩, h8⟩ := h5
  rw [h3] at h6 h7 h8
  rw [h4] at h7 h8
  rw [h1, h2] at h8
  exact ⟨h6, h7, mem_gd (List.mem_of_getElem? h8) rfl⟩
section SIM
variable {sc : Option (Nat × (Nat → Int32))} {M : MI} {ρ : Nat → Nat} {D : va_G} {cI cZ : ClassId} {A : Nat → Prop} {p : Program} {l : Launch} {e : Env} {R : Room} {s : State} {m : MethodId} {args : Array Value} {below : List Frame} {meth : Method} {c : Code} {cells slots : Nat} {Q : State → Prop}
theorem ex_ld {i : Nat} {v : Value} {ls : List Value} {lsr : Array Slot} {n : Nat} (h : LR ρ n ls lsr) (hv : ls[i]? = some v) (hn : v ≠ .null) : lsr[i]? = some (.val (rz ρ v)) := h.2.2.2 i v hv hn
theorem LR.lt {i : Nat} {v : Value} {ls : List Value} {lsr : Array Slot} {n : Nat} (h : LR ρ n ls lsr) (hv : ls[i]? = some v) : i < n := by
  rw [← h.1]
  exact (List.getElem?_eq_some_iff.mp hv).1
set_option maxHeartbeats 4000000 in
theorem ex_get (C : Cx sc M ρ D cI cZ A p R s m args meth c) {pc j : Nat} {x : Nat × Nat} {lsr : Array Slot} {r : List Value} {h : HS} {H : Heap} {locs : List Loc} {a : Nat} (hd : decode (mC M) pc = .ok (.getfield j, 3)) (ho : inF (mO M) j x = true) (hl : lay a = x.1) (hR : Rep ρ D cI cZ h H)
    (k : W p l e R s m args below meth c H locs cells slots Q (F0 m (pc + 3) lsr (rz ρ (fv h a x.1 x.2) :: r))) : W p l e R s m args below meth c H locs cells slots Q (F0 m pc lsr (.ref (ρ a) :: r)) := by
  obtain ⟨hx, hb, -, -, -, hown, hts, -, -, hK, -⟩ := C
  obtain ⟨f1, f2, f3⟩ := fld_of ho
  have ha : a < 50 := layLt a (by omega)
  have he := wl_get ρ cI cZ h ha
  have hce : ct ρ cI cZ h a = .inr (x.1, fvs ρ h a x.1) := by
    unfold ct
    rw [if_pos (by omega), hl]
  rw [hce] at he
  exact va_get hx hb hts (inAll x.1 f1) hown hK hR a he (clC_at x.1 f1) x.2 f2 (hts _ f3) (fun _ h => h) (fvs_get ρ h (by rw [lenAll x.1 f1]; exact f2)) hd k
set_option maxHeartbeats 4000000 in
theorem ex_put (C : Cx sc M ρ D cI cZ A p R s m args meth c) {pc j : Nat} {x : Nat × Nat} {lsr : Array Slot} {r : List Value} {h : HS} {H : Heap} {locs : List Loc} {a : Nat} {y : Int32} (hd : decode (mC M) pc = .ok (.putfield j, 3)) (ho : inF (mO M) j x = true) (hl : lay a = x.1) (hf : fk x.1 x.2 = 0) (hR : Rep ρ D cI cZ h H) (hS : va_S A s.heap H locs)
    (k : ∀ (H' : Heap) (locs' : List Loc), Rep ρ D cI cZ (hset h a x.2 y) H' → va_S A s.heap H' locs' → W p l e R s m args below meth c H' locs' cells slots Q (F0 m (pc + 3) lsr r)) : W p l e R s m args below meth c H locs cells slots Q (F0 m pc lsr (.int y :: .ref (ρ a) :: r)) := by
  obtain ⟨hx, hb, -, -, -, hown, hts, -, -, hK, hi, hA, -⟩ := C
  obtain ⟨f1, f2, f3⟩ := fld_of ho
  have ha : a < 50 := layLt a (by omega)
  have he := wl_get ρ cI cZ h ha
  have hct : ∀ h : HS, ct ρ cI cZ h a = .inr (x.1, fvs ρ h a x.1) := fun h => by
    unfold ct
    rw [if_pos (by omega), hl]
  rw [hct] at he
  have hk0 := fkI x.1 f1 x.2 f2 hf
  have hfin : ((clC x.1).2.1 x.2).2.2.2 = false := by rw [hk0]
  have hdesc : parseFieldDescriptor ((clC x.1).2.1 x.2).2.2.1 = some .int := by rw [hk0]; decide +kernel
  refine va_put hx hb hts (inAll x.1 f1) (tyC x.1) (tyAll x.1 f1) (nmAll x.1 f1) hown hK hR (wl_D hi hA) hS a he (clC_at x.1 f1) x.2 f2 (hts _ f3) (fun _ h => h) hfin hdesc (v := .int y) rfl rfl (by simp only [fvs, List.length_map, List.length_range]; rw [lenAll x.1 f1]; exact f2) hd (fun H1 locs1 hP _ hS1 => ?_)
  refine k H1 locs1 ?_ hS1
  have e := wl_set ρ cI cZ h (hset h a x.2 y) (a := a) (.inr (x.1, (fvs ρ h a x.1).set x.2 (.int y))) (by
    rw [hct]
    congr 2
    refine (fvs_set ?_ fun j _ hj => ?_).symm
    · unfold fv
      rw [hf]
      simp [rz, hset]
    · unfold fv
      simp [hset, hj]) (fun b hb' => ct_off (by funext j; simp [hset, hb']) rfl)
  unfold Rep
  rw [← e]
  exact hP
set_option maxHeartbeats 4000000 in
theorem ex_putL (C : Cx sc M ρ D cI cZ A p R s m args meth c) {pc j : Nat} {x : Nat × Nat} {lsr : Array Slot} {r : List Value} {h : HS} {H : Heap} {locs : List Loc} {a : Nat} {y : Int64} (hd : decode (mC M) pc = .ok (.putfield j, 3)) (ho : inF (mO M) j x = true) (hl : lay a = x.1) (hf : fk x.1 x.2 = 2) (hR : Rep ρ D cI cZ h H) (hS : va_S A s.heap H locs)
    (k : ∀ (H' : Heap) (locs' : List Loc), Rep ρ D cI cZ (hlng h a y) H' → va_S A s.heap H' locs' → W p l e R s m args below meth c H' locs' cells slots Q (F0 m (pc + 3) lsr r)) : W p l e R s m args below meth c H locs cells slots Q (F0 m pc lsr (.long y :: .ref (ρ a) :: r)) := by
  obtain ⟨hx, hb, -, -, -, hown, hts, -, -, hK, hi, hA, -⟩ := C
  obtain ⟨f1, f2, f3⟩ := fld_of ho
  have ha : a < 50 := layLt a (by omega)
  have he := wl_get ρ cI cZ h ha
  have hct : ∀ h : HS, ct ρ cI cZ h a = .inr (x.1, fvs ρ h a x.1) := fun h => by
    unfold ct
    rw [if_pos (by omega), hl]
  rw [hct] at he
  have hk0 := fkJ x.1 f1 x.2 f2 hf
  have hfin : ((clC x.1).2.1 x.2).2.2.2 = false := by rw [hk0]
  have hdesc : parseFieldDescriptor ((clC x.1).2.1 x.2).2.2.1 = some .long := by rw [hk0]; decide +kernel
  refine va_put hx hb hts (inAll x.1 f1) (tyC x.1) (tyAll x.1 f1) (nmAll x.1 f1) hown hK hR (wl_D hi hA) hS a he (clC_at x.1 f1) x.2 f2 (hts _ f3) (fun _ h => h) hfin hdesc (v := .long y) rfl rfl (by simp only [fvs, List.length_map, List.length_range]; rw [lenAll x.1 f1]; exact f2) hd (fun H1 locs1 hP _ hS1 => ?_)
  refine k H1 locs1 ?_ hS1
  have e := wl_set ρ cI cZ h (hlng h a y) (a := a) (.inr (x.1, (fvs ρ h a x.1).set x.2 (.long y))) (by
    rw [hct]
    congr 2
    refine (fvs_set ?_ fun j hjl hj => ?_).symm
    · unfold fv
      rw [hf]
      simp [rz, hlng]
    · rw [lenAll x.1 f1] at hjl
      have h2 : fk x.1 j ≠ 2 := fun z => hj (fkOne x.1 f1 x.2 f2 hf j hjl z)
      have h3 := fkLt x.1 f1 j hjl
      unfold fv
      rcases (by omega : fk x.1 j = 0 ∨ fk x.1 j = 1) with z | z <;> rw [z] <;> simp [hlng]) (fun b hb' => ct_off rfl (by simp [hlng, hb']))
  unfold Rep
  rw [← e]
  exact hP
end SIM
section SIM2
variable {sc : Option (Nat × (Nat → Int32))} {M : MI} {ρ : Nat → Nat} {D : va_G} {cI cZ : ClassId} {A : Nat → Prop} {p : Program} {l : Launch} {e : Env} {R : Room} {s : State} {m : MethodId} {args : Array Value} {below : List Frame} {meth : Method} {c : Code} {cells slots : Nat} {Q : State → Prop}
abbrev ExK (M : MI) (ρ : Nat → Nat) (D : va_G) (cI cZ : ClassId) (A : Nat → Prop) (p : Program) (l : Launch) (e : Env) (R : Room) (s : State) (m : MethodId) (args : Array Value) (below : List Frame) (meth : Method) (c : Code) (cells slots : Nat) (Q : State → Prop) (pc : Nat) (ls st : List Value) (h : HS) : Prop :=
  ∀ (H : Heap) (locs : List Loc) (lsr : Array Slot), Rep ρ D cI cZ h H → va_S A s.heap H locs → LR ρ (mL M) ls lsr → W p l e R s m args below meth c H locs cells slots Q (F0 m pc lsr (st.map (rz ρ)))
theorem ct_arr {h : HS} {a : Nat} (h1 : 100 ≤ lay a) (h2 : lay a < 1000) : ct ρ cI cZ h a = .inl (cI, alen a, .inl (h.1 a)) := by
  unfold ct
  rw [if_neg (by omega), if_pos h2]
theorem ct_arz {h : HS} {a : Nat} (h1 : 1000 ≤ lay a) : ct ρ cI cZ h a = .inl (cZ, alen a, .inl (h.1 a)) := by
  unfold ct
  rw [if_neg (by omega), if_neg (by omega)]
set_option maxHeartbeats 8000000 in
theorem ex_ok (C : Cx sc M ρ D cI cZ A p R s m args meth c) {i : Instr} {n pc : Nat} {x : Nat × Nat} {v : Int32} {ls st ls' st' : List Value} {h h' : HS} (hd : decode (mC M) pc = .ok (i, n)) (ho : opOK (mO M) pc i n x v = true) (hx : ex i x v ls st h = some (ls', st', h'))
    (k : ExK M ρ D cI cZ A p l e R s m args below meth c cells slots Q (nx i n x pc) ls' st' h') : ExK M ρ D cI cZ A p l e R s m args below meth c cells slots Q pc ls st h := by
  have C0 := C
  obtain ⟨hxc, hb, hml, -, -, hown, hts, -, -, hK, hi, hA, -⟩ := C
  intro H locs lsr hR hS hL
  unfold ex at hx
  split at hx
  · simp only [opOK, Bool.and_eq_true, beq_iff_eq] at ho
    cases hx; obtain ⟨rfl, ho⟩ := ho
    exact lv_iconst hxc hb hd ho (k H locs lsr hR hS hL)
  · simp only [opOK, Bool.and_eq_true, beq_iff_eq] at ho
    cases hx; obtain ⟨rfl, ho⟩ := ho
    exact lv_bipush hxc hb hd ho (k H locs lsr hR hS hL)
  · simp only [opOK, Bool.and_eq_true, beq_iff_eq] at ho
    cases hx; obtain ⟨rfl, ho⟩ := ho
    exact lv_sipush hxc hb hd ho (k H locs lsr hR hS hL)
  · simp only [opOK, beq_iff_eq] at ho
    cases hx; subst ho
    exact lv_lconst hxc hb hd rfl (k H locs lsr hR hS hL)
  · simp only [opOK, Bool.and_eq_true, beq_iff_eq, decide_eq_true_eq] at ho
    cases hx; obtain ⟨rfl, ho⟩ := ho
    exact lv_goto hxc hb hd ho (k H locs lsr hR hS hL)
  · simp only [opOK, beq_iff_eq] at ho
    subst ho
    split at hx
    · rename_i y hy
      cases hx
      exact lv_iload_n hxc hb hd rfl (hL.2.2.2 _ _ hy (fun q => by cases q)) (k H locs lsr hR hS hL)
    · cases hx
  · simp only [opOK, beq_iff_eq] at ho
    subst ho
    split at hx
    · rename_i y hy
      cases hx
      exact lv_iload hxc hb hd (hL.2.2.2 _ _ hy (fun q => by cases q)) (k H locs lsr hR hS hL)
    · cases hx
  · simp only [opOK, beq_iff_eq] at ho
    subst ho
    split at hx
    · rename_i y hy
      cases hx
      exact lv_lload_n hxc hb hd rfl (hL.2.2.2 _ _ hy (fun q => by cases q)) (k H locs lsr hR hS hL)
    · cases hx
  · simp only [opOK, beq_iff_eq] at ho
    subst ho
    split at hx
    · rename_i y hy
      cases hx
      exact lv_lload hxc hb hd (hL.2.2.2 _ _ hy (fun q => by cases q)) (k H locs lsr hR hS hL)
    · cases hx
  · simp only [opOK, beq_iff_eq] at ho
    subst ho
    split at hx
    · rename_i y hy
      cases hx
      exact lv_aload_n hxc hb hd rfl (hL.2.2.2 _ _ hy (fun q => by cases q)) (k H locs lsr hR hS hL)
    · cases hx
  · simp only [opOK, beq_iff_eq] at ho
    subst ho
    split at hx
    · rename_i y hy
      cases hx
      exact lv_aload hxc hb hd (hL.2.2.2 _ _ hy (fun q => by cases q)) (k H locs lsr hR hS hL)
    · cases hx
  · simp only [opOK, beq_iff_eq] at ho
    subst ho
    split at hx
    · rename_i y r w hy hok
      cases hx
      exact lv_istore_n hxc hb hd rfl hL.has (hL.lt hy) rfl (fun ls' h' => k H locs ls' hR hS (hL.store hok h'))
    · cases hx
  · simp only [opOK, beq_iff_eq] at ho
    subst ho
    split at hx
    · rename_i y r w hy hok
      cases hx
      exact lv_istore hxc hb hd hL.has (hL.lt hy) rfl (fun ls' h' => k H locs ls' hR hS (hL.store hok h'))
    · cases hx
  · simp only [opOK, beq_iff_eq] at ho
    subst ho
    split at hx
    · rename_i y r w hy hok
      cases hx
      exact lv_astore_n hxc hb hd rfl hL.has (hL.lt hy) rfl (fun ls' h' => k H locs ls' hR hS (hL.store (v := .ref y) hok h'))
    · cases hx
  · simp only [opOK, beq_iff_eq] at ho
    subst ho
    split at hx
    · rename_i y r w hy hok
      cases hx
      exact lv_astore hxc hb hd hL.has (hL.lt hy) rfl (fun ls' h' => k H locs ls' hR hS (hL.store (v := .ref y) hok h'))
    · cases hx
  · simp only [opOK, beq_iff_eq] at ho
    subst ho
    split at hx
    · rename_i y r w hy hok
      cases hx
      exact lv_lstore_n hxc hb hd rfl hL.has (hL.lt hy) rfl (fun ls' h' => k H locs ls' hR hS (hL.store2 hok h'))
    · cases hx
  · simp only [opOK, beq_iff_eq] at ho
    subst ho
    split at hx
    · rename_i y r w hy hok
      cases hx
      exact lv_lstore hxc hb hd hL.has (hL.lt hy) rfl (fun ls' h' => k H locs ls' hR hS (hL.store2 hok h'))
    · cases hx
  · simp only [opOK, Bool.and_eq_true, beq_iff_eq] at ho
    obtain ⟨rfl, ho⟩ := ho
    split at hx
    · rename_i y hy hok
      cases hx
      obtain ⟨q, hq⟩ := List.getElem?_of_mem (lvl_mem.mpr ⟨_, hy, (fun q => by cases q), rfl⟩ : (_, rz ρ (.int y)) ∈ lvl ρ ls)
      exact lv_iinc hxc hb hd hL.has hq (by rw [ho]) (hL.lt hy) rfl (fun ls' h' => k H locs ls' hR hS (hL.store (v := .int (y + v)) hok h'))
    · cases hx
  · simp only [opOK, beq_iff_eq] at ho
    subst ho
    split at hx
    · cases hx
      exact lv_dup hxc hb hd rfl (k H locs lsr hR hS hL)
    · cases hx
      exact lv_dup hxc hb hd rfl (k H locs lsr hR hS hL)
    · cases hx
  · simp only [opOK, beq_iff_eq] at ho
    subst ho
    split at hx
    · cases hx
      exact lv_pop hxc hb hd rfl (k H locs lsr hR hS hL)
    · cases hx
      exact lv_pop hxc hb hd rfl (k H locs lsr hR hS hL)
    · cases hx
  · simp only [opOK, beq_iff_eq] at ho
    subst ho
    split at hx
    · cases hx
      exact lv_dup2_11 hxc hb hd rfl rfl (k H locs lsr hR hS hL)
    · cases hx
  · simp only [opOK, beq_iff_eq] at ho
    subst ho
    split at hx
    · cases hx
      exact lv_iadd hxc hb hd (k H locs lsr hR hS hL)
    · cases hx
  · simp only [opOK, beq_iff_eq] at ho
    subst ho
    split at hx
    · cases hx
      exact lv_isub hxc hb hd (k H locs lsr hR hS hL)
    · cases hx
  · simp only [opOK, beq_iff_eq] at ho
    subst ho
    split at hx
    · cases hx
      exact lv_imul hxc hb hd (k H locs lsr hR hS hL)
    · cases hx
  · simp only [opOK, beq_iff_eq] at ho
    subst ho
    split at hx
    · cases hx
      exact lv_iand hxc hb hd (k H locs lsr hR hS hL)
    · cases hx
  · simp only [opOK, beq_iff_eq] at ho
    subst ho
    split at hx
    · cases hx
      exact lv_ior hxc hb hd (k H locs lsr hR hS hL)
    · cases hx
  · simp only [opOK, beq_iff_eq] at ho
    subst ho
    split at hx
    · cases hx
      exact lv_ixor hxc hb hd (k H locs lsr hR hS hL)
    · cases hx
  · simp only [opOK, beq_iff_eq] at ho
    subst ho
    split at hx
    · cases hx
      exact lv_ineg hxc hb hd (k H locs lsr hR hS hL)
    · cases hx
  · simp only [opOK, beq_iff_eq] at ho
    subst ho
    split at hx
    · cases hx
      exact lv_ishl hxc hb hd (k H locs lsr hR hS hL)
    · cases hx
  · simp only [opOK, beq_iff_eq] at ho
    subst ho
    split at hx
    · cases hx
      exact lv_ishr hxc hb hd (k H locs lsr hR hS hL)
    · cases hx
  · simp only [opOK, beq_iff_eq] at ho
    subst ho
    split at hx
    · cases hx
      exact lv_iushr hxc hb hd rfl (k H locs lsr hR hS hL)
    · cases hx
  · simp only [opOK, beq_iff_eq] at ho
    subst ho
    split at hx
    · cases hx
      exact lv_i2l hxc hb hd rfl (k H locs lsr hR hS hL)
    · cases hx
  · simp only [opOK, beq_iff_eq] at ho
    subst ho
    split at hx
    · cases hx
      exact lv_l2i hxc hb hd rfl (k H locs lsr hR hS hL)
    · cases hx
  · simp only [opOK, beq_iff_eq] at ho
    subst ho
    split at hx
    · cases hx
      exact lv_ladd hxc hb hd (k H locs lsr hR hS hL)
    · cases hx
  · simp only [opOK, beq_iff_eq] at ho
    subst ho
    split at hx
    · cases hx
      exact lv_lmul hxc hb hd (k H locs lsr hR hS hL)
    · cases hx
  · simp only [opOK, beq_iff_eq] at ho
    subst ho
    split at hx
    · cases hx
      exact lv_land hxc hb hd (k H locs lsr hR hS hL)
    · cases hx
  · simp only [opOK, beq_iff_eq] at ho
    subst ho
    split at hx
    · cases hx
      exact lv_lor hxc hb hd (k H locs lsr hR hS hL)
    · cases hx
  · simp only [opOK, beq_iff_eq] at ho
    subst ho
    split at hx
    · cases hx
      exact lv_lushr hxc hb hd rfl (k H locs lsr hR hS hL)
    · cases hx
  · simp only [opOK, beq_iff_eq] at ho
    subst ho
    split at hx
    · cases hx
      exact lv_lshl hxc hb hd rfl (k H locs lsr hR hS hL)
    · cases hx
  · simp only [opOK, beq_iff_eq] at ho
    subst ho
    split at hx
    · cases hx
      exact W.lcmp hxc hb hd (k H locs lsr hR hS hL)
    · cases hx
  · simp only [opOK, beq_iff_eq] at ho
    subst ho
    split at hx
    · rename_i a r
      split at hx
      · rename_i hla
        cases hx
        have ha := layLt a hla.2
        have he := wl_get ρ cI cZ h ha
        by_cases h1 : lay a < 1000
        · rw [ct_arr hla.1 h1] at he
          exact va_alen hxc hb hK hR a 0 he (ty := .int) rfl rfl hd (k H locs lsr hR hS hL)
        · rw [ct_arz (by omega)] at he
          exact va_alen hxc hb hK hR a 1 he (ty := .boolean) rfl rfl hd (k H locs lsr hR hS hL)
      · cases hx
    · cases hx
  · simp only [opOK, Bool.and_eq_true, beq_iff_eq] at ho
    obtain ⟨rfl, ho⟩ := ho
    split at hx
    · split at hx
      · rename_i hla
        cases hx
        exact ex_get C0 hd ho hla hR (k H locs lsr hR hS hL)
      · cases hx
    · cases hx
  · simp only [opOK, Bool.and_eq_true, beq_iff_eq] at ho
    obtain ⟨rfl, ho⟩ := ho
    split at hx
    · rename_i hf
      split at hx
      · rename_i hla
        cases hx
        exact ex_put C0 hd ho hla hf hR hS (fun H' locs' hR' hS' => k H' locs' lsr hR' hS' hL)
      · cases hx
    · rename_i hf
      split at hx
      · rename_i hla
        cases hx
        exact ex_putL C0 hd ho hla hf hR hS (fun H' locs' hR' hS' => k H' locs' lsr hR' hS' hL)
      · cases hx
    · cases hx
  · cases hx
theorem run1_ok (C : Cx sc M ρ D cI cZ A p R s m args meth c) : ∀ (L : List Op1) {pc : Nat} {ls st ls' st' : List Value} {h h' : HS}, segOK M pc L = true → run1 L ls st h = some (ls', st', h') →
    ExK M ρ D cI cZ A p l e R s m args below meth c cells slots Q (segPc pc L) ls' st' h' → ExK M ρ D cI cZ A p l e R s m args below meth c cells slots Q pc ls st h
  | [], pc, ls, st, ls', st', h, h', _, hx, k => by
    simp only [run1] at hx
    cases hx
    exact k
  | (i, n, x, v) :: r, pc, ls, st, ls', st', h, h', ho, hx, k => by
    simp only [segOK, Bool.and_eq_true, decide_eq_true_eq] at ho
    simp only [run1] at hx
    split at hx
    · rename_i ls1 st1 h1 he
      exact ex_ok C ho.1.1 ho.1.2 he (run1_ok C r ho.2 hx k)
    · cases hx
end SIM2
