/-! THE CLAIM OUT OF ONE WALK OF THE LAW'S BODY. Your part is whole_start (and what it stands on); all else here is the same for every law, but numbers. -/
def R_law : String := "HalfTruthsLaw"
def lw_P (b : Addr) (xs : List Int32) (args : Array Value) (s : State) : Prop := args = #[.ref b] ∧ s.IntsAt b xs ∧ xs.length ≤ 320 ∧ (Jvm.Cond.and given_1 narrow_1).before args s = true
def lw_Q (_ : Array Value) (s : State) (o : Outcome) (t : State) : Prop := o = .returned (some (.int 1)) ∧ Framed s o t [] 50 879
def lw_Z (below : List Frame) (a : Array Value) (s : State) : State → Prop := fun t => ∃ o, t.status = .running ∧ Ended t below o ∧ lw_Q a s o t
/-- the law's own end, with 1 on the stack, nothing written that was there before, its room as the claim has it -/
theorem lw_ret {p : Program} {l : Launch} {e : Env} {s : State} {m : MethodId} {below : List Frame} {meth : Method} {c : Code} {b : Nat} (hx : p.tables.exec = Jvm.exec) (hb : c.code = code) (hr : meth.sig.returnType = ret) (hlocks : meth.locks = false) {pc : Nat} {H : Heap} {ls : Array Slot} (hdg : decode code pc = .ok (.ireturn, 1)) : W p l e room_1 s m #[Value.ref b] below meth c H [] 50 879 (lw_Z below #[Value.ref b] s) (F0 m pc ls [.int 1]) := by
  intro T hT X
  obtain ⟨fs, hret, hrun, hended, hW, hframe⟩ := X.leave (v := some (.int 1)) (hlocks := hlocks) (fun h => by rw [hr] at h; cases h)
  have hmeth' : T.vm.method? m = some meth := X.method'
  refine ⟨T.setFrames fs, ?_, .returned (some (.int 1)), hrun, hended, rfl, ⟨_, rfl⟩, hW, hframe⟩
  jvm_step X.here [X.here.top, hx, hb, hdg, hmeth', hr, ret, narrow_b1]
  (try refine ⟨rfl, ?_⟩); (try refine ⟨rfl, ?_⟩)
  first | (intro acts; rw [hret _ acts rfl rfl rfl]) | rw [hret _ _ rfl rfl rfl]
  exact Steps.refl _
/-- what holds at the law's entry: the machine, the code, the tables' words (any of lw_tbl by 'hts w (by decide +kernel)'), the script of L ints xs at the cell b, what the Statement gives of the start (any of its parts by flat_of_before) -/
def lw_At (p : Program) (s : State) (m : MethodId) (meth : Method) (c : Code) (b L : Nat) (xs : Nat → Int32) : Prop :=
  p.tables.exec = Jvm.exec ∧ c.code = code ∧ meth.sig.returnType = ret ∧ c.maxLocals = 4 ∧ s.vm.findClass R_law = some m.cls ∧ (∀ w ∈ lw_tbl, w.before #[Value.ref b] s = true) ∧ va_X b L xs s s.heap ∧ b < s.heap.size ∧ meth.locks = false ∧ (Jvm.Cond.and given_1 narrow_1).before #[Value.ref b] s = true

theorem k_arr {ty : FieldType} {s : State} {args : Array Value} (hp : ∀ C, ty ≠ .object C) (h : (Jvm.Cond.arrayClass ty).before args s = true) : ∃ cA : ClassId, ArrOfT s cA ty ∧ va_RA s cA ty := by
  obtain ⟨cA, kA, comp, h1, h2, h3⟩ := Cond.arrayClass_spec h
  refine ⟨cA, fun n z => ⟨fun k h => (by cases h), kA, h2, comp, h3⟩, ?_⟩
  cases ty with
  | object C => exact absurd rfl (hp C)
  | _ => exact h1
set_option maxHeartbeats 32000000 in
set_option maxRecDepth 100000 in
/-- THE LAW, from its entry -/
theorem whole_start {p : Program} {e : Env} {s : State} {m : MethodId} {below : List Frame} {meth : Method} {c : Code} (l : Launch) (hflags : l.flags = flags0) {b L : Nat} {xs : Nat → Int32} (hL : L ≤ 320) (C0 : lw_At p s m meth c b L xs) : W p l e room_1 s m #[Value.ref b] below meth c s.heap [] 0 0 (lw_Z below #[Value.ref b] s) (entryFrame m ([Value.ref b] : List Value).toArray 4) := by
  obtain ⟨hx, hb, hr, hml, hown, hts, hX, hbl, hlocks, hgv⟩ := id C0
  have hb : c.code = mC mL_law := hb
  have htg : ∀ w ∈ lw_gd, w.before #[Value.ref b] s = true := fun w hw => hts w (List.mem_filter.mp hw).1
  have hA : ∀ q : Nat, s.heap.size ≤ q → (fun q : Nat => s.heap.size ≤ q) q := fun _ h => h
  have hbA : ¬ (fun q : Nat => s.heap.size ≤ q) b := Nat.not_le.mpr hbl
  obtain ⟨c0, iS0, hKn0⟩ := u_known (C := RX0) (T := TX0) (N := 4) (n := 4) htg (inAll 0 (by decide)) (hts (.instantiable RX0 4) (List.mem_of_getElem? (i := 110) (by decide +kernel)))
  obtain ⟨c1, iS1, hKn1⟩ := u_known (C := RX1) (T := TX1) (N := 11) (n := 11) htg (inAll 1 (by decide)) (hts (.instantiable RX1 11) (List.mem_of_getElem? (i := 68) (by decide +kernel)))
  obtain ⟨c2, iS2, hKn2⟩ := u_known (C := RX2) (T := TX2) (N := 4) (n := 4) htg (inAll 2 (by decide)) (hts (.instantiable RX2 4) (List.mem_of_getElem? (i := 130) (by decide +kernel)))
  obtain ⟨c3, iS3, hKn3⟩ := u_known (C := RX3) (T := TX3) (N := 2) (n := 2) htg (inAll 3 (by decide)) (hts (.instantiable RX3 2) (List.mem_of_getElem? (i := 53) (by decide +kernel)))
  obtain ⟨c4, iS4, hKn4⟩ := u_known (C := RX4) (T := TX4) (N := 10) (n := 10) htg (inAll 4 (by decide)) (hts (.instantiable RX4 10) (List.mem_of_getElem? (i := 45) (by decide +kernel)))
  obtain ⟨c5, iS5, hKn5⟩ := u_known (C := RX5) (T := TX5) (N := 24) (n := 24) htg (inAll 5 (by decide)) (hts (.instantiable RX5 24) (List.mem_of_getElem? (i := 609) (by decide +kernel)))
  obtain ⟨cI, hcI⟩ := k_arr (ty := .int) (fun _ h => by cases h) (htg _ arI)
  obtain ⟨cZ, hcZ⟩ := k_arr (ty := .boolean) (fun _ h => by cases h) (htg _ arZ)
  obtain ⟨D, hKc⟩ : ∃ D : va_G, ∀ (k : Nat) (q : vw_C), vwCl[k]? = some q → u_Kn s q.1 q.2.1 q.2.2 (D.1 k) (D.2 k) := by
    refine ⟨(fun k => match k with | 0 => c0 | 1 => c1 | 2 => c2 | 3 => c3 | 4 => c4 | _ => c5, fun k => match k with | 0 => iS0 | 1 => iS1 | 2 => iS2 | 3 => iS3 | 4 => iS4 | _ => iS5), ?_⟩
    intro k q hq
    match k, hq with
    | 0, hq => cases hq; exact hKn0
    | 1, hq => cases hq; exact hKn1
    | 2, hq => cases hq; exact hKn2
    | 3, hq => cases hq; exact hKn3
    | 4, hq => cases hq; exact hKn4
    | 5, hq => cases hq; exact hKn5
    | k + 6, hq => simp [vwCl] at hq
  have hS : va_S (fun q : Nat => s.heap.size ≤ q) s.heap s.heap [] := va_S.rf
  have hK : va_K D vwCl (tysI cI cZ) s := ⟨hKc, fun k q h => by
    match k, h with
    | 0, h => cases h; exact hcI
    | 1, h => cases h; exact hcZ
    | k + 2, h => simp [tysI] at h⟩
  have hP : va_P D vwCl [] s.heap := fun k q h => by simp at h
  have hD : va_D (fun q : Nat => s.heap.size ≤ q) [] := ⟨fun i j p q h => by simp at h, fun k q h => by simp at h⟩
  have hN0 := (va_Nw.of rfl (hts (.methodLinkNest (nmC 4) 9 yX3_init RX4) (List.mem_of_getElem? (i := 54) (by decide +kernel))))
  have hN1 := (va_Nw.of rfl (hts (.methodLinkNest (nmC 4) 18 yX1_init RX4) (List.mem_of_getElem? (i := 69) (by decide +kernel))))
  have hN2 := (va_Nw.of rfl (hts (.methodLinkNest (nmC 4) 34 yX0_init RX4) (List.mem_of_getElem? (i := 111) (by decide +kernel))))
  have hN3 := (va_Nw.of rfl (hts (.methodLinkNest (nmC 4) 41 yX2_init RX4) (List.mem_of_getElem? (i := 131) (by decide +kernel))))
  have hl := lv_entry ([.ref b]) (n := 4) (Nat.le_of_ble_eq_true rfl)
  rw [lg_entry_eq]
  generalize (lg_sl ([.ref b]) ++ List.replicate (4 - (lg_sl ([.ref b])).length) Slot.unset).toArray = ls at hl ⊢
  have hl : lv_has ls 4 [(0, .ref b)] := hl
  refine va_new (D := D) (ci := 4) (fs := [.null, .null, .null, .null, .null, .int 0, .null, .null, .null, .long 0]) (C := RX4) (T := TX4) (N := 10) (cells := 0) (slots := 0) hx hb htg (inAll 4 (by decide)) tyX4 tyX4_ok hown (hts (.classLink RL 7 RX4) (List.mem_of_getElem? (i := 44) (by decide +kernel))) (hts (.instantiable RX4 10) (List.mem_of_getElem? (i := 45) (by decide +kernel))) (hts (.initialized RX4) (List.mem_of_getElem? (i := 36) (by decide +kernel))) hK hP hD hS hA rfl (by decide +kernel) (Nat.le_of_ble_eq_true rfl) (Nat.le_of_ble_eq_true rfl) (show decode (mC mL_law) 0 = .ok (.new 7, 3) by decide +kernel) (fun x H hP hD hS => ?_)
  have hP : va_P D vwCl [oC x 4 [.null, .null, .null, .null, .null, .int 0, .null, .null, .null, .long 0]] H := hP
  have hD : va_D (fun q : Nat => s.heap.size ≤ q) [oC x 4 [.null, .null, .null, .null, .null, .int 0, .null, .null, .null, .long 0]] := hD
  refine lv_dup hx hb (show decode (mC mL_law) 3 = .ok (.dup, 1) by decide +kernel) rfl ?_
  have hPc := hP.sub (ws' := [oC x 4 [.null, .null, .null, .null, .null, .int 0, .null, .null, .null, .long 0]]) [0] rfl
  have hDc := hD.sub (ws' := [oC x 4 [.null, .null, .null, .null, .null, .int 0, .null, .null, .null, .long 0]]) [0] (by decide) rfl
  have hFc := va_free (wc := [oC x 4 [.null, .null, .null, .null, .null, .int 0, .null, .null, .null, .long 0]]) hD hS hA [0] rfl
  refine va_callv (cells := 1) (slots := 10) (va_runI (As := []) (rest := [.ref x]) ⟨hx, hb, hml, hown, htg⟩ (k_X4_init l D cI cZ x _) (cwI 0 htg (gd_ws (M := mX4_init) 48 (by decide +kernel)) rfl rfl rfl (hts (.initialized RX4) (List.mem_of_getElem? (i := 36) (by decide +kernel))) (hts (.methodLink RL 9 yX4_init) (List.mem_of_getElem? (i := 46) (by decide +kernel))) (hts (.instanceMethod yX4_init) (List.mem_of_getElem? (i := 47) (by decide +kernel))) rfl ⟨by decide +kernel, by decide +kernel, by decide +kernel⟩ ⟨Nat.le_of_ble_eq_true rfl, Nat.le_of_ble_eq_true rfl⟩) ⟨fun a U g mk z => ⟨z.1, z.2.1, z.2.2.1, va_K.moved (u := U) (U := U.calling g mk a) (Vm.Alike.refl U.vm) z.2.2.2.1, z.2.2.2.2.1, va_Nw.same rfl rfl z.2.2.2.2.2.1, va_Nw.same rfl rfl z.2.2.2.2.2.2.1, va_Nw.same rfl rfl z.2.2.2.2.2.2.2.1, va_Nw.same rfl rfl z.2.2.2.2.2.2.2.2⟩, fun U hU hW => ⟨rfl, by rw [hU], by rw [hU]; exact hPc, va_K.moved hW.alike hK, hDc.weaken (fun _ _ _ _ => trivial), va_Nw.warmM hW hN0, va_Nw.warmM hW hN1, va_Nw.warmM hW hN2, va_Nw.warmM hW hN3⟩⟩ rfl rfl hl.1 rfl (lv_room (Nat.le_of_ble_eq_true rfl)) (show decode (mC mL_law) 4 = .ok (.invokespecial 9, 3) by decide +kernel) ⟨Nat.le_of_ble_eq_true rfl, Nat.le_of_ble_eq_true rfl⟩) hS (fun q _ h => hFc q h) hFc (fun u t H1 locs ht hvm hw hB hz1 hk1 hS => ?_)
  obtain ⟨q1, q2, q3, q4, q5, q6, q7, q8, q9, q10, q11, q12, q13, q14, q15, q16, q17, q18, q19, q20, q21, q22, q23, q24, q25, q26, q27, q28, q29, q30, q31, q32, q33, q34, q35, hP1, hK1, hD1⟩ := hB
  rw [ht] at hP1
  obtain ⟨hP, hD⟩ := va_join (wr := []) (w1 := [oC x 4 [.ref q1, .ref q3, .ref q9, .ref q15, .ref q21, .int 0, .ref q27, .ref q31, .ref q35, .long 0], oC q1 3 [.ref q2, .int 0], iC q2 cI 48 zI, oC q3 1 [.int 0, .int 0, .int 0, .int 0, .int 0, .int 0, .ref q4, .ref q5, .ref q6, .ref q7, .ref q8], iC q4 cI 4 zI, iC q5 cI 4 zI, iC q6 cI 4 zI, iC q7 cI 4 zI, iC q8 cI 6 zI, oC q9 1 [.int 0, .int 0, .int 0, .int 0, .int 0, .int 0, .ref q10, .ref q11, .ref q12, .ref q13, .ref q14], iC q10 cI 4 zI, iC q11 cI 4 zI, iC q12 cI 4 zI, iC q13 cI 4 zI, iC q14 cI 6 zI, oC q15 1 [.int 0, .int 0, .int 0, .int 0, .int 0, .int 0, .ref q16, .ref q17, .ref q18, .ref q19, .ref q20], iC q16 cI 4 zI, iC q17 cI 4 zI, iC q18 cI 4 zI, iC q19 cI 4 zI, iC q20 cI 6 zI, oC q21 1 [.int 0, .int 0, .int 0, .int 0, .int 0, .int 0, .ref q22, .ref q23, .ref q24, .ref q25, .ref q26], iC q22 cI 4 zI, iC q23 cI 4 zI, iC q24 cI 4 zI, iC q25 cI 4 zI, iC q26 cI 6 zI, oC q27 0 [.ref q28, .ref q29, .ref q30, .int 0], iC q28 cI 14 zI, iC q29 cI 14 zI, iC q30 cI 14 zI, oC q31 2 [.ref q32, .ref q33, .ref q34, .int 0], iC q32 cI 6 zI, iC q33 cI 6 zI, iC q34 cI 6 zI, iC q35 cI 64 zI]) hP hD [0] [] rfl rfl (by decide) (by decide) hk1 hFc hP1 hD1
  generalize H1 = H at hP hS ⊢
  have hP : va_P D vwCl [oC x 4 [.ref q1, .ref q3, .ref q9, .ref q15, .ref q21, .int 0, .ref q27, .ref q31, .ref q35, .long 0], oC q1 3 [.ref q2, .int 0], iC q2 cI 48 zI, oC q3 1 [.int 0, .int 0, .int 0, .int 0, .int 0, .int 0, .ref q4, .ref q5, .ref q6, .ref q7, .ref q8], iC q4 cI 4 zI, iC q5 cI 4 zI, iC q6 cI 4 zI, iC q7 cI 4 zI, iC q8 cI 6 zI, oC q9 1 [.int 0, .int 0, .int 0, .int 0, .int 0, .int 0, .ref q10, .ref q11, .ref q12, .ref q13, .ref q14], iC q10 cI 4 zI, iC q11 cI 4 zI, iC q12 cI 4 zI, iC q13 cI 4 zI, iC q14 cI 6 zI, oC q15 1 [.int 0, .int 0, .int 0, .int 0, .int 0, .int 0, .ref q16, .ref q17, .ref q18, .ref q19, .ref q20], iC q16 cI 4 zI, iC q17 cI 4 zI, iC q18 cI 4 zI, iC q19 cI 4 zI, iC q20 cI 6 zI, oC q21 1 [.int 0, .int 0, .int 0, .int 0, .int 0, .int 0, .ref q22, .ref q23, .ref q24, .ref q25, .ref q26], iC q22 cI 4 zI, iC q23 cI 4 zI, iC q24 cI 4 zI, iC q25 cI 4 zI, iC q26 cI 6 zI, oC q27 0 [.ref q28, .ref q29, .ref q30, .int 0], iC q28 cI 14 zI, iC q29 cI 14 zI, iC q30 cI 14 zI, oC q31 2 [.ref q32, .ref q33, .ref q34, .int 0], iC q32 cI 6 zI, iC q33 cI 6 zI, iC q34 cI 6 zI, iC q35 cI 64 zI] H := hP
  have hD : va_D (fun q : Nat => s.heap.size ≤ q) [oC x 4 [.ref q1, .ref q3, .ref q9, .ref q15, .ref q21, .int 0, .ref q27, .ref q31, .ref q35, .long 0], oC q1 3 [.ref q2, .int 0], iC q2 cI 48 zI, oC q3 1 [.int 0, .int 0, .int 0, .int 0, .int 0, .int 0, .ref q4, .ref q5, .ref q6, .ref q7, .ref q8], iC q4 cI 4 zI, iC q5 cI 4 zI, iC q6 cI 4 zI, iC q7 cI 4 zI, iC q8 cI 6 zI, oC q9 1 [.int 0, .int 0, .int 0, .int 0, .int 0, .int 0, .ref q10, .ref q11, .ref q12, .ref q13, .ref q14], iC q10 cI 4 zI, iC q11 cI 4 zI, iC q12 cI 4 zI, iC q13 cI 4 zI, iC q14 cI 6 zI, oC q15 1 [.int 0, .int 0, .int 0, .int 0, .int 0, .int 0, .ref q16, .ref q17, .ref q18, .ref q19, .ref q20], iC q16 cI 4 zI, iC q17 cI 4 zI, iC q18 cI 4 zI, iC q19 cI 4 zI, iC q20 cI 6 zI, oC q21 1 [.int 0, .int 0, .int 0, .int 0, .int 0, .int 0, .ref q22, .ref q23, .ref q24, .ref q25, .ref q26], iC q22 cI 4 zI, iC q23 cI 4 zI, iC q24 cI 4 zI, iC q25 cI 4 zI, iC q26 cI 6 zI, oC q27 0 [.ref q28, .ref q29, .ref q30, .int 0], iC q28 cI 14 zI, iC q29 cI 14 zI, iC q30 cI 14 zI, oC q31 2 [.ref q32, .ref q33, .ref q34, .int 0], iC q32 cI 6 zI, iC q33 cI 6 zI, iC q34 cI 6 zI, iC q35 cI 64 zI] := hD
  refine lv_astore_n (lv' := [(1, .ref x), (0, .ref b)]) hx hb (show decode (mC mL_law) 7 = .ok (.astore_n 1, 1) by decide +kernel) rfl hl (by decide) rfl (fun ls hl => ?_)
  refine va_new (D := D) (ci := 5) (fs := [.int 0, .int 0, .null, .null, .null, .null, .null, .int 0, .int 0, .null, .int 0, .int 0, .int 0, .int 0, .int 0, .null, .null, .int 0, .null, .null, .null, .long 0, .null, .null]) (C := RX5) (T := TX5) (N := 24) (cells := 36) (slots := 324) hx hb htg (inAll 5 (by decide)) tyX5 tyX5_ok hown (hts (.classLink RL 10 RX5) (List.mem_of_getElem? (i := 608) (by decide +kernel))) (hts (.instantiable RX5 24) (List.mem_of_getElem? (i := 609) (by decide +kernel))) (hts (.initialized RX5) (List.mem_of_getElem? (i := 41) (by decide +kernel))) hK hP hD hS hA rfl (by decide +kernel) (Nat.le_of_ble_eq_true rfl) (Nat.le_of_ble_eq_true rfl) (show decode (mC mL_law) 8 = .ok (.new 10, 3) by decide +kernel) (fun y H hP hD hS => ?_)
  have hP : va_P D vwCl [oC x 4 [.ref q1, .ref q3, .ref q9, .ref q15, .ref q21, .int 0, .ref q27, .ref q31, .ref q35, .long 0], oC q1 3 [.ref q2, .int 0], iC q2 cI 48 zI, oC q3 1 [.int 0, .int 0, .int 0, .int 0, .int 0, .int 0, .ref q4, .ref q5, .ref q6, .ref q7, .ref q8], iC q4 cI 4 zI, iC q5 cI 4 zI, iC q6 cI 4 zI, iC q7 cI 4 zI, iC q8 cI 6 zI, oC q9 1 [.int 0, .int 0, .int 0, .int 0, .int 0, .int 0, .ref q10, .ref q11, .ref q12, .ref q13, .ref q14], iC q10 cI 4 zI, iC q11 cI 4 zI, iC q12 cI 4 zI, iC q13 cI 4 zI, iC q14 cI 6 zI, oC q15 1 [.int 0, .int 0, .int 0, .int 0, .int 0, .int 0, .ref q16, .ref q17, .ref q18, .ref q19, .ref q20], iC q16 cI 4 zI, iC q17 cI 4 zI, iC q18 cI 4 zI, iC q19 cI 4 zI, iC q20 cI 6 zI, oC q21 1 [.int 0, .int 0, .int 0, .int 0, .int 0, .int 0, .ref q22, .ref q23, .ref q24, .ref q25, .ref q26], iC q22 cI 4 zI, iC q23 cI 4 zI, iC q24 cI 4 zI, iC q25 cI 4 zI, iC q26 cI 6 zI, oC q27 0 [.ref q28, .ref q29, .ref q30, .int 0], iC q28 cI 14 zI, iC q29 cI 14 zI, iC q30 cI 14 zI, oC q31 2 [.ref q32, .ref q33, .ref q34, .int 0], iC q32 cI 6 zI, iC q33 cI 6 zI, iC q34 cI 6 zI, iC q35 cI 64 zI, oC y 5 [.int 0, .int 0, .null, .null, .null, .null, .null, .int 0, .int 0, .null, .int 0, .int 0, .int 0, .int 0, .int 0, .null, .null, .int 0, .null, .null, .null, .long 0, .null, .null]] H := hP
  have hD : va_D (fun q : Nat => s.heap.size ≤ q) [oC x 4 [.ref q1, .ref q3, .ref q9, .ref q15, .ref q21, .int 0, .ref q27, .ref q31, .ref q35, .long 0], oC q1 3 [.ref q2, .int 0], iC q2 cI 48 zI, oC q3 1 [.int 0, .int 0, .int 0, .int 0, .int 0, .int 0, .ref q4, .ref q5, .ref q6, .ref q7, .ref q8], iC q4 cI 4 zI, iC q5 cI 4 zI, iC q6 cI 4 zI, iC q7 cI 4 zI, iC q8 cI 6 zI, oC q9 1 [.int 0, .int 0, .int 0, .int 0, .int 0, .int 0, .ref q10, .ref q11, .ref q12, .ref q13, .ref q14], iC q10 cI 4 zI, iC q11 cI 4 zI, iC q12 cI 4 zI, iC q13 cI 4 zI, iC q14 cI 6 zI, oC q15 1 [.int 0, .int 0, .int 0, .int 0, .int 0, .int 0, .ref q16, .ref q17, .ref q18, .ref q19, .ref q20], iC q16 cI 4 zI, iC q17 cI 4 zI, iC q18 cI 4 zI, iC q19 cI 4 zI, iC q20 cI 6 zI, oC q21 1 [.int 0, .int 0, .int 0, .int 0, .int 0, .int 0, .ref q22, .ref q23, .ref q24, .ref q25, .ref q26], iC q22 cI 4 zI, iC q23 cI 4 zI, iC q24 cI 4 zI, iC q25 cI 4 zI, iC q26 cI 6 zI, oC q27 0 [.ref q28, .ref q29, .ref q30, .int 0], iC q28 cI 14 zI, iC q29 cI 14 zI, iC q30 cI 14 zI, oC q31 2 [.ref q32, .ref q33, .ref q34, .int 0], iC q32 cI 6 zI, iC q33 cI 6 zI, iC q34 cI 6 zI, iC q35 cI 64 zI, oC y 5 [.int 0, .int 0, .null, .null, .null, .null, .null, .int 0, .int 0, .null, .int 0, .int 0, .int 0, .int 0, .int 0, .null, .null, .int 0, .null, .null, .null, .long 0, .null, .null]] := hD
  refine lv_dup hx hb (show decode (mC mL_law) 11 = .ok (.dup, 1) by decide +kernel) rfl ?_
  have hPc := hP.sub (ws' := [oC y 5 [.int 0, .int 0, .null, .null, .null, .null, .null, .int 0, .int 0, .null, .int 0, .int 0, .int 0, .int 0, .int 0, .null, .null, .int 0, .null, .null, .null, .long 0, .null, .null]]) [36] rfl
  have hDc := hD.sub (ws' := [oC y 5 [.int 0, .int 0, .null, .null, .null, .null, .null, .int 0, .int 0, .null, .int 0, .int 0, .int 0, .int 0, .int 0, .null, .null, .int 0, .null, .null, .null, .long 0, .null, .null]]) [36] (by decide) rfl
  have hFc := va_free (wc := [oC y 5 [.int 0, .int 0, .null, .null, .null, .null, .null, .int 0, .int 0, .null, .int 0, .int 0, .int 0, .int 0, .int 0, .null, .null, .int 0, .null, .null, .null, .long 0, .null, .null]]) hD hS hA [36] rfl
  refine va_callv (cells := 37) (slots := 348) (va_runI (As := []) (rest := [.ref y]) ⟨hx, hb, hml, hown, htg⟩ (k_X5_init l D cI cZ y _) (cwI 0 htg (gd_ws (M := mX5_init) 612 (by decide +kernel)) rfl rfl rfl (hts (.initialized RX5) (List.mem_of_getElem? (i := 41) (by decide +kernel))) (hts (.methodLink RL 12 yX5_init) (List.mem_of_getElem? (i := 610) (by decide +kernel))) (hts (.instanceMethod yX5_init) (List.mem_of_getElem? (i := 611) (by decide +kernel))) rfl ⟨by decide +kernel, by decide +kernel, by decide +kernel⟩ ⟨Nat.le_of_ble_eq_true rfl, Nat.le_of_ble_eq_true rfl⟩) ⟨fun a U g mk z => ⟨z.1, z.2.1, z.2.2.1, va_K.moved (u := U) (U := U.calling g mk a) (Vm.Alike.refl U.vm) z.2.2.2.1, z.2.2.2.2⟩, fun U hU hW => ⟨rfl, by rw [hU], by rw [hU]; exact hPc, va_K.moved hW.alike hK, hDc.weaken (fun _ _ _ _ => trivial)⟩⟩ rfl rfl hl.1 rfl (lv_room (Nat.le_of_ble_eq_true rfl)) (show decode (mC mL_law) 12 = .ok (.invokespecial 12, 3) by decide +kernel) ⟨Nat.le_of_ble_eq_true rfl, Nat.le_of_ble_eq_true rfl⟩) hS (fun q _ h => hFc q h) hFc (fun u t H1 locs ht hvm hw hB hz1 hk1 hS => ?_)
  obtain ⟨r1, r2, r3, r4, r5, r6, r7, r8, r9, r10, r11, r12, r13, hP1, hK1, hD1⟩ := hB
  rw [ht] at hP1
  obtain ⟨hP, hD⟩ := va_join (wr := [oC x 4 [.ref q1, .ref q3, .ref q9, .ref q15, .ref q21, .int 0, .ref q27, .ref q31, .ref q35, .long 0], oC q1 3 [.ref q2, .int 0], iC q2 cI 48 zI, oC q3 1 [.int 0, .int 0, .int 0, .int 0, .int 0, .int 0, .ref q4, .ref q5, .ref q6, .ref q7, .ref q8], iC q4 cI 4 zI, iC q5 cI 4 zI, iC q6 cI 4 zI, iC q7 cI 4 zI, iC q8 cI 6 zI, oC q9 1 [.int 0, .int 0, .int 0, .int 0, .int 0, .int 0, .ref q10, .ref q11, .ref q12, .ref q13, .ref q14], iC q10 cI 4 zI, iC q11 cI 4 zI, iC q12 cI 4 zI, iC q13 cI 4 zI, iC q14 cI 6 zI, oC q15 1 [.int 0, .int 0, .int 0, .int 0, .int 0, .int 0, .ref q16, .ref q17, .ref q18, .ref q19, .ref q20], iC q16 cI 4 zI, iC q17 cI 4 zI, iC q18 cI 4 zI, iC q19 cI 4 zI, iC q20 cI 6 zI, oC q21 1 [.int 0, .int 0, .int 0, .int 0, .int 0, .int 0, .ref q22, .ref q23, .ref q24, .ref q25, .ref q26], iC q22 cI 4 zI, iC q23 cI 4 zI, iC q24 cI 4 zI, iC q25 cI 4 zI, iC q26 cI 6 zI, oC q27 0 [.ref q28, .ref q29, .ref q30, .int 0], iC q28 cI 14 zI, iC q29 cI 14 zI, iC q30 cI 14 zI, oC q31 2 [.ref q32, .ref q33, .ref q34, .int 0], iC q32 cI 6 zI, iC q33 cI 6 zI, iC q34 cI 6 zI, iC q35 cI 64 zI]) (w1 := [oC y 5 [.int 0, .int 0, .ref r1, .ref r2, .ref r3, .ref r4, .ref r5, .int 0, .int 0, .ref r6, .int 0, .int 0, .int 0, .int 0, .int 0, .ref r7, .ref r8, .int 0, .ref r9, .ref r10, .ref r11, .long 0, .ref r12, .ref r13], iC r1 cI 8 zI, iC r2 cI 46 (upd (upd (upd (upd zI 13 (-9)) 14 (-9)) 15 (-9)) 16 (-9)), iC r3 cI 12 zI, iC r4 cI 8 zI, iC r5 cI 6 zI, iC r6 cI 48 zI, iC r7 cI 322 zI, iC r8 cI 15 zI, iC r9 cI 6 zI, iC r10 cI 6 zI, iC r11 cI 6 zI, iC r12 cZ 2 zI, iC r13 cI 46 zI]) hP hD [36] [0, 1, 2, 3, 4, 5, 6, 7, 8, 9, 10, 11, 12, 13, 14, 15, 16, 17, 18, 19, 20, 21, 22, 23, 24, 25, 26, 27, 28, 29, 30, 31, 32, 33, 34, 35] rfl rfl (by decide) (by decide) hk1 hFc hP1 hD1
  generalize H1 = H at hP hS ⊢
  have hP : va_P D vwCl [oC x 4 [.ref q1, .ref q3, .ref q9, .ref q15, .ref q21, .int 0, .ref q27, .ref q31, .ref q35, .long 0], oC q1 3 [.ref q2, .int 0], iC q2 cI 48 zI, oC q3 1 [.int 0, .int 0, .int 0, .int 0, .int 0, .int 0, .ref q4, .ref q5, .ref q6, .ref q7, .ref q8], iC q4 cI 4 zI, iC q5 cI 4 zI, iC q6 cI 4 zI, iC q7 cI 4 zI, iC q8 cI 6 zI, oC q9 1 [.int 0, .int 0, .int 0, .int 0, .int 0, .int 0, .ref q10, .ref q11, .ref q12, .ref q13, .ref q14], iC q10 cI 4 zI, iC q11 cI 4 zI, iC q12 cI 4 zI, iC q13 cI 4 zI, iC q14 cI 6 zI, oC q15 1 [.int 0, .int 0, .int 0, .int 0, .int 0, .int 0, .ref q16, .ref q17, .ref q18, .ref q19, .ref q20], iC q16 cI 4 zI, iC q17 cI 4 zI, iC q18 cI 4 zI, iC q19 cI 4 zI, iC q20 cI 6 zI, oC q21 1 [.int 0, .int 0, .int 0, .int 0, .int 0, .int 0, .ref q22, .ref q23, .ref q24, .ref q25, .ref q26], iC q22 cI 4 zI, iC q23 cI 4 zI, iC q24 cI 4 zI, iC q25 cI 4 zI, iC q26 cI 6 zI, oC q27 0 [.ref q28, .ref q29, .ref q30, .int 0], iC q28 cI 14 zI, iC q29 cI 14 zI, iC q30 cI 14 zI, oC q31 2 [.ref q32, .ref q33, .ref q34, .int 0], iC q32 cI 6 zI, iC q33 cI 6 zI, iC q34 cI 6 zI, iC q35 cI 64 zI, oC y 5 [.int 0, .int 0, .ref r1, .ref r2, .ref r3, .ref r4, .ref r5, .int 0, .int 0, .ref r6, .int 0, .int 0, .int 0, .int 0, .int 0, .ref r7, .ref r8, .int 0, .ref r9, .ref r10, .ref r11, .long 0, .ref r12, .ref r13], iC r1 cI 8 zI, iC r2 cI 46 (upd (upd (upd (upd zI 13 (-9)) 14 (-9)) 15 (-9)) 16 (-9)), iC r3 cI 12 zI, iC r4 cI 8 zI, iC r5 cI 6 zI, iC r6 cI 48 zI, iC r7 cI 322 zI, iC r8 cI 15 zI, iC r9 cI 6 zI, iC r10 cI 6 zI, iC r11 cI 6 zI, iC r12 cZ 2 zI, iC r13 cI 46 zI] H := hP
  have hD : va_D (fun q : Nat => s.heap.size ≤ q) [oC x 4 [.ref q1, .ref q3, .ref q9, .ref q15, .ref q21, .int 0, .ref q27, .ref q31, .ref q35, .long 0], oC q1 3 [.ref q2, .int 0], iC q2 cI 48 zI, oC q3 1 [.int 0, .int 0, .int 0, .int 0, .int 0, .int 0, .ref q4, .ref q5, .ref q6, .ref q7, .ref q8], iC q4 cI 4 zI, iC q5 cI 4 zI, iC q6 cI 4 zI, iC q7 cI 4 zI, iC q8 cI 6 zI, oC q9 1 [.int 0, .int 0, .int 0, .int 0, .int 0, .int 0, .ref q10, .ref q11, .ref q12, .ref q13, .ref q14], iC q10 cI 4 zI, iC q11 cI 4 zI, iC q12 cI 4 zI, iC q13 cI 4 zI, iC q14 cI 6 zI, oC q15 1 [.int 0, .int 0, .int 0, .int 0, .int 0, .int 0, .ref q16, .ref q17, .ref q18, .ref q19, .ref q20], iC q16 cI 4 zI, iC q17 cI 4 zI, iC q18 cI 4 zI, iC q19 cI 4 zI, iC q20 cI 6 zI, oC q21 1 [.int 0, .int 0, .int 0, .int 0, .int 0, .int 0, .ref q22, .ref q23, .ref q24, .ref q25, .ref q26], iC q22 cI 4 zI, iC q23 cI 4 zI, iC q24 cI 4 zI, iC q25 cI 4 zI, iC q26 cI 6 zI, oC q27 0 [.ref q28, .ref q29, .ref q30, .int 0], iC q28 cI 14 zI, iC q29 cI 14 zI, iC q30 cI 14 zI, oC q31 2 [.ref q32, .ref q33, .ref q34, .int 0], iC q32 cI 6 zI, iC q33 cI 6 zI, iC q34 cI 6 zI, iC q35 cI 64 zI, oC y 5 [.int 0, .int 0, .ref r1, .ref r2, .ref r3, .ref r4, .ref r5, .int 0, .int 0, .ref r6, .int 0, .int 0, .int 0, .int 0, .int 0, .ref r7, .ref r8, .int 0, .ref r9, .ref r10, .ref r11, .long 0, .ref r12, .ref r13], iC r1 cI 8 zI, iC r2 cI 46 (upd (upd (upd (upd zI 13 (-9)) 14 (-9)) 15 (-9)) 16 (-9)), iC r3 cI 12 zI, iC r4 cI 8 zI, iC r5 cI 6 zI, iC r6 cI 48 zI, iC r7 cI 322 zI, iC r8 cI 15 zI, iC r9 cI 6 zI, iC r10 cI 6 zI, iC r11 cI 6 zI, iC r12 cZ 2 zI, iC r13 cI 46 zI] := hD
  refine lv_astore_n (lv' := [(2, .ref y), (1, .ref x), (0, .ref b)]) hx hb (show decode (mC mL_law) 15 = .ok (.astore_n 2, 1) by decide +kernel) rfl hl (by decide) rfl (fun ls hl => ?_)
  refine lv_iconst (v := 0) hx hb (show decode (mC mL_law) 16 = .ok (.iconst 0, 1) by decide +kernel) (by decide +kernel) ?_
  refine lv_istore_n (lv' := [(3, .int 0), (2, .ref y), (1, .ref x), (0, .ref b)]) hx hb (show decode (mC mL_law) 17 = .ok (.istore_n 3, 1) by decide +kernel) rfl hl (by decide) rfl (fun ls hl => ?_)
  obtain ⟨ρ, hρ⟩ : ∃ ρ : Nat → Nat, ρ = fun k => ([x, q1, q2, q3, q4, q5, q6, q7, q8, q9, q10, q11, q12, q13, q14, q15, q16, q17, q18, q19, q20, q21, q22, q23, q24, q25, q26, q27, q28, q29, q30, q31, q32, q33, q34, q35, y, r1, r2, r3, r4, r5, r6, r7, r8, r9, r10, r11, r12, r13] : List Nat).getD k b := ⟨_, rfl⟩
  have hwl : wl ρ cI cZ hs0 = [oC x 4 [.ref q1, .ref q3, .ref q9, .ref q15, .ref q21, .int 0, .ref q27, .ref q31, .ref q35, .long 0], oC q1 3 [.ref q2, .int 0], iC q2 cI 48 zI, oC q3 1 [.int 0, .int 0, .int 0, .int 0, .int 0, .int 0, .ref q4, .ref q5, .ref q6, .ref q7, .ref q8], iC q4 cI 4 zI, iC q5 cI 4 zI, iC q6 cI 4 zI, iC q7 cI 4 zI, iC q8 cI 6 zI, oC q9 1 [.int 0, .int 0, .int 0, .int 0, .int 0, .int 0, .ref q10, .ref q11, .ref q12, .ref q13, .ref q14], iC q10 cI 4 zI, iC q11 cI 4 zI, iC q12 cI 4 zI, iC q13 cI 4 zI, iC q14 cI 6 zI, oC q15 1 [.int 0, .int 0, .int 0, .int 0, .int 0, .int 0, .ref q16, .ref q17, .ref q18, .ref q19, .ref q20], iC q16 cI 4 zI, iC q17 cI 4 zI, iC q18 cI 4 zI, iC q19 cI 4 zI, iC q20 cI 6 zI, oC q21 1 [.int 0, .int 0, .int 0, .int 0, .int 0, .int 0, .ref q22, .ref q23, .ref q24, .ref q25, .ref q26], iC q22 cI 4 zI, iC q23 cI 4 zI, iC q24 cI 4 zI, iC q25 cI 4 zI, iC q26 cI 6 zI, oC q27 0 [.ref q28, .ref q29, .ref q30, .int 0], iC q28 cI 14 zI, iC q29 cI 14 zI, iC q30 cI 14 zI, oC q31 2 [.ref q32, .ref q33, .ref q34, .int 0], iC q32 cI 6 zI, iC q33 cI 6 zI, iC q34 cI 6 zI, iC q35 cI 64 zI, oC y 5 [.int 0, .int 0, .ref r1, .ref r2, .ref r3, .ref r4, .ref r5, .int 0, .int 0, .ref r6, .int 0, .int 0, .int 0, .int 0, .int 0, .ref r7, .ref r8, .int 0, .ref r9, .ref r10, .ref r11, .long 0, .ref r12, .ref r13], iC r1 cI 8 zI, iC r2 cI 46 (upd (upd (upd (upd zI 13 (-9)) 14 (-9)) 15 (-9)) 16 (-9)), iC r3 cI 12 zI, iC r4 cI 8 zI, iC r5 cI 6 zI, iC r6 cI 48 zI, iC r7 cI 322 zI, iC r8 cI 15 zI, iC r9 cI 6 zI, iC r10 cI 6 zI, iC r11 cI 6 zI, iC r12 cZ 2 zI, iC r13 cI 46 zI] := by
    subst hρ
    rfl
  have hP : Rep ρ D cI cZ hs0 H := by
    unfold Rep
    rw [hwl]
    exact hP
  have hD : va_D (fun q : Nat => s.heap.size ≤ q) (wl ρ cI cZ hs0) := by
    rw [hwl]
    exact hD
  have e99 : ρ 99 = b := by rw [hρ]; rfl
  have C : Cx (some (L, xs)) mL_law ρ D cI cZ (fun q : Nat => s.heap.size ≤ q) p room_1 s m #[Value.ref b] meth c :=
    ⟨hx, hb, hml, hr, hlocks, hown, htg, Nat.le_of_ble_eq_true rfl, Nat.le_of_ble_eq_true rfl, hK, fun i j hi hj h => hD.1 i j _ _ (wl_get ρ cI cZ hs0 hi) (wl_get ρ cI cZ hs0 hj) h, fun i hi => hD.2 i _ (wl_get ρ cI cZ hs0 hi), fun L' xs' q => by cases q; rw [e99]; exact ⟨hX, hbl, hbA⟩⟩
  obtain ⟨hf, hlaw⟩ := law_true L xs hL
  refine c_law L xs hs0 (true, hf) hlaw ρ D cI cZ _ p l e room_1 s m _ below meth c C 50 879 _ (Nat.le_of_ble_eq_true rfl) (Nat.le_of_ble_eq_true rfl) ?_ H locs ls hP hS ?_
  · intro H' locs' pc' lsr' _ hS' hret
    exact va_forget (fun q hq => hS'.2.2 q hq) (lw_ret hx hb hr hlocks hret.1)
  · refine ⟨rfl, hl.1, hl.2.1, fun i v hv hn => ?_⟩
    match i, hv with
    | 0, hv => cases hv; rw [show rz ρ (.ref 99) = .ref b by simp [rz, e99]]; exact lv_at hl 3 rfl
    | 1, hv => cases hv; rw [show rz ρ (.ref 0) = .ref x by simp [rz, hρ]]; exact lv_at hl 2 rfl
    | 2, hv => cases hv; rw [show rz ρ (.ref 36) = .ref y by simp [rz, hρ]]; exact lv_at hl 1 rfl
    | 3, hv => cases hv; exact lv_at hl 0 rfl
    | i + 4, hv => simp at hv
set_option maxHeartbeats 4000000 in
theorem lw_walk (l : Launch) (hflags : l.flags = flags0) (b : Addr) (xs : List Int32) : MetFree l x (headSpec (Jvm.Cond.code x code maxLocals ret :: tables_1) room_1) (lw_P b xs) (fun _ _ _ _ _ => True) lw_Q := by
  refine MetFree.of_bodyS (code := code) (maxLocals := maxLocals) (ret := ret) (by decide) ?_ ?_
  · intro args s m h hn
    obtain ⟨meth, c, h1, h2, h3, h4, h5, h6, -, -⟩ := Cond.code_spec hn (atoms_spec (ws := Jvm.Cond.code x code maxLocals ret :: tables_1) h _ List.mem_cons_self)
    exact ⟨meth, c, h1, h2, h3, h4, h5, h6⟩
  · intro p e s m args below meth c s₁ B hml0 hP _
    obtain ⟨rfl, hx, hbd, hgv⟩ := hP
    obtain ⟨scr, harrAt, hlist, hof, hsmall⟩ := hx
    obtain ⟨hcb, hkn, -, -⟩ := State.arrayAt?_spec harrAt
    have hown : s.vm.findClass R_law = some m.cls := findClass_of_methodNamed B.named
    have hts0 : ∀ c ∈ (Jvm.Cond.code x code maxLocals ret :: tables_1), c.before #[Value.ref b] s = true := atoms_spec (ws := Jvm.Cond.code x code maxLocals ret :: tables_1) B.pre
    have hts : ∀ w ∈ lw_tbl, w.before #[Value.ref b] s = true := k2_hts_sels lw_privs (fun w hw => hts0 w (List.mem_cons_of_mem _ hw)) lw_privs_ok
    have hml : c.maxLocals = 4 := B.maxLocals_eq (hts0 _ List.mem_cons_self)
    have X₀ : Stand p l e room_1 s m #[Value.ref b] below meth c s₁ [] 0 0 := Stand.of_body B
    have hh0 : s₁.heap = s.heap := by rw [B.state]; rfl
    have hsz : scr.slots.size = xs.length := by rw [← Array.length_toList, hlist, List.length_map]
    have hval : ∀ j : Nat, j < xs.length → scr.slots[j]? = some (.int (xs.getD j 0)) := fun j hj => by
      rw [← Array.getElem?_toList, hlist]
      simp [hj]
    have hbl : b < s.heap.size := (Array.getElem?_eq_some_iff.mp hcb).1
    have hX : va_X b xs.length (fun j => xs.getD j 0) s s.heap := ⟨scr, hcb, hof, hkn, hsz, hval⟩
    have K : W p l e room_1 s m #[Value.ref b] below meth c s₁.heap [] 0 0 (lw_Z below #[Value.ref b] s) (entryFrame m ([Value.ref b] : List Value).toArray 4) := by
      rw [hh0]
      exact whole_start l hflags hbd ⟨B.exec, B.bytes, B.returns, hml, hown, hts, hX, hbl, B.notSynchronized, hgv⟩
    obtain ⟨t, a1, o, b1, b2, b3⟩ := K s₁ rfl X₀
    exact ⟨t, o, a1, b1, b2, b3⟩
theorem lw_pre_spec {args : Array Value} {s : State} (h : (Jvm.Cond.and given_1 narrow_1).before args s = true) (hr : rest_1_c.before args s = true) : ∃ (b : Addr) (xs : List Int32), lw_P b xs args s := by
  have hs := flat_of_before _ h
  have hq := flat_of_before _ hr
  have hc : (Cond.count 1).before args s = true := hs _ (by decide +kernel)
  have harr : (Cond.arrayOf (.arg 0) .int).before args s = true := hs _ (by decide +kernel)
  have hle : (Cond.le (.length (.arg 0)) (.int 320)).before args s = true := hs _ (by decide +kernel)
  have hlen : (Cond.isInt (.length (.arg 0))).before args s = true := hq _ (by decide +kernel)
  have hall : (Cond.all (.arg 0) (.isInt (.elem (.arg 0) (.index 0)))).before args s = true := hq _ (by decide +kernel)
  obtain ⟨b, xs, hb, hx⟩ := State.ints_of_pre rfl harr hlen hall
  have hsm : xs.length < 2 ^ 31 := hx.choose_spec.2.2.2
  have hev : (Term.length (.arg 0)).eval args s none [] s = some (.int xs.length.toInt32) := hx.length_eval hb
  have hv := Cond.le_ints hev (show (Term.int 320).eval args s none [] s = some (.int 320) from rfl)
  have hd : xs.length.toInt32 ≤ 320 := by
    simpa [Cond.before, Cond.holds, hv] using hle
  have hN : xs.length ≤ 320 := (Int32.ofNat_le_ofNat hsm (by decide)).mp (show Int32.ofNat xs.length ≤ Int32.ofNat 320 from hd)
  exact ⟨b, xs, Cond.one_arg hc (show args[0]? = some (.ref b) from hb), hx, hN, h⟩
theorem lw_comes (l : Launch) (hflags : l.flags = flags0) : Comes l x (Jvm.Cond.code x code maxLocals ret :: tables_1) room_1 (fun tb e args s => Calls_1 tb e args s ∧ rest_1 tb e args s ∧ Pre_1 tb e args s)
    (fun _ _ args s o t => lw_Q args s o t) := by
  intro p e ha hc hk s m args below hf hfit hheap happ hpre
  obtain ⟨b, xs, hP⟩ := lw_pre_spec hpre.2.2 hpre.2.1
  obtain ⟨k, o, h1, h2, h3, hQ⟩ := lw_walk l hflags b xs p e ha hc hk s m args below hf ((Spec.applies_iff_loose hf).mp happ).1 hP trivial
  exact ⟨k, o, h1, h2, h3, hQ⟩
theorem lw_frame {s t : State} {o : Outcome} {args : Array Value} (h : Framed s o t [] 50 879) :
    Framed s o t (fieldLocs frame_1_writes args s ++ arrayLocs frame_1_arrays args s ++ staticLocs frame_1_statics s) 50 879 := h
theorem lw_limb (L : Cond) (hL : ∀ (args : Array Value) (s t : State), L.after args s (.returned (some (.int 1))) t = true) :
    ArmFor flags0 classFile x code maxLocals ret World_1 tables_1 room_1 Calls_1 rest_1 Pre_1
      (fun tb e a s o t => postC L tb e a s o t ∧ Framed s o t (fieldLocs frame_1_writes a s ++ arrayLocs frame_1_arrays a s ++ staticLocs frame_1_statics s) 50 879) := by
  intro l hflags _ _ p e ha hc hk s m args below hf hfit hheap happ hpre
  obtain ⟨k, o, h1, h2, h3, rfl, hF⟩ := lw_comes l hflags p e ha hc hk s m args below hf hfit hheap happ hpre
  exact ⟨k, _, h1, h2, h3, hL args s _, lw_frame hF⟩
theorem i_vc : Claimed_1_1 ∧ Claimed_1_2 := ⟨lw_limb limb_1_1 (fun args s t => by simp [limb_1_1, Cond.after, Cond.holds, Cond.value]), lw_limb limb_1_2 (fun args s t => Cond.after_iff.mpr (by
  first | (rw [show limb_1_2 = Cond.eq .result (.int 1) from rfl, Cond.eq_ints (x := 1) (y := 1) rfl rfl]; simp; done) | (simp [limb_1_2, Cond.value, Term.eval]; done)))⟩
