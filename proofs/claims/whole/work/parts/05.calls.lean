/-! calls, entries, loops -/
theorem good_gd {w : Jvm.Cond} (h : w ∈ lw_gd) : w ∈ lw_gd ∧ ((w.onTables && w.keeps) = true ∨ ∃ ty, w = .arrayClass ty) := ⟨h, good_of_word (gd_good h)⟩
def ckB (M N : MI) (idx n j1 j4 j5 : Nat) : Bool :=
  decide (lw_tbl[j1]? = some (Jvm.Cond.methodLink (nmC (mO M)) idx (mY N))) && decide (lw_tbl[j4]? = some (Jvm.Cond.initialized (nmC (mO N)))) && decide (lw_tbl[j5]? = some (Jvm.Cond.code (mY N) (mC N) (mL N) (mT N))) && decide ((mY N).cls = nmC (mO N)) &&
  decide ((mY N).cls ≠ "java/lang/invoke/MethodHandle") && decide ((mY N).cls ≠ "java/lang/invoke/VarHandle") && decide ((parseMethodDescriptor (mY N).desc).map (fun d => d.parameters.length) = some n) && decide (mF N + 1 ≤ mF M) && decide (8 + (mL N + 11) + mR N ≤ mR M)
def ckV (M N : MI) (idx n j1 j2 j3 j4 j5 : Nat) : Bool :=
  ckB M N idx n j1 j4 j5 && decide (lw_tbl[j2]? = some (Jvm.Cond.instanceMethod (mY N))) && decide (lw_tbl[j3]? = some (Jvm.Cond.selects (nmC (mO N)) (mY N) (mY N)))
def ckS (M N : MI) (idx n j1 j2 j4 j5 : Nat) : Bool :=
  ckB M N idx n j1 j4 j5 && decide (lw_tbl[j2]? = some (Jvm.Cond.static (mY N)))
theorem s_blind {ρ : Nat → Nat} {D : va_G} {cI cZ : ClassId} {h : HS} {as : List Value} : FrameBlind (fun (v : Array Value) (U : State) => v = (as.map (rz ρ)).toArray ∧ Rep ρ D cI cZ h U.heap ∧ va_K D vwCl (tysI cI cZ) U) :=
  fun a U g mk q => ⟨q.1, q.2.1, va_K.moved (u := U) (U := U.calling g mk a) (Vm.Alike.refl U.vm) q.2.2⟩
section CALLS
variable {α β γ : Type} {sc : Option (Nat × (Nat → Int32))} {M N : MI} {cv : α → Option Value × HS} {cvn : β → Option Value × HS} {pc : Nat} {ls st stk : List Value} {h : HS} {o : Option α} {ob : Option β} {k : β → Option α} {idx n j1 j2 j3 j4 j5 : Nat}
theorem s_cb {R : Room} {s : State} {args : Array Value} (hts : ∀ w ∈ lw_gd, w.before args s = true) (hF : mF M ≤ R.frames) (hRm : mR M ≤ R.locals) (hck : ckB M N idx n j1 j4 j5 = true) :
    CallB R s args (nmC (mO M)) idx (mY N) (mC N) (mL N) (mT N) (wsM N) (rmM N) 0 0 n := by
  simp only [ckB, Bool.and_eq_true, decide_eq_true_eq] at hck
  obtain ⟨⟨⟨⟨⟨⟨⟨⟨c1, c4⟩, c5⟩, c6⟩, c7⟩, c8⟩, c9⟩, c10⟩, c11⟩ := hck
  refine callB_of n hts (fun w hw => ?_) rfl rfl rfl (by rw [c6]; exact hts _ (mem_gd (List.mem_of_getElem? c4) rfl)) (hts _ (mem_gd (List.mem_of_getElem? c1) rfl)) ⟨c7, c8, c9⟩ ⟨Nat.le_trans c10 hF, Nat.le_trans c11 hRm⟩
  unfold wsM at hw
  rcases List.mem_cons.mp hw with rfl | hw
  · exact good_gd (mem_gd (List.mem_of_getElem? c5) rfl)
  · exact good_gd hw
theorem s_sum {ρ : Nat → Nat} {pc : Nat} {ls : Array Slot} {m : MethodId} {g : List Value} (h : (st.map fun v => v.category).sum ≤ 8) : 2 * (F0 m pc ls g).monitorRoom + ((st.map (rz ρ)).map fun v => v.category).sum ≤ 8 := by
  refine lv_room ?_
  rw [List.map_map]
  have : ((fun v : Value => v.category) ∘ rz ρ) = fun v => v.category := by
    funext v
    exact rz_cat ρ v
  rw [this]
  exact h
theorem s_after {A : Nat → Prop} {s st₀ t T' : State} {H : Heap} {locs L : List Loc} (hS : va_S A s.heap H locs) (q0 : st₀.heap = H) (qL : ∀ q ∈ L, A q.base) (e1 : T'.heap = t.heap) (hF : va_F A st₀ t) : va_S A s.heap T'.heap (locs ++ L) := by
  obtain ⟨hz, hk⟩ := hF
  rw [q0] at hz hk
  refine ⟨Nat.le_trans hS.1 (by rw [e1]; exact hz), fun q h1 h2 => ?_, fun q hq => ?_⟩
  · rw [e1, hk q (Nat.lt_of_lt_of_le h1 hS.1) h2]
    exact hS.2.1 q h1 h2
  · rcases List.mem_append.mp hq with z | z
    · exact hS.2.2 q z
    · exact qL q z
theorem s_callV (hck : ckV M N idx n j1 j2 j3 j4 j5 = true) (as : List Value) (b : Nat) (hst : stk = as.reverse ++ .ref b :: st) (hlen : as.length = n) (hlay : lay b = mO N) (hcl : mO N < 6) (hW : (st.map fun v => v.category).sum ≤ 8) (hd : decode (mC M) pc = .ok (.invokevirtual idx, 3))
    (hc : CSim N cvn (.ref b :: as) h ob) (kk : ∀ y, Sim sc M cv (pc + 3) ls ((cvn y).1.toList ++ st) (cvn y).2 (k y)) : Sim sc M cv pc ls stk h (bd ob k) := by
  intro x hx ρ D cI cZ A p l e R s m args below meth c C cells slots Q h1 h2 fin H locs lsr hR hS hL
  obtain ⟨y, hy, hx⟩ := bd_some hx
  obtain ⟨hxc, hb, hml, -, -, hown, hts, hFr, hRm, hK, hi, hA, -⟩ := id C
  have hM := hc y hy l ρ D cI cZ A hi hA
  simp only [ckV, Bool.and_eq_true, decide_eq_true_eq] at hck
  obtain ⟨⟨c1, c2⟩, c3⟩ := hck
  have cb := s_cb (M := M) (N := N) hts hFr hRm c1
  have cw : CallW R s args (nmC (mO M)) (nmC (mO N)) idx (mY N) (mC N) (mL N) (mT N) (wsM N) (rmM N) 0 0 n := ⟨cb, hts _ (mem_gd (List.mem_of_getElem? c2) rfl), hts _ (mem_gd (List.mem_of_getElem? c3) rfl)⟩
  have hb50 : b < 50 := layLt b (by omega)
  have he := wl_get ρ cI cZ h hb50
  have hce : ct ρ cI cZ h b = .inr (mO N, fvs ρ h b (mO N)) := by
    unfold ct
    rw [if_pos (by omega), hlay]
  rw [hce] at he
  have hnm : (clC (mO N)).1 = nmC (mO N) := by
    have : ∀ k, k < 6 → (clC k).1 = nmC k := by decide +kernel
    exact this _ hcl
  have hrecv := va_recv hK hR (clC_at _ hcl) he
  dsimp only at hrecv
  rw [hnm] at hrecv
  have hr := va_runV (meth := meth) (cells := cells) (slots := slots) (locs := locs) (below := below) (e := e) (g := F0 m pc lsr (stk.map (rz ρ))) (rest := st.map (rz ρ)) (As := as.map (rz ρ)) (b := ρ b) (H := H) ⟨hxc, hb, hml, hown, hts⟩ hM cw ⟨s_blind, hrecv, fun U hU hWa => ⟨rfl, by rw [hU]; exact hR, va_K.moved hWa.alike hK⟩⟩ rfl (by rw [List.length_map]; exact hlen) hL.2.1 (by rw [hst]; simp [rz]) (s_sum hW) hd ⟨by simpa using h1, by simpa using h2⟩
  intro T hT X
  obtain ⟨v, st₀, t, T', L, q0, X', qL, e1, e2, ⟨ho, hR', hF⟩, go⟩ := hr T hT X
  cases ho
  have key := kk y x hx ρ D cI cZ A p l e R s m args below meth c C cells slots Q h1 h2 fin T'.heap (locs ++ L) lsr (by rw [e1]; exact hR') (s_after hS q0 qL e1 hF) hL T' rfl X'
  obtain ⟨t2, a1, b1⟩ := key
  refine ⟨t2, go t2 ?_, b1⟩
  have hlist : (((cvn y).1.toList ++ st).map (rz ρ)) = (((cvn y).1.map (rz ρ)).toList ++ st.map (rz ρ)) := by
    rw [List.map_append]
    congr 1
    cases (cvn y).1 <;> rfl
  rw [hlist] at a1
  exact a1
theorem s_callS (hck : ckS M N idx n j1 j2 j4 j5 = true) (as : List Value) (hst : stk = as.reverse ++ st) (hlen : as.length = n) (hW : (st.map fun v => v.category).sum ≤ 8) (hd : decode (mC M) pc = .ok (.invokestatic idx, 3))
    (hc : CSim N cvn as h ob) (kk : ∀ y, Sim sc M cv (pc + 3) ls ((cvn y).1.toList ++ st) (cvn y).2 (k y)) : Sim sc M cv pc ls stk h (bd ob k) := by
  intro x hx ρ D cI cZ A p l e R s m args below meth c C cells slots Q h1 h2 fin H locs lsr hR hS hL
  obtain ⟨y, hy, hx⟩ := bd_some hx
  obtain ⟨hxc, hb, hml, -, -, hown, hts, hFr, hRm, hK, hi, hA, -⟩ := id C
  have hM := hc y hy l ρ D cI cZ A hi hA
  simp only [ckS, Bool.and_eq_true, decide_eq_true_eq] at hck
  obtain ⟨c1, c2⟩ := hck
  have cb := s_cb (M := M) (N := N) hts hFr hRm c1
  have hr := va_runS (meth := meth) (cells := cells) (slots := slots) (locs := locs) (below := below) (e := e) (g := F0 m pc lsr (stk.map (rz ρ))) (rest := st.map (rz ρ)) (As := as.map (rz ρ)) (H := H) ⟨hxc, hb, hml, hown, hts⟩ hM ⟨cb, hts _ (mem_gd (List.mem_of_getElem? c2) rfl)⟩ ⟨s_blind, fun U hU hWa => ⟨rfl, by rw [hU]; exact hR, va_K.moved hWa.alike hK⟩⟩ rfl (by rw [List.length_map]; exact hlen) hL.2.1 (by rw [hst]; simp) (s_sum hW) hd ⟨by simpa using h1, by simpa using h2⟩
  intro T hT X
  obtain ⟨v, st₀, t, T', L, q0, X', qL, e1, e2, ⟨ho, hR', hF⟩, go⟩ := hr T hT X
  cases ho
  have key := kk y x hx ρ D cI cZ A p l e R s m args below meth c C cells slots Q h1 h2 fin T'.heap (locs ++ L) lsr (by rw [e1]; exact hR') (s_after hS q0 qL e1 hF) hL T' rfl X'
  obtain ⟨t2, a1, b1⟩ := key
  refine ⟨t2, go t2 ?_, b1⟩
  have hlist : (((cvn y).1.toList ++ st).map (rz ρ)) = (((cvn y).1.map (rz ρ)).toList ++ st.map (rz ρ)) := by
    rw [List.map_append]
    congr 1
    cases (cvn y).1 <;> rfl
  rw [hlist] at a1
  exact a1
end CALLS
/-! what a method answers: kinds -/
abbrev cI_ (h : HS) : Int32 → Option Value × HS := fun x => (some (.int x), h)
abbrev cZ_ (h : HS) : Bool → Option Value × HS := fun x => (some (.int (b2i x)), h)
abbrev cA_ (h : HS) : Nat → Option Value × HS := fun x => (some (.ref x), h)
abbrev cIH_ : Int32 × HS → Option Value × HS := fun x => (some (.int x.1), x.2)
abbrev cZH_ : Bool × HS → Option Value × HS := fun x => (some (.int (b2i x.1)), x.2)
abbrev cJH_ : Int64 × HS → Option Value × HS := fun x => (some (.long x.1), x.2)
abbrev cV_ : HS → Option Value × HS := fun x => (none, x)
def bd2 {β γ : Type} (o : Option (β × HS)) (k : β → HS → Option γ) : Option γ := bd o (fun q => k q.1 q.2)
/-! entries -/
def flatL (as : List Value) : List Value := as.flatMap (fun v => if v.category = 2 then [v, .null] else [v])
def entL (as : List Value) (n : Nat) : List Value := flatL as ++ List.replicate (n - (flatL as).length) .null
theorem flatL_cons (v : Value) (as : List Value) : flatL (v :: as) = (if v.category = 2 then [v, .null] else [v]) ++ flatL as := by
  simp [flatL]
theorem flat_len (ρ : Nat → Nat) (as : List Value) : (lg_sl (as.map (rz ρ))).length = (flatL as).length := by
  induction as with
  | nil => rfl
  | cons v as ih =>
    rw [flatL_cons, List.map_cons, show lg_sl (rz ρ v :: as.map (rz ρ)) = (if (rz ρ v).category = 2 then [.val (rz ρ v), .second] else [.val (rz ρ v)]) ++ lg_sl (as.map (rz ρ)) by simp [lg_sl], List.length_append, List.length_append, ih, rz_cat]
    split <;> rfl
theorem flat_mem (ρ : Nat → Nat) (as : List Value) : ∀ (k i : Nat) (v : Value), (flatL as)[i]? = some v → v ≠ .null → (k + i, rz ρ v) ∈ lv_args k (as.map (rz ρ)) := by
  induction as with
  | nil => intro k i v h; simp [flatL] at h
  | cons w as ih =>
    intro k i v h hn
    rw [flatL_cons] at h
    rw [List.map_cons]
    show (k + i, rz ρ v) ∈ (k, rz ρ w) :: lv_args (if (rz ρ w).category = 2 then k + 2 else k + 1) (as.map (rz ρ))
    rw [rz_cat]
    by_cases hc : w.category = 2
    · rw [if_pos hc] at h ⊢
      match i, h with
      | 0, h =>
        simp at h
        subst h
        exact List.mem_cons_self
      | 1, h =>
        simp at h
        exact absurd h.symm hn
      | i + 2, h =>
        have h : (flatL as)[i]? = some v := by simpa using h
        have := ih (k + 2) i v h hn
        rw [show k + (i + 2) = k + 2 + i by omega]
        exact List.mem_cons_of_mem _ this
    · rw [if_neg hc] at h ⊢
      match i, h with
      | 0, h =>
        simp at h
        subst h
        exact List.mem_cons_self
      | i + 1, h =>
        have h : (flatL as)[i]? = some v := by simpa using h
        have := ih (k + 1) i v h hn
        rw [show k + (i + 1) = k + 1 + i by omega]
        exact List.mem_cons_of_mem _ this
theorem ent_LR (ρ : Nat → Nat) (as : List Value) {n : Nat} (hn : (flatL as).length ≤ n) : LR ρ n (entL as n) ((lg_sl (as.map (rz ρ)) ++ List.replicate (n - (lg_sl (as.map (rz ρ))).length) Slot.unset).toArray) := by
  have h := lv_entry (as.map (rz ρ)) (n := n) (by rw [flat_len]; exact hn)
  refine ⟨by unfold entL; rw [List.length_append, List.length_replicate]; omega, h.1, h.2.1, fun i v hv hne => ?_⟩
  unfold entL at hv
  by_cases hl : i < (flatL as).length
  · rw [List.getElem?_append_left hl] at hv
    have := flat_mem ρ as 0 i v hv hne
    rw [Nat.zero_add] at this
    exact h.2.2 _ this
  · rw [List.getElem?_append_right (by omega)] at hv
    have := List.eq_of_mem_replicate (List.mem_of_getElem? hv)
    exact absurd this hne
theorem csim_of {α : Type} {M : MI} {cv : α → Option Value × HS} {as ls : List Value} {h : HS} {o : Option α} (hpl : plainName (mY M).cls = true) (hcl : (mY M).cls = nmC (mO M)) (hn : (flatL as).length ≤ mL M) (hls : entL as (mL M) = ls) (hS : Sim none M cv 0 ls [] h o) : CSim M cv as h o := by
  subst hls
  intro x hx l ρ D cI cZ A hi hA
  refine Met.ofW (cc := mC M) (maxL := mL M) (ret := mT M) hpl rfl ?_
  intro p e s m args below meth c s₁ B hml hv
  obtain ⟨rfl, hR, hK⟩ := hv
  have hts : ∀ w ∈ wsM M, w.before ((as.map (rz ρ)).toArray) s = true := atoms_spec (ws := wsM M) B.pre
  have hown : s.vm.findClass (nmC (mO M)) = some m.cls := by
    rw [← hcl]
    exact findClass_of_methodNamed B.named
  have C : Cx none M ρ D cI cZ A p (headSpec (wsM M) (rmM M)).room s m ((as.map (rz ρ)).toArray) meth c :=
    ⟨B.exec, B.bytes, hml, B.returns, B.notSynchronized, hown, fun w hw => hts w (List.mem_cons_of_mem _ hw), Nat.le_refl _, Nat.le_refl _, hK, hi, hA, fun L xs q => by cases q⟩
  rw [lg_entry_eq]
  refine hS x hx ρ D cI cZ A p l e (headSpec (wsM M) (rmM M)).room s m _ below meth c C 0 0 _ (Nat.zero_le _) (Nat.zero_le _) ?_ s.heap [] _ hR va_S.rf (ent_LR ρ as hn)
  intro H' locs' pc' lsr' hR' hS' hret
  have hb := B.bytes
  have hxc := B.exec
  have hrt := B.returns
  have hlk := B.notSynchronized
  cases hcv : (cv x).1 with
  | none =>
    rw [hcv] at hret
    refine W.vret (free := A) hxc hb (by rw [hrt]; exact hret.2) (fun t ht _ => ⟨rfl, by rw [ht]; exact hR', hS'.F ht⟩) hS'.2.2 hret.1 hlk
  | some v =>
    rw [hcv] at hret
    cases v with
    | int v =>
      obtain ⟨hd, ty, hty, hnar⟩ := hret
      exact W.zret (free := A) hxc hb (by rw [hrt]; exact hty) hnar (fun t ht _ => ⟨rfl, by rw [ht]; exact hR', hS'.F ht⟩) hS'.2.2 hd hlk
    | long v =>
      obtain ⟨hd, hty⟩ := hret
      exact W.lret (free := A) hxc hb (by rw [hrt]; exact hty) (fun t ht _ => ⟨rfl, by rw [ht]; exact hR', hS'.F ht⟩) hS'.2.2 hd hlk
    | ref v =>
      obtain ⟨hd, ty, hty⟩ := hret
      exact W.aret (free := A) hxc hb (by rw [hrt]; exact hty) (Or.inl ⟨_, rfl⟩) (Or.inr ⟨ρ v, rfl⟩) (fun t ht _ => ⟨rfl, by rw [ht]; exact hR', hS'.F ht⟩) hS'.2.2 hd hlk
    | float v => exact hret.elim
    | double v => exact hret.elim
    | null => exact hret.elim
    | retAddr v => exact hret.elim
