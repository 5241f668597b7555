/-! the judgement: if the pure value o is some x, then from this frame the machine comes to the method's end with x -/
def RetAt (M : MI) (pc : Nat) (r : Option Value) : Prop := match r with
  | none => decode (mC M) pc = .ok (.return_, 1) ∧ mT M = none
  | some (.int v) => decode (mC M) pc = .ok (.ireturn, 1) ∧ ∃ ty, mT M = some ty ∧ narrow ty (.int v) = .int v
  | some (.long _) => decode (mC M) pc = .ok (.lreturn, 1) ∧ mT M = some .long
  | some (.ref _) => decode (mC M) pc = .ok (.areturn, 1) ∧ ∃ n, mT M = some (.object n)
  | _ => False
def Sim {α : Type} (sc : Option (Nat × (Nat → Int32))) (M : MI) (cv : α → Option Value × HS) (pc : Nat) (ls st : List Value) (h : HS) (o : Option α) : Prop :=
  ∀ x, o = some x → ∀ (ρ : Nat → Nat) (D : va_G) (cI cZ : ClassId) (A : Nat → Prop) (p : Program) (l : Launch) (e : Env) (R : Room) (s : State) (m : MethodId) (args : Array Value) (below : List Frame) (meth : Method) (c : Code), Cx sc M ρ D cI cZ A p R s m args meth c →
  ∀ (cells slots : Nat) (Q : State → Prop), cells ≤ R.cells → slots ≤ R.slots →
  (∀ (H' : Heap) (locs' : List Loc) (pc' : Nat) (lsr' : Array Slot), Rep ρ D cI cZ (cv x).2 H' → va_S A s.heap H' locs' → RetAt M pc' (cv x).1 → W p l e R s m args below meth c H' locs' cells slots Q (F0 m pc' lsr' ((cv x).1.map (rz ρ)).toList)) →
  ExK M ρ D cI cZ A p l e R s m args below meth c cells slots Q pc ls st h
def wsM (M : MI) : List Jvm.Cond := .code (mY M) (mC M) (mL M) (mT M) :: lw_gd
def rmM (M : MI) : Room := { frames := mF M, cells := 0, slots := 0, locals := mR M }
/-- a method's contract -/
def CSim {α : Type} (M : MI) (cv : α → Option Value × HS) (as : List Value) (h : HS) (o : Option α) : Prop :=
  ∀ x, o = some x → ∀ (l : Launch) (ρ : Nat → Nat) (D : va_G) (cI cZ : ClassId) (A : Nat → Prop), (∀ i j, i < 50 → j < 50 → ρ i = ρ j → i = j) → (∀ i, i < 50 → A (ρ i)) →
  Met l (mY M) (wsM M) (rmM M) (fun v U => v = (as.map (rz ρ)).toArray ∧ Rep ρ D cI cZ h U.heap ∧ va_K D vwCl (tysI cI cZ) U) (fun _ st oc t => oc = .returned ((cv x).1.map (rz ρ)) ∧ Rep ρ D cI cZ (cv x).2 t.heap ∧ va_F A st t) 0 0 A
section RULES
variable {α β γ : Type} {sc : Option (Nat × (Nat → Int32))} {M N : MI} {cv : α → Option Value × HS} {pc : Nat} {ls st : List Value} {h : HS} {o : Option α}
/-- straight code -/
theorem s_run (L : List Op1) {ls' st' : List Value} {h' : HS} (hL : segOK M pc L = true) (hx : run1 L ls st h = some (ls', st', h')) {pc' : Nat} (hp : segPc pc L = pc') (k : Sim sc M cv pc' ls' st' h' o) : Sim sc M cv pc ls st h o := by
  subst hp
  intro x hx' ρ D cI cZ A p l e R s m args below meth c C cells slots Q h1 h2 fin
  exact run1_ok C L hL hx (k x hx' ρ D cI cZ A p l e R s m args below meth c C cells slots Q h1 h2 fin)
theorem s_none : Sim sc M cv pc ls st h none := fun x hx => by cases hx
theorem s_ret {x : α} {r : Option Value} (hcv : cv x = (r, h)) (hst : st = r.toList) (hr : RetAt M pc r) : Sim sc M cv pc ls st h (some x) := by
  intro y hy ρ D cI cZ A p l e R s m args below meth c C cells slots Q h1 h2 fin H locs lsr hR hS hL
  cases hy
  have := fin H locs pc lsr (by rw [hcv]; exact hR) hS (by rw [hcv]; exact hr)
  rw [hcv] at this
  subst hst
  cases r
  · exact this
  · exact this
theorem s_jump {off : Int} {tgt : Nat} (hd : decode (mC M) pc = .ok (.goto off, 3)) (ht : (pc : Int) + off = (tgt : Int)) (k : Sim sc M cv tgt ls st h o) : Sim sc M cv pc ls st h o := by
  intro x hx ρ D cI cZ A p l e R s m args below meth c C cells slots Q h1 h2 fin H locs lsr hR hS hL
  exact lv_goto C.1 C.2.1 hd ht (k x hx ρ D cI cZ A p l e R s m args below meth c C cells slots Q h1 h2 fin H locs lsr hR hS hL)
/-! branches: 'a < b', 'a = b' alone -/
section BR
variable {a b : Int32} {off : Int} {tgt : Nat} {oT oF : Option α}
theorem s_icmp_lt (hd : decode (mC M) pc = .ok (.if_icmp .lt off, 3)) (ht : (pc : Int) + off = (tgt : Int)) (kT : a < b → Sim sc M cv tgt ls st h oT) (kF : ¬ a < b → Sim sc M cv (pc + 3) ls st h oF) : Sim sc M cv pc ls (.int b :: .int a :: st) h (if a < b then oT else oF) := by
  intro x hx ρ D cI cZ A p l e R s m args below meth c C cells slots Q h1 h2 fin H locs lsr hR hS hL
  refine lv_icmp_lt C.1 C.2.1 hd ht (fun z => ?_) (fun z => ?_)
  · rw [if_pos z] at hx
    exact kT z x hx ρ D cI cZ A p l e R s m args below meth c C cells slots Q h1 h2 fin H locs lsr hR hS hL
  · rw [if_neg z] at hx
    exact kF z x hx ρ D cI cZ A p l e R s m args below meth c C cells slots Q h1 h2 fin H locs lsr hR hS hL
theorem s_icmp_ge (hd : decode (mC M) pc = .ok (.if_icmp .ge off, 3)) (ht : (pc : Int) + off = (tgt : Int)) (kT : a < b → Sim sc M cv (pc + 3) ls st h oT) (kF : ¬ a < b → Sim sc M cv tgt ls st h oF) : Sim sc M cv pc ls (.int b :: .int a :: st) h (if a < b then oT else oF) := by
  intro x hx ρ D cI cZ A p l e R s m args below meth c C cells slots Q h1 h2 fin H locs lsr hR hS hL
  refine lv_icmp_ge C.1 C.2.1 hd ht (fun z => ?_) (fun z => ?_)
  · have z : ¬ a < b := Int32.not_lt.mpr z
    rw [if_neg z] at hx
    exact kF z x hx ρ D cI cZ A p l e R s m args below meth c C cells slots Q h1 h2 fin H locs lsr hR hS hL
  · have z : a < b := Int32.not_le.mp z
    rw [if_pos z] at hx
    exact kT z x hx ρ D cI cZ A p l e R s m args below meth c C cells slots Q h1 h2 fin H locs lsr hR hS hL
theorem s_icmp_gt (hd : decode (mC M) pc = .ok (.if_icmp .gt off, 3)) (ht : (pc : Int) + off = (tgt : Int)) (kT : b < a → Sim sc M cv tgt ls st h oT) (kF : ¬ b < a → Sim sc M cv (pc + 3) ls st h oF) : Sim sc M cv pc ls (.int b :: .int a :: st) h (if b < a then oT else oF) := by
  intro x hx ρ D cI cZ A p l e R s m args below meth c C cells slots Q h1 h2 fin H locs lsr hR hS hL
  refine lv_icmp_gt C.1 C.2.1 hd ht (fun z => ?_) (fun z => ?_)
  · rw [if_pos z] at hx
    exact kT z x hx ρ D cI cZ A p l e R s m args below meth c C cells slots Q h1 h2 fin H locs lsr hR hS hL
  · rw [if_neg z] at hx
    exact kF z x hx ρ D cI cZ A p l e R s m args below meth c C cells slots Q h1 h2 fin H locs lsr hR hS hL
theorem s_icmp_le (hd : decode (mC M) pc = .ok (.if_icmp .le off, 3)) (ht : (pc : Int) + off = (tgt : Int)) (kT : b < a → Sim sc M cv (pc + 3) ls st h oT) (kF : ¬ b < a → Sim sc M cv tgt ls st h oF) : Sim sc M cv pc ls (.int b :: .int a :: st) h (if b < a then oT else oF) := by
  intro x hx ρ D cI cZ A p l e R s m args below meth c C cells slots Q h1 h2 fin H locs lsr hR hS hL
  refine lv_icmp_le C.1 C.2.1 hd ht (fun z => ?_) (fun z => ?_)
  · have z : ¬ b < a := Int32.not_lt.mpr z
    rw [if_neg z] at hx
    exact kF z x hx ρ D cI cZ A p l e R s m args below meth c C cells slots Q h1 h2 fin H locs lsr hR hS hL
  · have z : b < a := Int32.not_le.mp z
    rw [if_pos z] at hx
    exact kT z x hx ρ D cI cZ A p l e R s m args below meth c C cells slots Q h1 h2 fin H locs lsr hR hS hL
theorem s_icmp_eq (hd : decode (mC M) pc = .ok (.if_icmp .eq off, 3)) (ht : (pc : Int) + off = (tgt : Int)) (kT : a = b → Sim sc M cv tgt ls st h oT) (kF : ¬ a = b → Sim sc M cv (pc + 3) ls st h oF) : Sim sc M cv pc ls (.int b :: .int a :: st) h (if a = b then oT else oF) := by
  intro x hx ρ D cI cZ A p l e R s m args below meth c C cells slots Q h1 h2 fin H locs lsr hR hS hL
  refine lv_icmp_eq C.1 C.2.1 hd ht (fun z => ?_) (fun z => ?_)
  · rw [if_pos z] at hx
    exact kT z x hx ρ D cI cZ A p l e R s m args below meth c C cells slots Q h1 h2 fin H locs lsr hR hS hL
  · rw [if_neg z] at hx
    exact kF z x hx ρ D cI cZ A p l e R s m args below meth c C cells slots Q h1 h2 fin H locs lsr hR hS hL
theorem s_icmp_ne (hd : decode (mC M) pc = .ok (.if_icmp .ne off, 3)) (ht : (pc : Int) + off = (tgt : Int)) (kT : a = b → Sim sc M cv (pc + 3) ls st h oT) (kF : ¬ a = b → Sim sc M cv tgt ls st h oF) : Sim sc M cv pc ls (.int b :: .int a :: st) h (if a = b then oT else oF) := by
  intro x hx ρ D cI cZ A p l e R s m args below meth c C cells slots Q h1 h2 fin H locs lsr hR hS hL
  refine lv_icmp_ne C.1 C.2.1 hd ht (fun z => ?_) (fun z => ?_)
  · rw [if_neg z] at hx
    exact kF z x hx ρ D cI cZ A p l e R s m args below meth c C cells slots Q h1 h2 fin H locs lsr hR hS hL
  · rw [if_pos z] at hx
    exact kT z x hx ρ D cI cZ A p l e R s m args below meth c C cells slots Q h1 h2 fin H locs lsr hR hS hL
theorem s_if_lt (hd : decode (mC M) pc = .ok (.ifCond .lt off, 3)) (ht : (pc : Int) + off = (tgt : Int)) (kT : a < 0 → Sim sc M cv tgt ls st h oT) (kF : ¬ a < 0 → Sim sc M cv (pc + 3) ls st h oF) : Sim sc M cv pc ls (.int a :: st) h (if a < 0 then oT else oF) := by
  intro x hx ρ D cI cZ A p l e R s m args below meth c C cells slots Q h1 h2 fin H locs lsr hR hS hL
  refine lv_if_lt C.1 C.2.1 hd ht (fun z => ?_) (fun z => ?_)
  · rw [if_pos z] at hx
    exact kT z x hx ρ D cI cZ A p l e R s m args below meth c C cells slots Q h1 h2 fin H locs lsr hR hS hL
  · rw [if_neg z] at hx
    exact kF z x hx ρ D cI cZ A p l e R s m args below meth c C cells slots Q h1 h2 fin H locs lsr hR hS hL
theorem s_if_ge (hd : decode (mC M) pc = .ok (.ifCond .ge off, 3)) (ht : (pc : Int) + off = (tgt : Int)) (kT : a < 0 → Sim sc M cv (pc + 3) ls st h oT) (kF : ¬ a < 0 → Sim sc M cv tgt ls st h oF) : Sim sc M cv pc ls (.int a :: st) h (if a < 0 then oT else oF) := by
  intro x hx ρ D cI cZ A p l e R s m args below meth c C cells slots Q h1 h2 fin H locs lsr hR hS hL
  refine lv_if_ge C.1 C.2.1 hd ht (fun z => ?_) (fun z => ?_)
  · have z : ¬ a < 0 := Int32.not_lt.mpr z
    rw [if_neg z] at hx
    exact kF z x hx ρ D cI cZ A p l e R s m args below meth c C cells slots Q h1 h2 fin H locs lsr hR hS hL
  · have z : a < 0 := Int32.not_le.mp z
    rw [if_pos z] at hx
    exact kT z x hx ρ D cI cZ A p l e R s m args below meth c C cells slots Q h1 h2 fin H locs lsr hR hS hL
theorem s_if_gt (hd : decode (mC M) pc = .ok (.ifCond .gt off, 3)) (ht : (pc : Int) + off = (tgt : Int)) (kT : 0 < a → Sim sc M cv tgt ls st h oT) (kF : ¬ 0 < a → Sim sc M cv (pc + 3) ls st h oF) : Sim sc M cv pc ls (.int a :: st) h (if 0 < a then oT else oF) := by
  intro x hx ρ D cI cZ A p l e R s m args below meth c C cells slots Q h1 h2 fin H locs lsr hR hS hL
  refine lv_if_gt C.1 C.2.1 hd ht (fun z => ?_) (fun z => ?_)
  · rw [if_pos z] at hx
    exact kT z x hx ρ D cI cZ A p l e R s m args below meth c C cells slots Q h1 h2 fin H locs lsr hR hS hL
  · rw [if_neg z] at hx
    exact kF z x hx ρ D cI cZ A p l e R s m args below meth c C cells slots Q h1 h2 fin H locs lsr hR hS hL
theorem s_if_le (hd : decode (mC M) pc = .ok (.ifCond .le off, 3)) (ht : (pc : Int) + off = (tgt : Int)) (kT : 0 < a → Sim sc M cv (pc + 3) ls st h oT) (kF : ¬ 0 < a → Sim sc M cv tgt ls st h oF) : Sim sc M cv pc ls (.int a :: st) h (if 0 < a then oT else oF) := by
  intro x hx ρ D cI cZ A p l e R s m args below meth c C cells slots Q h1 h2 fin H locs lsr hR hS hL
  refine lv_if_le C.1 C.2.1 hd ht (fun z => ?_) (fun z => ?_)
  · have z : ¬ 0 < a := Int32.not_lt.mpr z
    rw [if_neg z] at hx
    exact kF z x hx ρ D cI cZ A p l e R s m args below meth c C cells slots Q h1 h2 fin H locs lsr hR hS hL
  · have z : 0 < a := Int32.not_le.mp z
    rw [if_pos z] at hx
    exact kT z x hx ρ D cI cZ A p l e R s m args below meth c C cells slots Q h1 h2 fin H locs lsr hR hS hL
theorem s_if_eq (hd : decode (mC M) pc = .ok (.ifCond .eq off, 3)) (ht : (pc : Int) + off = (tgt : Int)) (kT : a = 0 → Sim sc M cv tgt ls st h oT) (kF : ¬ a = 0 → Sim sc M cv (pc + 3) ls st h oF) : Sim sc M cv pc ls (.int a :: st) h (if a = 0 then oT else oF) := by
  intro x hx ρ D cI cZ A p l e R s m args below meth c C cells slots Q h1 h2 fin H locs lsr hR hS hL
  refine lv_if_eq C.1 C.2.1 hd ht (fun z => ?_) (fun z => ?_)
  · rw [if_pos z] at hx
    exact kT z x hx ρ D cI cZ A p l e R s m args below meth c C cells slots Q h1 h2 fin H locs lsr hR hS hL
  · rw [if_neg z] at hx
    exact kF z x hx ρ D cI cZ A p l e R s m args below meth c C cells slots Q h1 h2 fin H locs lsr hR hS hL
theorem s_if_ne (hd : decode (mC M) pc = .ok (.ifCond .ne off, 3)) (ht : (pc : Int) + off = (tgt : Int)) (kT : a = 0 → Sim sc M cv (pc + 3) ls st h oT) (kF : ¬ a = 0 → Sim sc M cv tgt ls st h oF) : Sim sc M cv pc ls (.int a :: st) h (if a = 0 then oT else oF) := by
  intro x hx ρ D cI cZ A p l e R s m args below meth c C cells slots Q h1 h2 fin H locs lsr hR hS hL
  refine lv_if_ne C.1 C.2.1 hd ht (fun z => ?_) (fun z => ?_)
  · rw [if_neg z] at hx
    exact kF z x hx ρ D cI cZ A p l e R s m args below meth c C cells slots Q h1 h2 fin H locs lsr hR hS hL
  · rw [if_pos z] at hx
    exact kT z x hx ρ D cI cZ A p l e R s m args below meth c C cells slots Q h1 h2 fin H locs lsr hR hS hL
end BR
def b2i (b : Bool) : Int32 := if b then 1 else 0
theorem b2i_0 (b : Bool) : (b2i b = 0) ↔ ¬ b = true := by cases b <;> decide
section BB
variable {b : Bool} {off : Int} {tgt : Nat} {oT oF : Option α}
theorem s_bif_eq (hd : decode (mC M) pc = .ok (.ifCond .eq off, 3)) (ht : (pc : Int) + off = (tgt : Int)) (kT : b = true → Sim sc M cv (pc + 3) ls st h oT) (kF : ¬ b = true → Sim sc M cv tgt ls st h oF) : Sim sc M cv pc ls (.int (b2i b) :: st) h (if b = true then oT else oF) := by
  intro x hx ρ D cI cZ A p l e R s m args below meth c C cells slots Q h1 h2 fin H locs lsr hR hS hL
  refine lv_if_eq C.1 C.2.1 hd ht (fun z => ?_) (fun z => ?_)
  · rw [b2i_0] at z
    rw [if_neg z] at hx
    exact kF z x hx ρ D cI cZ A p l e R s m args below meth c C cells slots Q h1 h2 fin H locs lsr hR hS hL
  · rw [b2i_0, Decidable.not_not] at z
    rw [if_pos z] at hx
    exact kT z x hx ρ D cI cZ A p l e R s m args below meth c C cells slots Q h1 h2 fin H locs lsr hR hS hL
theorem s_bif_ne (hd : decode (mC M) pc = .ok (.ifCond .ne off, 3)) (ht : (pc : Int) + off = (tgt : Int)) (kT : b = true → Sim sc M cv tgt ls st h oT) (kF : ¬ b = true → Sim sc M cv (pc + 3) ls st h oF) : Sim sc M cv pc ls (.int (b2i b) :: st) h (if b = true then oT else oF) := by
  intro x hx ρ D cI cZ A p l e R s m args below meth c C cells slots Q h1 h2 fin H locs lsr hR hS hL
  refine lv_if_ne C.1 C.2.1 hd ht (fun z => ?_) (fun z => ?_)
  · rw [b2i_0, Decidable.not_not] at z
    rw [if_pos z] at hx
    exact kT z x hx ρ D cI cZ A p l e R s m args below meth c C cells slots Q h1 h2 fin H locs lsr hR hS hL
  · rw [b2i_0] at z
    rw [if_neg z] at hx
    exact kF z x hx ρ D cI cZ A p l e R s m args below meth c C cells slots Q h1 h2 fin H locs lsr hR hS hL
end BB
/-- a case told apart in the pure value alone -/
theorem s_ite {q : Prop} {_ : Decidable q} {oT oF : Option α} (kT : q → Sim sc M cv pc ls st h oT) (kF : ¬ q → Sim sc M cv pc ls st h oF) : Sim sc M cv pc ls st h (if q then oT else oF) := by
  by_cases z : q
  · rw [if_pos z]; exact kT z
  · rw [if_neg z]; exact kF z
theorem s_look {dflt : Int} {ps : Array (Int × Int)} {len : Nat} {y : Int32} {off : Int} {tgt : Nat} (hd : decode (mC M) pc = .ok (.lookupswitch dflt ps, len)) (hp : (ps.toList.zip (ps.toList.drop 1)).all (fun (a, next) => a.1 < next.1) = true) (ho : Op.lookupswitch.offset ps.toList dflt y.toInt = off) (ht : (pc : Int) + off = (tgt : Int))
    (k : Sim sc M cv tgt ls st h o) : Sim sc M cv pc ls (.int y :: st) h o := by
  intro x hx ρ D cI cZ A p l e R s m args below meth c C cells slots Q h1 h2 fin H locs lsr hR hS hL
  exact lv_lookup C.1 C.2.1 hd hp ho ht (k x hx ρ D cI cZ A p l e R s m args below meth c C cells slots Q h1 h2 fin H locs lsr hR hS hL)
theorem s_tabOut {dflt lo hi : Int} {offs : Array Int} {len : Nat} {y : Int32} {tgt : Nat} (hd : decode (mC M) pc = .ok (.tableswitch dflt lo hi offs, len)) (hy : y.toInt < lo ∨ hi < y.toInt) (ht : (pc : Int) + dflt = (tgt : Int))
    (k : Sim sc M cv tgt ls st h o) : Sim sc M cv pc ls (.int y :: st) h o := by
  intro x hx ρ D cI cZ A p l e R s m args below meth c C cells slots Q h1 h2 fin H locs lsr hR hS hL
  exact lv_tableOut C.1 C.2.1 hd hy ht (k x hx ρ D cI cZ A p l e R s m args below meth c C cells slots Q h1 h2 fin H locs lsr hR hS hL)
theorem s_tabIn {dflt lo hi : Int} {offs : Array Int} {len : Nat} {y : Int32} {off : Int} {tgt : Nat} (v : Int32) (hy : y = v) (hd : decode (mC M) pc = .ok (.tableswitch dflt lo hi offs, len)) (hy1 : ¬ v.toInt < lo) (hy2 : ¬ hi < v.toInt) (ho : offs[(v.toInt - lo).toNat]? = some off) (ht : (pc : Int) + off = (tgt : Int))
    (k : Sim sc M cv tgt ls st h o) : Sim sc M cv pc ls (.int y :: st) h o := by
  subst hy
  intro x hx ρ D cI cZ A p l e R s m args below meth c C cells slots Q h1 h2 fin H locs lsr hR hS hL
  exact lv_tableIn C.1 C.2.1 hd hy1 hy2 ho ht (k x hx ρ D cI cZ A p l e R s m args below meth c C cells slots Q h1 h2 fin H locs lsr hR hS hL)
/-! arrays, divisions, constants of the pool -/
def inB (i : Int32) (n : Nat) : Bool := decide (0 ≤ i.toInt) && decide (i.toInt < n)
theorem inB_in {i : Int32} {n : Nat} (h : inB i n = true) : vp_in i n := by
  simp only [inB, Bool.and_eq_true, decide_eq_true_eq] at h
  exact vp_in_iff.mpr h
def rd (h : HS) (a n : Nat) (i : Int32) : Option Int32 := if inB i n = true then some (h.1 a i.toNatClampNeg) else none
def wr (h : HS) (a n : Nat) (i v : Int32) : Option HS := if inB i n = true then some (hset h a i.toNatClampNeg v) else none
def dv (x y : Int32) : Option Int32 := if y = 0 then none else some (x / y)
def rm (x y : Int32) : Option Int32 := if y = 0 then none else some (x - x / y * y)
def lrm (x y : Int64) : Option Int64 := if y = 0 then none else some (x - x / y * y)
def bd {β γ : Type} (o : Option β) (k : β → Option γ) : Option γ := match o with
  | some x => k x
  | none => none
def Lt {β γ : Type} (x : β) (k : β → γ) : γ := k x
theorem bd_some {o : Option β} {k : β → Option γ} {x : γ} (hx : bd o k = some x) : ∃ y, o = some y ∧ k y = some x := by
  cases o with
  | none => cases hx
  | some y => exact ⟨y, rfl, hx⟩
theorem s_iald {a n : Nat} {i : Int32} {k : Int32 → Option α} (hd : decode (mC M) pc = .ok (.iaload, 1)) (hl : lay a = n + 100 ∧ n < 900) (kk : ∀ v, Sim sc M cv (pc + 1) ls (.int v :: st) h (k v)) : Sim sc M cv pc ls (.int i :: .ref a :: st) h (bd (rd h a n i) k) := by
  intro x hx ρ D cI cZ A p l e R s m args below meth c C cells slots Q h1 h2 fin H locs lsr hR hS hL
  obtain ⟨v, hv, hx⟩ := bd_some hx
  unfold rd at hv
  split at hv
  · rename_i hin
    cases hv
    have he := wl_get ρ cI cZ h (layLt a (by omega))
    rw [ct_arr (by omega) (by omega), show alen a = n by unfold alen; rw [if_pos (by omega)]; omega] at he
    exact va_iald C.1 C.2.1 C.2.2.2.2.2.2.2.2.2.1 hR a 0 he rfl (inB_in hin) hd (kk _ x hx ρ D cI cZ A p l e R s m args below meth c C cells slots Q h1 h2 fin H locs lsr hR hS hL)
  · cases hv
theorem s_zald {a n : Nat} {i : Int32} {k : Int32 → Option α} (hd : decode (mC M) pc = .ok (.baload, 1)) (hl : lay a = n + 1000 ∧ n < 900) (kk : ∀ v, Sim sc M cv (pc + 1) ls (.int v :: st) h (k v)) : Sim sc M cv pc ls (.int i :: .ref a :: st) h (bd (rd h a n i) k) := by
  intro x hx ρ D cI cZ A p l e R s m args below meth c C cells slots Q h1 h2 fin H locs lsr hR hS hL
  obtain ⟨v, hv, hx⟩ := bd_some hx
  unfold rd at hv
  split at hv
  · rename_i hin
    cases hv
    have he := wl_get ρ cI cZ h (layLt a (by omega))
    rw [ct_arz (by omega), show alen a = n by unfold alen; rw [if_neg (by omega)]; omega] at he
    exact va_zald C.1 C.2.1 C.2.2.2.2.2.2.2.2.2.1 hR a 1 he rfl (inB_in hin) hd (kk _ x hx ρ D cI cZ A p l e R s m args below meth c C cells slots Q h1 h2 fin H locs lsr hR hS hL)
  · cases hv
theorem s_sald {L : Nat} {xs : Nat → Int32} {i : Int32} {k : Int32 → Option α} (hsc : sc = some (L, xs)) (hd : decode (mC M) pc = .ok (.iaload, 1)) (kk : ∀ v, Sim sc M cv (pc + 1) ls (.int v :: st) h (k v)) : Sim sc M cv pc ls (.int i :: .ref 99 :: st) h (bd (if inB i L = true then some (xs i.toNatClampNeg) else none) k) := by
  intro x hx ρ D cI cZ A p l e R s m args below meth c C cells slots Q h1 h2 fin H locs lsr hR hS hL
  obtain ⟨v, hv, hx⟩ := bd_some hx
  split at hv
  · rename_i hin
    cases hv
    obtain ⟨q1, q2, q3⟩ := C.2.2.2.2.2.2.2.2.2.2.2.2 L xs hsc
    exact va_sld C.1 C.2.1 q1 q2 q3 hS (inB_in hin) hd (kk _ x hx ρ D cI cZ A p l e R s m args below meth c C cells slots Q h1 h2 fin H locs lsr hR hS hL)
  · cases hv
theorem s_slen {L : Nat} {xs : Nat → Int32} (hsc : sc = some (L, xs)) (hd : decode (mC M) pc = .ok (.arraylength, 1)) (kk : Sim sc M cv (pc + 1) ls (.int (Int32.ofNat L) :: st) h o) : Sim sc M cv pc ls (.ref 99 :: st) h o := by
  intro x hx ρ D cI cZ A p l e R s m args below meth c C cells slots Q h1 h2 fin H locs lsr hR hS hL
  obtain ⟨q1, q2, q3⟩ := C.2.2.2.2.2.2.2.2.2.2.2.2 L xs hsc
  exact va_slen C.1 C.2.1 q1 q2 q3 hS hd (kk x hx ρ D cI cZ A p l e R s m args below meth c C cells slots Q h1 h2 fin H locs lsr hR hS hL)
theorem upd_hset (h : HS) (a k : Nat) (v : Int32) : (hset h a k v).1 a = upd (h.1 a) k v := by
  funext j
  simp [hset, upd]
theorem s_iast {a n : Nat} {i v : Int32} {k : HS → Option α} (hd : decode (mC M) pc = .ok (.iastore, 1)) (hl : lay a = n + 100 ∧ n < 900) (kk : ∀ h', Sim sc M cv (pc + 1) ls st h' (k h')) : Sim sc M cv pc ls (.int v :: .int i :: .ref a :: st) h (bd (wr h a n i v) k) := by
  intro x hx ρ D cI cZ A p l e R s m args below meth c C cells slots Q h1 h2 fin H locs lsr hR hS hL
  obtain ⟨h', hv, hx⟩ := bd_some hx
  unfold wr at hv
  split at hv
  · rename_i hin
    cases hv
    have he := wl_get ρ cI cZ h (layLt a (by omega))
    rw [ct_arr (by omega) (by omega), show alen a = n by unfold alen; rw [if_pos (by omega)]; omega] at he
    refine va_iast C.1 C.2.1 C.2.2.2.2.2.2.2.2.2.1 hR (wl_D C.2.2.2.2.2.2.2.2.2.2.1 C.2.2.2.2.2.2.2.2.2.2.2.1) hS a 0 he rfl (inB_in hin) hd (fun H1 locs1 hP _ hS1 => ?_)
    refine kk _ x hx ρ D cI cZ A p l e R s m args below meth c C cells slots Q h1 h2 fin H1 locs1 lsr ?_ hS1 hL
    unfold Rep
    rw [← wl_set ρ cI cZ h (hset h a i.toNatClampNeg v) (a := a) (.inl (cI, n, .inl (upd (h.1 a) i.toNatClampNeg v))) (by rw [ct_arr (by omega) (by omega), show alen a = n by unfold alen; rw [if_pos (by omega)]; omega, upd_hset]) (fun b hb => ct_off (by funext j; simp [hset, hb]) rfl)]
    exact hP
  · cases hv
theorem s_zast {a n : Nat} {i v : Int32} {k : HS → Option α} (hd : decode (mC M) pc = .ok (.bastore, 1)) (hl : lay a = n + 1000 ∧ n < 900) (hv : v = 0 ∨ v = 1) (kk : ∀ h', Sim sc M cv (pc + 1) ls st h' (k h')) : Sim sc M cv pc ls (.int v :: .int i :: .ref a :: st) h (bd (wr h a n i v) k) := by
  have hnar : vp_nar .boolean v = v := by rcases hv with rfl | rfl <;> rfl
  intro x hx ρ D cI cZ A p l e R s m args below meth c C cells slots Q h1 h2 fin H locs lsr hR hS hL
  obtain ⟨h', hv, hx⟩ := bd_some hx
  unfold wr at hv
  split at hv
  · rename_i hin
    cases hv
    have he := wl_get ρ cI cZ h (layLt a (by omega))
    rw [ct_arz (by omega), show alen a = n by unfold alen; rw [if_neg (by omega)]; omega] at he
    refine va_zast C.1 C.2.1 C.2.2.2.2.2.2.2.2.2.1 hR (wl_D C.2.2.2.2.2.2.2.2.2.2.1 C.2.2.2.2.2.2.2.2.2.2.2.1) hS a 1 he rfl (inB_in hin) hd (fun H1 locs1 hP _ hS1 => ?_)
    rw [hnar] at hP
    refine kk _ x hx ρ D cI cZ A p l e R s m args below meth c C cells slots Q h1 h2 fin H1 locs1 lsr ?_ hS1 hL
    unfold Rep
    rw [← wl_set ρ cI cZ h (hset h a i.toNatClampNeg v) (a := a) (.inl (cZ, n, .inl (upd (h.1 a) i.toNatClampNeg v))) (by rw [ct_arz (by omega), show alen a = n by unfold alen; rw [if_neg (by omega)]; omega, upd_hset]) (fun b hb => ct_off (by funext j; simp [hset, hb]) rfl)]
    exact hP
  · cases hv
theorem s_idiv {y z : Int32} {k : Int32 → Option α} (hd : decode (mC M) pc = .ok (.idiv, 1)) (kk : ∀ v, Sim sc M cv (pc + 1) ls (.int v :: st) h (k v)) : Sim sc M cv pc ls (.int y :: .int z :: st) h (bd (dv z y) k) := by
  intro x hx ρ D cI cZ A p l e R s m args below meth c C cells slots Q h1 h2 fin H locs lsr hR hS hL
  obtain ⟨v, hv, hx⟩ := bd_some hx
  unfold dv at hv
  split at hv
  · cases hv
  · rename_i hne
    cases hv
    exact lv_idiv C.1 C.2.1 hd hne (kk _ x hx ρ D cI cZ A p l e R s m args below meth c C cells slots Q h1 h2 fin H locs lsr hR hS hL)
theorem s_irem {y z : Int32} {k : Int32 → Option α} (hd : decode (mC M) pc = .ok (.irem, 1)) (kk : ∀ v, Sim sc M cv (pc + 1) ls (.int v :: st) h (k v)) : Sim sc M cv pc ls (.int y :: .int z :: st) h (bd (rm z y) k) := by
  intro x hx ρ D cI cZ A p l e R s m args below meth c C cells slots Q h1 h2 fin H locs lsr hR hS hL
  obtain ⟨v, hv, hx⟩ := bd_some hx
  unfold rm at hv
  split at hv
  · cases hv
  · rename_i hne
    cases hv
    exact lv_irem C.1 C.2.1 hd hne (kk _ x hx ρ D cI cZ A p l e R s m args below meth c C cells slots Q h1 h2 fin H locs lsr hR hS hL)
theorem s_lrem {y z : Int64} {k : Int64 → Option α} (hd : decode (mC M) pc = .ok (.lrem, 1)) (kk : ∀ v, Sim sc M cv (pc + 1) ls (.long v :: st) h (k v)) : Sim sc M cv pc ls (.long y :: .long z :: st) h (bd (lrm z y) k) := by
  intro x hx ρ D cI cZ A p l e R s m args below meth c C cells slots Q h1 h2 fin H locs lsr hR hS hL
  obtain ⟨v, hv, hx⟩ := bd_some hx
  unfold lrm at hv
  split at hv
  · cases hv
  · rename_i hne
    cases hv
    exact lv_lrem C.1 C.2.1 hd hne (kk _ x hx ρ D cI cZ A p l e R s m args below meth c C cells slots Q h1 h2 fin H locs lsr hR hS hL)
theorem s_ldc2 {idx : Nat} {v : Int64} (j : Nat) (hj : lw_tbl[j]? = some (Jvm.Cond.constantLong (nmC (mO M)) idx v)) (hd : decode (mC M) pc = .ok (.ldc2_w idx, 3)) (k : Sim sc M cv (pc + 3) ls (.long v :: st) h o) : Sim sc M cv pc ls st h o := by
  intro x hx ρ D cI cZ A p l e R s m args below meth c C cells slots Q h1 h2 fin H locs lsr hR hS hL
  exact lv_ldc2 C.1 C.2.1 C.2.2.2.2.2.1 (C.2.2.2.2.2.2.1 _ (mem_gd (List.mem_of_getElem? hj) rfl)) hd (k x hx ρ D cI cZ A p l e R s m args below meth c C cells slots Q h1 h2 fin H locs lsr hR hS hL)
theorem s_ldcw {idx : Nat} {v : Int32} (j : Nat) (hj : lw_tbl[j]? = some (Jvm.Cond.constant (nmC (mO M)) idx v)) (hd : decode (mC M) pc = .ok (.ldc_w idx, 3)) (k : Sim sc M cv (pc + 3) ls (.int v :: st) h o) : Sim sc M cv pc ls st h o := by
  intro x hx ρ D cI cZ A p l e R s m args below meth c C cells slots Q h1 h2 fin H locs lsr hR hS hL
  exact lv_ldcw C.1 C.2.1 C.2.2.2.2.2.1 (C.2.2.2.2.2.2.1 _ (mem_gd (List.mem_of_getElem? hj) rfl)) hd (k x hx ρ D cI cZ A p l e R s m args below meth c C cells slots Q h1 h2 fin H locs lsr hR hS hL)
end RULES
