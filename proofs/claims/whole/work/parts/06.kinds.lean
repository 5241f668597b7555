section KINDS
variable {α β γ : Type} {sc : Option (Nat × (Nat → Int32))} {M N : MI} {cv : α → Option Value × HS} {pc : Nat} {ls st stk : List Value} {h : HS} {o : Option α} {idx n j1 j2 j3 j4 j5 : Nat}
theorem s_cVI {ob : Option Int32} {k : Int32 → Option α} (hck : ckV M N idx n j1 j2 j3 j4 j5 = true) (as : List Value) (b : Nat) (hst : stk = as.reverse ++ .ref b :: st) (hlen : as.length = n) (hlay : lay b = mO N) (hcl : mO N < 6) (hW : (st.map fun v => v.category).sum ≤ 8) (hd : decode (mC M) pc = .ok (.invokevirtual idx, 3))
    (hc : CSim N (cI_ h) (.ref b :: as) h ob) (kk : ∀ y, Sim sc M cv (pc + 3) ls (.int y :: st) h (k y)) : Sim sc M cv pc ls stk h (bd ob k) := s_callV hck as b hst hlen hlay hcl hW hd hc kk
theorem s_cSI {ob : Option Int32} {k : Int32 → Option α} (hck : ckS M N idx n j1 j2 j4 j5 = true) (as : List Value) (hst : stk = as.reverse ++ st) (hlen : as.length = n) (hW : (st.map fun v => v.category).sum ≤ 8) (hd : decode (mC M) pc = .ok (.invokestatic idx, 3))
    (hc : CSim N (cI_ h) as h ob) (kk : ∀ y, Sim sc M cv (pc + 3) ls (.int y :: st) h (k y)) : Sim sc M cv pc ls stk h (bd ob k) := s_callS hck as hst hlen hW hd hc kk
theorem s_cVZ {ob : Option Bool} {k : Bool → Option α} (hck : ckV M N idx n j1 j2 j3 j4 j5 = true) (as : List Value) (b : Nat) (hst : stk = as.reverse ++ .ref b :: st) (hlen : as.length = n) (hlay : lay b = mO N) (hcl : mO N < 6) (hW : (st.map fun v => v.category).sum ≤ 8) (hd : decode (mC M) pc = .ok (.invokevirtual idx, 3))
    (hc : CSim N (cZ_ h) (.ref b :: as) h ob) (kk : ∀ y, Sim sc M cv (pc + 3) ls (.int (b2i y) :: st) h (k y)) : Sim sc M cv pc ls stk h (bd ob k) := s_callV hck as b hst hlen hlay hcl hW hd hc kk
theorem s_cSZ {ob : Option Bool} {k : Bool → Option α} (hck : ckS M N idx n j1 j2 j4 j5 = true) (as : List Value) (hst : stk = as.reverse ++ st) (hlen : as.length = n) (hW : (st.map fun v => v.category).sum ≤ 8) (hd : decode (mC M) pc = .ok (.invokestatic idx, 3))
    (hc : CSim N (cZ_ h) as h ob) (kk : ∀ y, Sim sc M cv (pc + 3) ls (.int (b2i y) :: st) h (k y)) : Sim sc M cv pc ls stk h (bd ob k) := s_callS hck as hst hlen hW hd hc kk
theorem s_cVA {ob : Option Nat} {k : Nat → Option α} (hck : ckV M N idx n j1 j2 j3 j4 j5 = true) (as : List Value) (b : Nat) (hst : stk = as.reverse ++ .ref b :: st) (hlen : as.length = n) (hlay : lay b = mO N) (hcl : mO N < 6) (hW : (st.map fun v => v.category).sum ≤ 8) (hd : decode (mC M) pc = .ok (.invokevirtual idx, 3))
    (hc : CSim N (cA_ h) (.ref b :: as) h ob) (kk : ∀ y, Sim sc M cv (pc + 3) ls (.ref y :: st) h (k y)) : Sim sc M cv pc ls stk h (bd ob k) := s_callV hck as b hst hlen hlay hcl hW hd hc kk
theorem s_cSA {ob : Option Nat} {k : Nat → Option α} (hck : ckS M N idx n j1 j2 j4 j5 = true) (as : List Value) (hst : stk = as.reverse ++ st) (hlen : as.length = n) (hW : (st.map fun v => v.category).sum ≤ 8) (hd : decode (mC M) pc = .ok (.invokestatic idx, 3))
    (hc : CSim N (cA_ h) as h ob) (kk : ∀ y, Sim sc M cv (pc + 3) ls (.ref y :: st) h (k y)) : Sim sc M cv pc ls stk h (bd ob k) := s_callS hck as hst hlen hW hd hc kk
theorem s_cVV {ob : Option HS} {k : HS → Option α} (hck : ckV M N idx n j1 j2 j3 j4 j5 = true) (as : List Value) (b : Nat) (hst : stk = as.reverse ++ .ref b :: st) (hlen : as.length = n) (hlay : lay b = mO N) (hcl : mO N < 6) (hW : (st.map fun v => v.category).sum ≤ 8) (hd : decode (mC M) pc = .ok (.invokevirtual idx, 3))
    (hc : CSim N (cV_) (.ref b :: as) h ob) (kk : ∀ y, Sim sc M cv (pc + 3) ls st y (k y)) : Sim sc M cv pc ls stk h (bd ob k) := s_callV hck as b hst hlen hlay hcl hW hd hc kk
theorem s_cSV {ob : Option HS} {k : HS → Option α} (hck : ckS M N idx n j1 j2 j4 j5 = true) (as : List Value) (hst : stk = as.reverse ++ st) (hlen : as.length = n) (hW : (st.map fun v => v.category).sum ≤ 8) (hd : decode (mC M) pc = .ok (.invokestatic idx, 3))
    (hc : CSim N (cV_) as h ob) (kk : ∀ y, Sim sc M cv (pc + 3) ls st y (k y)) : Sim sc M cv pc ls stk h (bd ob k) := s_callS hck as hst hlen hW hd hc kk
theorem s_cVIH {ob : Option (Int32 × HS)} {k : Int32 → HS → Option α} (hck : ckV M N idx n j1 j2 j3 j4 j5 = true) (as : List Value) (b : Nat) (hst : stk = as.reverse ++ .ref b :: st) (hlen : as.length = n) (hlay : lay b = mO N) (hcl : mO N < 6) (hW : (st.map fun v => v.category).sum ≤ 8) (hd : decode (mC M) pc = .ok (.invokevirtual idx, 3))
    (hc : CSim N (cIH_) (.ref b :: as) h ob) (kk : ∀ y g, Sim sc M cv (pc + 3) ls (.int y :: st) g (k y g)) : Sim sc M cv pc ls stk h (bd2 ob k) := s_callV hck as b hst hlen hlay hcl hW hd hc (fun q => kk q.1 q.2)
theorem s_cSIH {ob : Option (Int32 × HS)} {k : Int32 → HS → Option α} (hck : ckS M N idx n j1 j2 j4 j5 = true) (as : List Value) (hst : stk = as.reverse ++ st) (hlen : as.length = n) (hW : (st.map fun v => v.category).sum ≤ 8) (hd : decode (mC M) pc = .ok (.invokestatic idx, 3))
    (hc : CSim N (cIH_) as h ob) (kk : ∀ y g, Sim sc M cv (pc + 3) ls (.int y :: st) g (k y g)) : Sim sc M cv pc ls stk h (bd2 ob k) := s_callS hck as hst hlen hW hd hc (fun q => kk q.1 q.2)
theorem s_cVZH {ob : Option (Bool × HS)} {k : Bool → HS → Option α} (hck : ckV M N idx n j1 j2 j3 j4 j5 = true) (as : List Value) (b : Nat) (hst : stk = as.reverse ++ .ref b :: st) (hlen : as.length = n) (hlay : lay b = mO N) (hcl : mO N < 6) (hW : (st.map fun v => v.category).sum ≤ 8) (hd : decode (mC M) pc = .ok (.invokevirtual idx, 3))
    (hc : CSim N (cZH_) (.ref b :: as) h ob) (kk : ∀ y g, Sim sc M cv (pc + 3) ls (.int (b2i y) :: st) g (k y g)) : Sim sc M cv pc ls stk h (bd2 ob k) := s_callV hck as b hst hlen hlay hcl hW hd hc (fun q => kk q.1 q.2)
theorem s_cSZH {ob : Option (Bool × HS)} {k : Bool → HS → Option α} (hck : ckS M N idx n j1 j2 j4 j5 = true) (as : List Value) (hst : stk = as.reverse ++ st) (hlen : as.length = n) (hW : (st.map fun v => v.category).sum ≤ 8) (hd : decode (mC M) pc = .ok (.invokestatic idx, 3))
    (hc : CSim N (cZH_) as h ob) (kk : ∀ y g, Sim sc M cv (pc + 3) ls (.int (b2i y) :: st) g (k y g)) : Sim sc M cv pc ls stk h (bd2 ob k) := s_callS hck as hst hlen hW hd hc (fun q => kk q.1 q.2)
theorem s_cVJH {ob : Option (Int64 × HS)} {k : Int64 → HS → Option α} (hck : ckV M N idx n j1 j2 j3 j4 j5 = true) (as : List Value) (b : Nat) (hst : stk = as.reverse ++ .ref b :: st) (hlen : as.length = n) (hlay : lay b = mO N) (hcl : mO N < 6) (hW : (st.map fun v => v.category).sum ≤ 8) (hd : decode (mC M) pc = .ok (.invokevirtual idx, 3))
    (hc : CSim N (cJH_) (.ref b :: as) h ob) (kk : ∀ y g, Sim sc M cv (pc + 3) ls (.long y :: st) g (k y g)) : Sim sc M cv pc ls stk h (bd2 ob k) := s_callV hck as b hst hlen hlay hcl hW hd hc (fun q => kk q.1 q.2)
theorem s_cSJH {ob : Option (Int64 × HS)} {k : Int64 → HS → Option α} (hck : ckS M N idx n j1 j2 j4 j5 = true) (as : List Value) (hst : stk = as.reverse ++ st) (hlen : as.length = n) (hW : (st.map fun v => v.category).sum ≤ 8) (hd : decode (mC M) pc = .ok (.invokestatic idx, 3))
    (hc : CSim N (cJH_) as h ob) (kk : ∀ y g, Sim sc M cv (pc + 3) ls (.long y :: st) g (k y g)) : Sim sc M cv pc ls stk h (bd2 ob k) := s_callS hck as hst hlen hW hd hc (fun q => kk q.1 q.2)
def retB (e : Int32) : Option Bool := if e = 0 then some false else if e = 1 then some true else none
def retBH (e : Int32) (h : HS) : Option (Bool × HS) := if e = 0 then some (false, h) else if e = 1 then some (true, h) else none
theorem s_retI {v : Int32} (hd : decode (mC M) pc = .ok (.ireturn, 1)) (hT : mT M = some .int) : Sim sc M (cI_ h) pc ls [.int v] h (some v) := s_ret (r := some (.int v)) rfl rfl ⟨hd, _, hT, rfl⟩
theorem s_retZ {v : Bool} (hd : decode (mC M) pc = .ok (.ireturn, 1)) (hT : mT M = some .boolean) : Sim sc M (cZ_ h) pc ls [.int (b2i v)] h (some v) := s_ret (r := some (.int (b2i v))) rfl rfl ⟨hd, _, hT, by cases v <;> rfl⟩
theorem s_retB {e : Int32} (hd : decode (mC M) pc = .ok (.ireturn, 1)) (hT : mT M = some .boolean) : Sim sc M (cZ_ h) pc ls [.int e] h (retB e) := by
  unfold retB
  refine s_ite (fun z => ?_) (fun _ => s_ite (fun z => ?_) (fun _ => s_none))
  · subst z; exact s_retZ (v := false) hd hT
  · subst z; exact s_retZ (v := true) hd hT
theorem s_retA {v : Nat} (hd : decode (mC M) pc = .ok (.areturn, 1)) {q : String} (hT : mT M = some (.object q)) : Sim sc M (cA_ h) pc ls [.ref v] h (some v) := s_ret (r := some (.ref v)) rfl rfl ⟨hd, _, hT⟩
theorem s_retV (hd : decode (mC M) pc = .ok (.return_, 1)) (hT : mT M = none) : Sim sc M (cV_) pc ls [] h (some h) := s_ret (r := none) rfl rfl ⟨hd, hT⟩
theorem s_retIH {v : Int32} (hd : decode (mC M) pc = .ok (.ireturn, 1)) (hT : mT M = some .int) : Sim sc M (cIH_) pc ls [.int v] h (some (v, h)) := s_ret (r := some (.int v)) rfl rfl ⟨hd, _, hT, rfl⟩
theorem s_retZH {v : Bool} (hd : decode (mC M) pc = .ok (.ireturn, 1)) (hT : mT M = some .boolean) : Sim sc M (cZH_) pc ls [.int (b2i v)] h (some (v, h)) := s_ret (r := some (.int (b2i v))) rfl rfl ⟨hd, _, hT, by cases v <;> rfl⟩
theorem s_retBH {e : Int32} (hd : decode (mC M) pc = .ok (.ireturn, 1)) (hT : mT M = some .boolean) : Sim sc M (cZH_) pc ls [.int e] h (retBH e h) := by
  unfold retBH
  refine s_ite (fun z => ?_) (fun _ => s_ite (fun z => ?_) (fun _ => s_none))
  · subst z; exact s_retZH (v := false) hd hT
  · subst z; exact s_retZH (v := true) hd hT
theorem s_retJH {v : Int64} (hd : decode (mC M) pc = .ok (.lreturn, 1)) (hT : mT M = some .long) : Sim sc M (cJH_) pc ls [.long v] h (some (v, h)) := s_ret (r := some (.long v)) rfl rfl ⟨hd, hT⟩
theorem s_lt {τ : Type} (e : τ) (lsf stf : τ → List Value) (hf : τ → HS) {k : τ → Option α} (kk : ∀ x, Sim sc M cv pc (lsf x) (stf x) (hf x) (k x)) : Sim sc M cv pc (lsf e) (stf e) (hf e) (Lt e k) := kk e
def jn {τ γ : Type} (r : τ) (b : τ → Option γ) : Option γ := b r
theorem s_jn {τ : Type} {r : τ} {b : τ → Option α} (P : τ → Prop) (hr : P r) (hb : ∀ j, P j → Sim sc M cv pc ls st h (b j)) : Sim sc M cv pc ls st h (jn r b) := hb r hr
def wk : List Value → List Value → Prop
  | [], [] => True
  | a :: l, b :: l' => (b = .null ∨ a = b) ∧ wk l l'
  | _, _ => False
theorem wk_len : ∀ {l l' : List Value}, wk l l' → l'.length = l.length
  | [], [], _ => rfl
  | _ :: l, _ :: l', h => by simp [wk_len h.2]
  | [], _ :: _, h => h.elim
  | _ :: _, [], h => h.elim
theorem wk_at : ∀ {l l' : List Value}, wk l l' → ∀ (i : Nat) (v : Value), l'[i]? = some v → v ≠ .null → l[i]? = some v
  | [], [], _, i, v, hv, _ => by simp at hv
  | a :: l, b :: l', h, 0, v, hv, hn => by
    simp at hv
    subst hv
    rcases h.1 with z | z
    · exact absurd z hn
    · simp [z]
  | a :: l, b :: l', h, i + 1, v, hv, hn => by
    simp at hv ⊢
    exact wk_at h.2 i v hv hn
  | [], _ :: _, h, _, _, _, _ => h.elim
  | _ :: _, [], h, _, _, _, _ => h.elim
theorem s_wk {ls' : List Value} (hw : wk ls ls') (k : Sim sc M cv pc ls' st h o) : Sim sc M cv pc ls st h o := by
  intro x hx ρ D cI cZ A p l e R s m args below meth c C cells slots Q h1 h2 fin H locs lsr hR hS hL
  exact k x hx ρ D cI cZ A p l e R s m args below meth c C cells slots Q h1 h2 fin H locs lsr hR hS ⟨(wk_len hw).trans hL.1, hL.2.1, hL.2.2.1, fun i v hv hn => hL.2.2.2 i v (wk_at hw i v hv hn) hn⟩
theorem s_mmin {a b : Int32} (j1 j2 j4 j5 : Nat) (h1 : lw_tbl[j1]? = some (Jvm.Cond.methodLink (nmC (mO M)) idx Lib.Math.min.name)) (h2 : lw_tbl[j2]? = some (Jvm.Cond.static Lib.Math.min.name)) (h4 : lw_tbl[j4]? = some (Jvm.Cond.initialized "java/lang/Math")) (h5 : lw_tbl[j5]? = some (Jvm.Cond.code Lib.Math.min.name Lib.Math.min.code 2 (some .int)))
    (hF : 1 ≤ mF M) (hRm : 21 ≤ mR M) (hW : (st.map fun v => v.category).sum ≤ 8) (hd : decode (mC M) pc = .ok (.invokestatic idx, 3)) (k : Sim sc M cv (pc + 3) ls (.int (if b < a then b else a) :: st) h o) : Sim sc M cv pc ls (.int b :: .int a :: st) h o := by
  intro x hx ρ D cI cZ A p l e R s m args below meth c C cells slots Q q1 q2 fin H locs lsr hR hS hL
  obtain ⟨hxc, hb, hml, -, -, hown, hts, hFr, hRm2, -⟩ := id C
  have hsum : ((st.map (rz ρ)).map fun v => v.category).sum ≤ 8 := by
    rw [List.map_map, show ((fun v : Value => v.category) ∘ rz ρ) = fun v => v.category from by funext v; exact rz_cat ρ v]
    exact hW
  exact va_mmin hxc hb (by rw [hml, hL.2.1]) hown (hts _ (mem_gd (List.mem_of_getElem? h1) rfl)) (hts _ (mem_gd (List.mem_of_getElem? h2) rfl)) (hts _ (mem_gd (List.mem_of_getElem? h4) rfl)) (hts _ (mem_gd (List.mem_of_getElem? h5) rfl)) (Nat.le_trans hF hFr) (by omega) q1 q2 hd
    (k x hx ρ D cI cZ A p l e R s m args below meth c C cells slots Q q1 q2 fin H locs lsr hR hS hL)
end KINDS
def loop1 {A0 γ : Type} (body : (A0 → Option γ) → A0 → Option γ) : Nat → A0 → Option γ
  | 0, _ => none
  | f + 1, x0 => body (loop1 body f) x0
theorem s_loop1 {α A0 : Type} {sc : Option (Nat × (Nat → Int32))} {M : MI} {cv : α → Option Value × HS} {pc : Nat} {st : List Value} (ls : A0 → List Value) (hh : A0 → HS) {body : (A0 → Option α) → A0 → Option α}
    (H : ∀ rec : A0 → Option α, (∀ (x0 : A0), Sim sc M cv pc (ls x0) st (hh x0) (rec x0)) → ∀ (x0 : A0), Sim sc M cv pc (ls x0) st (hh x0) (body rec x0)) : ∀ (f : Nat) (x0 : A0), Sim sc M cv pc (ls x0) st (hh x0) (loop1 body f x0)
  | 0, x0 => s_none
  | f + 1, x0 => H (loop1 body f) (s_loop1 ls hh H f) x0
def loop2 {A0 A1 γ : Type} (body : (A0 → A1 → Option γ) → A0 → A1 → Option γ) : Nat → A0 → A1 → Option γ
  | 0, _, _ => none
  | f + 1, x0, x1 => body (loop2 body f) x0 x1
theorem s_loop2 {α A0 A1 : Type} {sc : Option (Nat × (Nat → Int32))} {M : MI} {cv : α → Option Value × HS} {pc : Nat} {st : List Value} (ls : A0 → A1 → List Value) (hh : A0 → A1 → HS) {body : (A0 → A1 → Option α) → A0 → A1 → Option α}
    (H : ∀ rec : A0 → A1 → Option α, (∀ (x0 : A0) (x1 : A1), Sim sc M cv pc (ls x0 x1) st (hh x0 x1) (rec x0 x1)) → ∀ (x0 : A0) (x1 : A1), Sim sc M cv pc (ls x0 x1) st (hh x0 x1) (body rec x0 x1)) : ∀ (f : Nat) (x0 : A0) (x1 : A1), Sim sc M cv pc (ls x0 x1) st (hh x0 x1) (loop2 body f x0 x1)
  | 0, x0, x1 => s_none
  | f + 1, x0, x1 => H (loop2 body f) (s_loop2 ls hh H f) x0 x1
def loop3 {A0 A1 A2 γ : Type} (body : (A0 → A1 → A2 → Option γ) → A0 → A1 → A2 → Option γ) : Nat → A0 → A1 → A2 → Option γ
  | 0, _, _, _ => none
  | f + 1, x0, x1, x2 => body (loop3 body f) x0 x1 x2
theorem s_loop3 {α A0 A1 A2 : Type} {sc : Option (Nat × (Nat → Int32))} {M : MI} {cv : α → Option Value × HS} {pc : Nat} {st : List Value} (ls : A0 → A1 → A2 → List Value) (hh : A0 → A1 → A2 → HS) {body : (A0 → A1 → A2 → Option α) → A0 → A1 → A2 → Option α}
    (H : ∀ rec : A0 → A1 → A2 → Option α, (∀ (x0 : A0) (x1 : A1) (x2 : A2), Sim sc M cv pc (ls x0 x1 x2) st (hh x0 x1 x2) (rec x0 x1 x2)) → ∀ (x0 : A0) (x1 : A1) (x2 : A2), Sim sc M cv pc (ls x0 x1 x2) st (hh x0 x1 x2) (body rec x0 x1 x2)) : ∀ (f : Nat) (x0 : A0) (x1 : A1) (x2 : A2), Sim sc M cv pc (ls x0 x1 x2) st (hh x0 x1 x2) (loop3 body f x0 x1 x2)
  | 0, x0, x1, x2 => s_none
  | f + 1, x0, x1, x2 => H (loop3 body f) (s_loop3 ls hh H f) x0 x1 x2
def loop4 {A0 A1 A2 A3 γ : Type} (body : (A0 → A1 → A2 → A3 → Option γ) → A0 → A1 → A2 → A3 → Option γ) : Nat → A0 → A1 → A2 → A3 → Option γ
  | 0, _, _, _, _ => none
  | f + 1, x0, x1, x2, x3 => body (loop4 body f) x0 x1 x2 x3
theorem s_loop4 {α A0 A1 A2 A3 : Type} {sc : Option (Nat × (Nat → Int32))} {M : MI} {cv : α → Option Value × HS} {pc : Nat} {st : List Value} (ls : A0 → A1 → A2 → A3 → List Value) (hh : A0 → A1 → A2 → A3 → HS) {body : (A0 → A1 → A2 → A3 → Option α) → A0 → A1 → A2 → A3 → Option α}
    (H : ∀ rec : A0 → A1 → A2 → A3 → Option α, (∀ (x0 : A0) (x1 : A1) (x2 : A2) (x3 : A3), Sim sc M cv pc (ls x0 x1 x2 x3) st (hh x0 x1 x2 x3) (rec x0 x1 x2 x3)) → ∀ (x0 : A0) (x1 : A1) (x2 : A2) (x3 : A3), Sim sc M cv pc (ls x0 x1 x2 x3) st (hh x0 x1 x2 x3) (body rec x0 x1 x2 x3)) : ∀ (f : Nat) (x0 : A0) (x1 : A1) (x2 : A2) (x3 : A3), Sim sc M cv pc (ls x0 x1 x2 x3) st (hh x0 x1 x2 x3) (loop4 body f x0 x1 x2 x3)
  | 0, x0, x1, x2, x3 => s_none
  | f + 1, x0, x1, x2, x3 => H (loop4 body f) (s_loop4 ls hh H f) x0 x1 x2 x3
def loop5 {A0 A1 A2 A3 A4 γ : Type} (body : (A0 → A1 → A2 → A3 → A4 → Option γ) → A0 → A1 → A2 → A3 → A4 → Option γ) : Nat → A0 → A1 → A2 → A3 → A4 → Option γ
  | 0, _, _, _, _, _ => none
  | f + 1, x0, x1, x2, x3, x4 => body (loop5 body f) x0 x1 x2 x3 x4
theorem s_loop5 {α A0 A1 A2 A3 A4 : Type} {sc : Option (Nat × (Nat → Int32))} {M : MI} {cv : α → Option Value × HS} {pc : Nat} {st : List Value} (ls : A0 → A1 → A2 → A3 → A4 → List Value) (hh : A0 → A1 → A2 → A3 → A4 → HS) {body : (A0 → A1 → A2 → A3 → A4 → Option α) → A0 → A1 → A2 → A3 → A4 → Option α}
    (H : ∀ rec : A0 → A1 → A2 → A3 → A4 → Option α, (∀ (x0 : A0) (x1 : A1) (x2 : A2) (x3 : A3) (x4 : A4), Sim sc M cv pc (ls x0 x1 x2 x3 x4) st (hh x0 x1 x2 x3 x4) (rec x0 x1 x2 x3 x4)) → ∀ (x0 : A0) (x1 : A1) (x2 : A2) (x3 : A3) (x4 : A4), Sim sc M cv pc (ls x0 x1 x2 x3 x4) st (hh x0 x1 x2 x3 x4) (body rec x0 x1 x2 x3 x4)) : ∀ (f : Nat) (x0 : A0) (x1 : A1) (x2 : A2) (x3 : A3) (x4 : A4), Sim sc M cv pc (ls x0 x1 x2 x3 x4) st (hh x0 x1 x2 x3 x4) (loop5 body f x0 x1 x2 x3 x4)
  | 0, x0, x1, x2, x3, x4 => s_none
  | f + 1, x0, x1, x2, x3, x4 => H (loop5 body f) (s_loop5 ls hh H f) x0 x1 x2 x3 x4
def loop6 {A0 A1 A2 A3 A4 A5 γ : Type} (body : (A0 → A1 → A2 → A3 → A4 → A5 → Option γ) → A0 → A1 → A2 → A3 → A4 → A5 → Option γ) : Nat → A0 → A1 → A2 → A3 → A4 → A5 → Option γ
  | 0, _, _, _, _, _, _ => none
  | f + 1, x0, x1, x2, x3, x4, x5 => body (loop6 body f) x0 x1 x2 x3 x4 x5
theorem s_loop6 {α A0 A1 A2 A3 A4 A5 : Type} {sc : Option (Nat × (Nat → Int32))} {M : MI} {cv : α → Option Value × HS} {pc : Nat} {st : List Value} (ls : A0 → A1 → A2 → A3 → A4 → A5 → List Value) (hh : A0 → A1 → A2 → A3 → A4 → A5 → HS) {body : (A0 → A1 → A2 → A3 → A4 → A5 → Option α) → A0 → A1 → A2 → A3 → A4 → A5 → Option α}
    (H : ∀ rec : A0 → A1 → A2 → A3 → A4 → A5 → Option α, (∀ (x0 : A0) (x1 : A1) (x2 : A2) (x3 : A3) (x4 : A4) (x5 : A5), Sim sc M cv pc (ls x0 x1 x2 x3 x4 x5) st (hh x0 x1 x2 x3 x4 x5) (rec x0 x1 x2 x3 x4 x5)) → ∀ (x0 : A0) (x1 : A1) (x2 : A2) (x3 : A3) (x4 : A4) (x5 : A5), Sim sc M cv pc (ls x0 x1 x2 x3 x4 x5) st (hh x0 x1 x2 x3 x4 x5) (body rec x0 x1 x2 x3 x4 x5)) : ∀ (f : Nat) (x0 : A0) (x1 : A1) (x2 : A2) (x3 : A3) (x4 : A4) (x5 : A5), Sim sc M cv pc (ls x0 x1 x2 x3 x4 x5) st (hh x0 x1 x2 x3 x4 x5) (loop6 body f x0 x1 x2 x3 x4 x5)
  | 0, x0, x1, x2, x3, x4, x5 => s_none
  | f + 1, x0, x1, x2, x3, x4, x5 => H (loop6 body f) (s_loop6 ls hh H f) x0 x1 x2 x3 x4 x5
def loop7 {A0 A1 A2 A3 A4 A5 A6 γ : Type} (body : (A0 → A1 → A2 → A3 → A4 → A5 → A6 → Option γ) → A0 → A1 → A2 → A3 → A4 → A5 → A6 → Option γ) : Nat → A0 → A1 → A2 → A3 → A4 → A5 → A6 → Option γ
  | 0, _, _, _, _, _, _, _ => none
  | f + 1, x0, x1, x2, x3, x4, x5, x6 => body (loop7 body f) x0 x1 x2 x3 x4 x5 x6
theorem s_loop7 {α A0 A1 A2 A3 A4 A5 A6 : Type} {sc : Option (Nat × (Nat → Int32))} {M : MI} {cv : α → Option Value × HS} {pc : Nat} {st : List Value} (ls : A0 → A1 → A2 → A3 → A4 → A5 → A6 → List Value) (hh : A0 → A1 → A2 → A3 → A4 → A5 → A6 → HS) {body : (A0 → A1 → A2 → A3 → A4 → A5 → A6 → Option α) → A0 → A1 → A2 → A3 → A4 → A5 → A6 → Option α}
    (H : ∀ rec : A0 → A1 → A2 → A3 → A4 → A5 → A6 → Option α, (∀ (x0 : A0) (x1 : A1) (x2 : A2) (x3 : A3) (x4 : A4) (x5 : A5) (x6 : A6), Sim sc M cv pc (ls x0 x1 x2 x3 x4 x5 x6) st (hh x0 x1 x2 x3 x4 x5 x6) (rec x0 x1 x2 x3 x4 x5 x6)) → ∀ (x0 : A0) (x1 : A1) (x2 : A2) (x3 : A3) (x4 : A4) (x5 : A5) (x6 : A6), Sim sc M cv pc (ls x0 x1 x2 x3 x4 x5 x6) st (hh x0 x1 x2 x3 x4 x5 x6) (body rec x0 x1 x2 x3 x4 x5 x6)) : ∀ (f : Nat) (x0 : A0) (x1 : A1) (x2 : A2) (x3 : A3) (x4 : A4) (x5 : A5) (x6 : A6), Sim sc M cv pc (ls x0 x1 x2 x3 x4 x5 x6) st (hh x0 x1 x2 x3 x4 x5 x6) (loop7 body f x0 x1 x2 x3 x4 x5 x6)
  | 0, x0, x1, x2, x3, x4, x5, x6 => s_none
  | f + 1, x0, x1, x2, x3, x4, x5, x6 => H (loop7 body f) (s_loop7 ls hh H f) x0 x1 x2 x3 x4 x5 x6
def loop8 {A0 A1 A2 A3 A4 A5 A6 A7 γ : Type} (body : (A0 → A1 → A2 → A3 → A4 → A5 → A6 → A7 → Option γ) → A0 → A1 → A2 → A3 → A4 → A5 → A6 → A7 → Option γ) : Nat → A0 → A1 → A2 → A3 → A4 → A5 → A6 → A7 → Option γ
  | 0, _, _, _, _, _, _, _, _ => none
  | f + 1, x0, x1, x2, x3, x4, x5, x6, x7 => body (loop8 body f) x0 x1 x2 x3 x4 x5 x6 x7
theorem s_loop8 {α A0 A1 A2 A3 A4 A5 A6 A7 : Type} {sc : Option (Nat × (Nat → Int32))} {M : MI} {cv : α → Option Value × HS} {pc : Nat} {st : List Value} (ls : A0 → A1 → A2 → A3 → A4 → A5 → A6 → A7 → List Value) (hh : A0 → A1 → A2 → A3 → A4 → A5 → A6 → A7 → HS) {body : (A0 → A1 → A2 → A3 → A4 → A5 → A6 → A7 → Option α) → A0 → A1 → A2 → A3 → A4 → A5 → A6 → A7 → Option α}
    (H : ∀ rec : A0 → A1 → A2 → A3 → A4 → A5 → A6 → A7 → Option α, (∀ (x0 : A0) (x1 : A1) (x2 : A2) (x3 : A3) (x4 : A4) (x5 : A5) (x6 : A6) (x7 : A7), Sim sc M cv pc (ls x0 x1 x2 x3 x4 x5 x6 x7) st (hh x0 x1 x2 x3 x4 x5 x6 x7) (rec x0 x1 x2 x3 x4 x5 x6 x7)) → ∀ (x0 : A0) (x1 : A1) (x2 : A2) (x3 : A3) (x4 : A4) (x5 : A5) (x6 : A6) (x7 : A7), Sim sc M cv pc (ls x0 x1 x2 x3 x4 x5 x6 x7) st (hh x0 x1 x2 x3 x4 x5 x6 x7) (body rec x0 x1 x2 x3 x4 x5 x6 x7)) : ∀ (f : Nat) (x0 : A0) (x1 : A1) (x2 : A2) (x3 : A3) (x4 : A4) (x5 : A5) (x6 : A6) (x7 : A7), Sim sc M cv pc (ls x0 x1 x2 x3 x4 x5 x6 x7) st (hh x0 x1 x2 x3 x4 x5 x6 x7) (loop8 body f x0 x1 x2 x3 x4 x5 x6 x7)
  | 0, x0, x1, x2, x3, x4, x5, x6, x7 => s_none
  | f + 1, x0, x1, x2, x3, x4, x5, x6, x7 => H (loop8 body f) (s_loop8 ls hh H f) x0 x1 x2 x3 x4 x5 x6 x7
def loop9 {A0 A1 A2 A3 A4 A5 A6 A7 A8 γ : Type} (body : (A0 → A1 → A2 → A3 → A4 → A5 → A6 → A7 → A8 → Option γ) → A0 → A1 → A2 → A3 → A4 → A5 → A6 → A7 → A8 → Option γ) : Nat → A0 → A1 → A2 → A3 → A4 → A5 → A6 → A7 → A8 → Option γ
  | 0, _, _, _, _, _, _, _, _, _ => none
  | f + 1, x0, x1, x2, x3, x4, x5, x6, x7, x8 => body (loop9 body f) x0 x1 x2 x3 x4 x5 x6 x7 x8
theorem s_loop9 {α A0 A1 A2 A3 A4 A5 A6 A7 A8 : Type} {sc : Option (Nat × (Nat → Int32))} {M : MI} {cv : α → Option Value × HS} {pc : Nat} {st : List Value} (ls : A0 → A1 → A2 → A3 → A4 → A5 → A6 → A7 → A8 → List Value) (hh : A0 → A1 → A2 → A3 → A4 → A5 → A6 → A7 → A8 → HS) {body : (A0 → A1 → A2 → A3 → A4 → A5 → A6 → A7 → A8 → Option α) → A0 → A1 → A2 → A3 → A4 → A5 → A6 → A7 → A8 → Option α}
    (H : ∀ rec : A0 → A1 → A2 → A3 → A4 → A5 → A6 → A7 → A8 → Option α, (∀ (x0 : A0) (x1 : A1) (x2 : A2) (x3 : A3) (x4 : A4) (x5 : A5) (x6 : A6) (x7 : A7) (x8 : A8), Sim sc M cv pc (ls x0 x1 x2 x3 x4 x5 x6 x7 x8) st (hh x0 x1 x2 x3 x4 x5 x6 x7 x8) (rec x0 x1 x2 x3 x4 x5 x6 x7 x8)) → ∀ (x0 : A0) (x1 : A1) (x2 : A2) (x3 : A3) (x4 : A4) (x5 : A5) (x6 : A6) (x7 : A7) (x8 : A8), Sim sc M cv pc (ls x0 x1 x2 x3 x4 x5 x6 x7 x8) st (hh x0 x1 x2 x3 x4 x5 x6 x7 x8) (body rec x0 x1 x2 x3 x4 x5 x6 x7 x8)) : ∀ (f : Nat) (x0 : A0) (x1 : A1) (x2 : A2) (x3 : A3) (x4 : A4) (x5 : A5) (x6 : A6) (x7 : A7) (x8 : A8), Sim sc M cv pc (ls x0 x1 x2 x3 x4 x5 x6 x7 x8) st (hh x0 x1 x2 x3 x4 x5 x6 x7 x8) (loop9 body f x0 x1 x2 x3 x4 x5 x6 x7 x8)
  | 0, x0, x1, x2, x3, x4, x5, x6, x7, x8 => s_none
  | f + 1, x0, x1, x2, x3, x4, x5, x6, x7, x8 => H (loop9 body f) (s_loop9 ls hh H f) x0 x1 x2 x3 x4 x5 x6 x7 x8
