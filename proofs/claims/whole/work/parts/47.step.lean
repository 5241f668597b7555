/-! one step of the pure reading, by what the letters are -/
section STP
variable {T : Nat → Int32} {len i n m : Nat} {f hl : Nat → Int32}
theorem rdP_b0 (hi : i < len) (hb : bgn n m f (T i) = false) (d : Nat) : (rdP T len (d + 1) i (n, m, f, hl)).1 = nI i := by
  unfold rdP
  rw [if_pos hi, if_neg (show ¬ bgn n m f (T i) = true by rw [hb]; decide)]
theorem rdP_2 (hi : i < len) (hb : bgn n m f (T i) = true) (B : ¬ i + 1 < len ∨ (i + 1 < len ∧ (inB (T (i + 1) - 48) 10 = false ∨ ∃ j, j < 10 ∧ T (i + 1) - 48 = nI j ∧ gon n m f (T i) j = false))) (d : Nat) : (rdP T len (d + 1) i (n, m, f, hl)).1 = nI (i + 1) := by
  unfold rdP
  rw [if_pos hi, if_pos (show bgn n m f (T i) = true from hb)]
  rcases B with z | ⟨q, z | ⟨j, hj, ej, z⟩⟩
  · rw [if_neg z, show len = i + 1 by omega]
  · rw [if_pos q, fgo_n z]
  · rw [if_pos q, ej, fgo_i hj]
    show (if gon n m f (T i) j = true then _ else _ : Int32 × (Nat × Nat × (Nat → Int32) × (Nat → Int32))).1 = _
    rw [if_neg (show ¬ gon n m f (T i) j = true by rw [z]; decide)]
theorem rdP_3 (hi : i < len) (hb : bgn n m f (T i) = true) {p : Nat} (hp : p < 10) (q1 : i + 1 < len) (ep : T (i + 1) - 48 = nI p) (hg : gon n m f (T i) p = true) (B : ¬ i + 2 < len ∨ (i + 2 < len ∧ (inB (T (i + 2) - 48) 10 = false ∨ ∃ j, j < 10 ∧ T (i + 2) - 48 = nI j ∧ tkB n m f (T i) p j = false))) (d : Nat) : (rdP T len (d + 1) i (n, m, f, hl)).1 = nI (i + 2) := by
  unfold rdP
  rw [if_pos hi, if_pos (show bgn n m f (T i) = true from hb), if_pos q1, ep, fgo_i hp]
  show (if gon n m f (T i) p = true then _ else _ : Int32 × (Nat × Nat × (Nat → Int32) × (Nat → Int32))).1 = _
  rw [if_pos hg]
  rcases B with z | ⟨q, z | ⟨j, hj, ej, z⟩⟩
  · rw [if_neg z, show len = i + 2 by omega]
  · rw [if_pos q, fgo_n z]
  · rw [if_pos q, ej, fgo_i hj]
    show (if tkB n m f (T i) p j = true then _ else _ : Int32 × (Nat × Nat × (Nat → Int32) × (Nat → Int32))).1 = _
    rw [if_neg (show ¬ tkB n m f (T i) p j = true by rw [z]; decide)]
theorem rdP_ok (hi : i < len) (hb : bgn n m f (T i) = true) {p : Nat} (hp : p < 10) (q1 : i + 2 < len) (ep : T (i + 1) - 48 = nI p) (hg : gon n m f (T i) p = true) {j : Nat} (hj : j < 10) (ej : T (i + 2) - 48 = nI j) (ht : tkB n m f (T i) p j = true) (d : Nat) : rdP T len (d + 1) i (n, m, f, hl) = rdP T len d (i + 3) (tkS n m f hl (T i) p j) := by
  rw [rdP]
  rw [if_pos hi, if_pos (show bgn n m f (T i) = true from hb), if_pos (show i + 1 < len by omega), ep, fgo_i hp]
  show (if gon n m f (T i) p = true then _ else _ : Int32 × (Nat × Nat × (Nat → Int32) × (Nat → Int32))) = _
  rw [if_pos hg, if_pos q1, ej, fgo_i hj]
  show (if tkB n m f (T i) p j = true then _ else _ : Int32 × (Nat × Nat × (Nat → Int32) × (Nat → Int32))) = _
  rw [if_pos ht]
end STP
