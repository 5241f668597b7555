theorem st_match {h : HS} (I : IV h) (p : Int32) (hp : p = 0 ∨ p = 1) : St (fun h => f_X4_match h p) (fun h => f_X5_match h p) h := by
  sorry
theorem st_fault {h : HS} (I : IV h) : St (fun h => f_X4_fault h) (fun h => f_X5_fault h) h := by
  sorry
theorem st_court {h : HS} (I : IV h) : St (fun h => f_X4_court h) (fun h => f_X5_court h) h := by
  sorry
