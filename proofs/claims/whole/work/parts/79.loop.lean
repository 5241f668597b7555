/-! the law's loop -/
set_option maxRecDepth 20000 in
def lawB (L : Nat) (xs : Nat → Int32) (rec3 : Int32 → HS → Option (Bool × HS)) (i1 : Int32) (h2 : HS) : Option (Bool × HS) :=
  if ((Int32.ofNat L) - 5) < i1 then (some (true, h2)) else (bd (if inB i1 L = true then some (xs (i1).toNatClampNeg) else none) fun r5 => jn (fun (h6 : HS) => rec3 (i1 + 5) h6) (fun j7 => if (r5 &&& 31) = 0 then (bd (if inB (i1 + 1) L = true then some (xs ((i1 + 1)).toNatClampNeg) else none) fun r196 => bd2 (f_X4_write h2 r196) fun r197 h198 => bd (if inB (i1 + 1) L = true then some (xs ((i1 + 1)).toNatClampNeg) else none) fun r199 => bd2 (f_X5_write h198 r199) fun r200 h201 => if r197 = r200 then (j7 h201) else (some (false, h201))) else (if (r5 &&& 31) = 1 then (bd2 (f_X4_wipe h2) fun r192 h193 => bd2 (f_X5_wipe h193) fun r194 h195 => if r192 = r194 then (j7 h195) else (some (false, h195))) else (if (r5 &&& 31) = 2 then (bd2 (f_X4_fault h2) fun r188 h189 => bd2 (f_X5_fault h189) fun r190 h191 => if r188 = r190 then (j7 h191) else (some (false, h191))) else (if (r5 &&& 31) = 3 then (bd2 (f_X4_court h2) fun r184 h185 => bd2 (f_X5_court h185) fun r186 h187 => if r184 = r186 then (j7 h187) else (some (false, h187))) else (if (r5 &&& 31) = 4 then (bd (if inB (i1 + 1) L = true then some (xs ((i1 + 1)).toNatClampNeg) else none) fun r178 => bd (if inB (i1 + 2) L = true then some (xs ((i1 + 2)).toNatClampNeg) else none) fun r179 => bd (f_X4_person h2 r178 r179) fun r180 => bd (if inB (i1 + 1) L = true then some (xs ((i1 + 1)).toNatClampNeg) else none) fun r181 => bd (if inB (i1 + 2) L = true then some (xs ((i1 + 2)).toNatClampNeg) else none) fun r182 => bd (f_X5_person h2 r181 r182) fun r183 => if r180 = r183 then (j7 h2) else (some (false, h2))) else (if (r5 &&& 31) = 5 then (bd (if inB (i1 + 1) L = true then some (xs ((i1 + 1)).toNatClampNeg) else none) fun r172 => bd (if inB (i1 + 2) L = true then some (xs ((i1 + 2)).toNatClampNeg) else none) fun r173 => bd (f_X4_matter h2 r172 r173) fun r174 => bd (if inB (i1 + 1) L = true then some (xs ((i1 + 1)).toNatClampNeg) else none) fun r175 => bd (if inB (i1 + 2) L = true then some (xs ((i1 + 2)).toNatClampNeg) else none) fun r176 => bd (f_X5_matter h2 r175 r176) fun r177 => if r174 = r177 then (j7 h2) else (some (false, h2))) else (if (r5 &&& 31) = 6 then (bd (if inB (i1 + 1) L = true then some (xs ((i1 + 1)).toNatClampNeg) else none) fun r164 => bd (if inB (i1 + 2) L = true then some (xs ((i1 + 2)).toNatClampNeg) else none) fun r165 => bd (if inB (i1 + 3) L = true then some (xs ((i1 + 3)).toNatClampNeg) else none) fun r166 => bd (f_X4_says h2 r164 r165 r166) fun r167 => bd (if inB (i1 + 1) L = true then some (xs ((i1 + 1)).toNatClampNeg) else none) fun r168 => bd (if inB (i1 + 2) L = true then some (xs ((i1 + 2)).toNatClampNeg) else none) fun r169 => bd (if inB (i1 + 3) L = true then some (xs ((i1 + 3)).toNatClampNeg) else none) fun r170 => bd (f_X5_says h2 r168 r169 r170) fun r171 => if r167 = r171 then (j7 h2) else (some (false, h2))) else (if (r5 &&& 31) = 7 then (bd (if inB (i1 + 1) L = true then some (xs ((i1 + 1)).toNatClampNeg) else none) fun r156 => bd (if inB (i1 + 2) L = true then some (xs ((i1 + 2)).toNatClampNeg) else none) fun r157 => bd2 (f_X4_show h2 r156 r157) fun r158 h159 => bd (if inB (i1 + 1) L = true then some (xs ((i1 + 1)).toNatClampNeg) else none) fun r160 => bd (if inB (i1 + 2) L = true then some (xs ((i1 + 2)).toNatClampNeg) else none) fun r161 => bd2 (f_X5_show h159 r160 r161) fun r162 h163 => if r158 = r162 then (j7 h163) else (some (false, h163))) else (if (r5 &&& 31) = 8 then (bd (if inB (i1 + 1) L = true then some (xs ((i1 + 1)).toNatClampNeg) else none) fun r146 => bd (if inB (i1 + 2) L = true then some (xs ((i1 + 2)).toNatClampNeg) else none) fun r147 => bd (if inB (i1 + 3) L = true then some (xs ((i1 + 3)).toNatClampNeg) else none) fun r148 => bd2 (f_X4_swear h2 r146 r147 r148) fun r149 h150 => bd (if inB (i1 + 1) L = true then some (xs ((i1 + 1)).toNatClampNeg) else none) fun r151 => bd (if inB (i1 + 2) L = true then some (xs ((i1 + 2)).toNatClampNeg) else none) fun r152 => bd (if inB (i1 + 3) L = true then some (xs ((i1 + 3)).toNatClampNeg) else none) fun r153 => bd2 (f_X5_swear h150 r151 r152 r153) fun r154 h155 => if r149 = r154 then (j7 h155) else (some (false, h155))) else (if (r5 &&& 31) = 9 then (bd (if inB (i1 + 1) L = true then some (xs ((i1 + 1)).toNatClampNeg) else none) fun r140 => bd2 (f_X4_deny h2 r140) fun r141 h142 => bd (if inB (i1 + 1) L = true then some (xs ((i1 + 1)).toNatClampNeg) else none) fun r143 => bd2 (f_X5_deny h142 r143) fun r144 h145 => if r141 = r144 then (j7 h145) else (some (false, h145))) else (if (r5 &&& 31) = 10 then (bd (if inB (i1 + 1) L = true then some (xs ((i1 + 1)).toNatClampNeg) else none) fun r134 => bd2 (f_X4_drop h2 r134) fun r135 h136 => bd (if inB (i1 + 1) L = true then some (xs ((i1 + 1)).toNatClampNeg) else none) fun r137 => bd2 (f_X5_drop h136 r137) fun r138 h139 => if r135 = r138 then (j7 h139) else (some (false, h139))) else (if (r5 &&& 31) = 11 then (bd2 (f_X4_undo h2) fun r130 h131 => bd2 (f_X5_undo h131) fun r132 h133 => if r130 = r132 then (j7 h133) else (some (false, h133))) else (if (r5 &&& 31) = 12 then (bd (if inB (i1 + 1) L = true then some (xs ((i1 + 1)).toNatClampNeg) else none) fun r124 => bd (if inB (i1 + 2) L = true then some (xs ((i1 + 2)).toNatClampNeg) else none) fun r125 => bd (f_X4_couples h2 r124 r125) fun r126 => bd (if inB (i1 + 1) L = true then some (xs ((i1 + 1)).toNatClampNeg) else none) fun r127 => bd (if inB (i1 + 2) L = true then some (xs ((i1 + 2)).toNatClampNeg) else none) fun r128 => bd (f_X5_couples h2 r127 r128) fun r129 => if r126 = r129 then (j7 h2) else (some (false, h2))) else (if (r5 &&& 31) = 13 then (bd (f_X4_cover h2) fun r122 => bd (f_X5_cover h2) fun r123 => if r122 = r123 then (j7 h2) else (some (false, h2))) else (if (r5 &&& 31) = 14 then (bd (if inB (i1 + 1) L = true then some (xs ((i1 + 1)).toNatClampNeg) else none) fun r118 => bd (f_X4_silence h2 r118) fun r119 => bd (if inB (i1 + 1) L = true then some (xs ((i1 + 1)).toNatClampNeg) else none) fun r120 => bd (f_X5_silence h2 r120) fun r121 => if r119 = r121 then (j7 h2) else (some (false, h2))) else (if (r5 &&& 31) = 15 then (bd (if inB (i1 + 1) L = true then some (xs ((i1 + 1)).toNatClampNeg) else none) fun r106 => jn (fun (t107 : Int32) => bd2 (f_X4_match h2 t107) fun r110 h111 => bd (if inB (i1 + 1) L = true then some (xs ((i1 + 1)).toNatClampNeg) else none) fun r112 => jn (fun (t113 : Int32) => bd2 (f_X5_match h111 t113) fun r116 h117 => if r110 = r116 then (j7 h117) else (some (false, h117))) (fun j114 => if r112 = 0 then (j114 0) else (j114 1))) (fun j108 => if r106 = 0 then (j108 0) else (j108 1))) else (if (r5 &&& 31) = 16 then (bd (if inB (i1 + 1) L = true then some (xs ((i1 + 1)).toNatClampNeg) else none) fun r98 => bd (if inB (i1 + 2) L = true then some (xs ((i1 + 2)).toNatClampNeg) else none) fun r99 => bd2 (f_X4_judge h2 r98 r99) fun r100 h101 => bd (if inB (i1 + 1) L = true then some (xs ((i1 + 1)).toNatClampNeg) else none) fun r102 => bd (if inB (i1 + 2) L = true then some (xs ((i1 + 2)).toNatClampNeg) else none) fun r103 => bd2 (f_X5_judge h101 r102 r103) fun r104 h105 => if r100 = r104 then (j7 h105) else (some (false, h105))) else (if (r5 &&& 31) = 17 then (bd (if inB (i1 + 1) L = true then some (xs ((i1 + 1)).toNatClampNeg) else none) fun r88 => bd (if inB (i1 + 2) L = true then some (xs ((i1 + 2)).toNatClampNeg) else none) fun r89 => bd (if inB (i1 + 3) L = true then some (xs ((i1 + 3)).toNatClampNeg) else none) fun r90 => bd2 (f_X4_hear h2 r88 r89 r90) fun r91 h92 => bd (if inB (i1 + 1) L = true then some (xs ((i1 + 1)).toNatClampNeg) else none) fun r93 => bd (if inB (i1 + 2) L = true then some (xs ((i1 + 2)).toNatClampNeg) else none) fun r94 => bd (if inB (i1 + 3) L = true then some (xs ((i1 + 3)).toNatClampNeg) else none) fun r95 => bd2 (f_X5_hear h92 r93 r94 r95) fun r96 h97 => if r91 = r96 then (j7 h97) else (some (false, h97))) else (if (r5 &&& 31) = 18 then (bd2 (f_X4_unhear h2) fun r84 h85 => bd2 (f_X5_unhear h85) fun r86 h87 => if r84 = r86 then (j7 h87) else (some (false, h87))) else (if (r5 &&& 31) = 19 then (bd (if inB (i1 + 1) L = true then some (xs ((i1 + 1)).toNatClampNeg) else none) fun r76 => bd (if inB (i1 + 2) L = true then some (xs ((i1 + 2)).toNatClampNeg) else none) fun r77 => bd (if inB (i1 + 3) L = true then some (xs ((i1 + 3)).toNatClampNeg) else none) fun r78 => bd (f_X4_values h2 r76 r77 r78) fun r79 => bd (if inB (i1 + 1) L = true then some (xs ((i1 + 1)).toNatClampNeg) else none) fun r80 => bd (if inB (i1 + 2) L = true then some (xs ((i1 + 2)).toNatClampNeg) else none) fun r81 => bd (if inB (i1 + 3) L = true then some (xs ((i1 + 3)).toNatClampNeg) else none) fun r82 => bd (f_X5_values h2 r80 r81 r82) fun r83 => if r79 = r83 then (j7 h2) else (some (false, h2))) else (if (r5 &&& 31) = 20 then (bd (if inB (i1 + 1) L = true then some (xs ((i1 + 1)).toNatClampNeg) else none) fun r64 => bd (if inB (i1 + 2) L = true then some (xs ((i1 + 2)).toNatClampNeg) else none) fun r65 => jn (fun (t66 : Int32) => bd (f_X4_share h2 r64 t66) fun r69 => bd (if inB (i1 + 1) L = true then some (xs ((i1 + 1)).toNatClampNeg) else none) fun r70 => bd (if inB (i1 + 2) L = true then some (xs ((i1 + 2)).toNatClampNeg) else none) fun r71 => jn (fun (t72 : Int32) => bd (f_X5_share h2 r70 t72) fun r75 => if r69 = r75 then (j7 h2) else (some (false, h2))) (fun j73 => if r71 = 0 then (j73 0) else (j73 1))) (fun j67 => if r65 = 0 then (j67 0) else (j67 1))) else (if (r5 &&& 31) = 21 then (bd (if inB (i1 + 1) L = true then some (xs ((i1 + 1)).toNatClampNeg) else none) fun r54 => bd (if inB (i1 + 2) L = true then some (xs ((i1 + 2)).toNatClampNeg) else none) fun r55 => bd (if inB (i1 + 3) L = true then some (xs ((i1 + 3)).toNatClampNeg) else none) fun r56 => bd (if inB (i1 + 4) L = true then some (xs ((i1 + 4)).toNatClampNeg) else none) fun r57 => bd (f_X4_rests h2 r54 r55 r56 r57) fun r58 => bd (if inB (i1 + 1) L = true then some (xs ((i1 + 1)).toNatClampNeg) else none) fun r59 => bd (if inB (i1 + 2) L = true then some (xs ((i1 + 2)).toNatClampNeg) else none) fun r60 => bd (if inB (i1 + 3) L = true then some (xs ((i1 + 3)).toNatClampNeg) else none) fun r61 => bd (if inB (i1 + 4) L = true then some (xs ((i1 + 4)).toNatClampNeg) else none) fun r62 => bd (f_X5_rests h2 r59 r60 r61 r62) fun r63 => if r58 = r63 then (j7 h2) else (some (false, h2))) else (if (r5 &&& 31) = 22 then (bd (if inB (i1 + 1) L = true then some (xs ((i1 + 1)).toNatClampNeg) else none) fun r40 => bd (if inB (i1 + 2) L = true then some (xs ((i1 + 2)).toNatClampNeg) else none) fun r41 => bd (if inB (i1 + 3) L = true then some (xs ((i1 + 3)).toNatClampNeg) else none) fun r42 => jn (fun (t43 : Int32) => bd (f_X4_come h2 r40 r41 t43) fun r46 => bd (if inB (i1 + 1) L = true then some (xs ((i1 + 1)).toNatClampNeg) else none) fun r47 => bd (if inB (i1 + 2) L = true then some (xs ((i1 + 2)).toNatClampNeg) else none) fun r48 => bd (if inB (i1 + 3) L = true then some (xs ((i1 + 3)).toNatClampNeg) else none) fun r49 => jn (fun (t50 : Int32) => bd (f_X5_come h2 r47 r48 t50) fun r53 => if r46 = r53 then (j7 h2) else (some (false, h2))) (fun j51 => if r49 = 0 then (j51 0) else (j51 1))) (fun j44 => if r42 = 0 then (j44 0) else (j44 1))) else (if (r5 &&& 31) = 23 then (bd (if inB (i1 + 1) L = true then some (xs ((i1 + 1)).toNatClampNeg) else none) fun r32 => bd (if inB (i1 + 2) L = true then some (xs ((i1 + 2)).toNatClampNeg) else none) fun r33 => bd2 (f_X4_seed h2 (((Int32.toInt64 r32) <<< ((32 : Int32).toInt64 &&& 63)) ||| ((Int32.toInt64 r33) &&& 4294967295))) fun r34 h35 => bd (if inB (i1 + 1) L = true then some (xs ((i1 + 1)).toNatClampNeg) else none) fun r36 => bd (if inB (i1 + 2) L = true then some (xs ((i1 + 2)).toNatClampNeg) else none) fun r37 => bd2 (f_X5_seed h35 (((Int32.toInt64 r36) <<< ((32 : Int32).toInt64 &&& 63)) ||| ((Int32.toInt64 r37) &&& 4294967295))) fun r38 h39 => if (lg_cmp r34 r38) = 0 then (j7 h39) else (some (false, h39))) else (if (r5 &&& 31) = 24 then (bd (if inB (i1 + 1) L = true then some (xs ((i1 + 1)).toNatClampNeg) else none) fun r26 => bd2 (f_X4_years h2 r26) fun r27 h28 => bd (if inB (i1 + 1) L = true then some (xs ((i1 + 1)).toNatClampNeg) else none) fun r29 => bd2 (f_X5_years h28 r29) fun r30 h31 => if r27 = r30 then (j7 h31) else (some (false, h31))) else (if (r5 &&& 31) = 25 then (bd (if inB (i1 + 1) L = true then some (xs ((i1 + 1)).toNatClampNeg) else none) fun r20 => bd2 (f_X4_keep h2 r20) fun r21 h22 => bd (if inB (i1 + 1) L = true then some (xs ((i1 + 1)).toNatClampNeg) else none) fun r23 => bd2 (f_X5_keep h22 r23) fun r24 h25 => if r21 = r24 then (j7 h25) else (some (false, h25))) else (if (r5 &&& 31) = 26 then (bd (if inB (i1 + 1) L = true then some (xs ((i1 + 1)).toNatClampNeg) else none) fun r14 => bd2 (f_X4_again h2 r14) fun r15 h16 => bd (if inB (i1 + 1) L = true then some (xs ((i1 + 1)).toNatClampNeg) else none) fun r17 => bd2 (f_X5_again h16 r17) fun r18 h19 => if r15 = r18 then (j7 h19) else (some (false, h19))) else (if (r5 &&& 31) = 27 then (bd (if inB (i1 + 1) L = true then some (xs ((i1 + 1)).toNatClampNeg) else none) fun r10 => bd (f_X4_count h2 r10) fun r11 => bd (if inB (i1 + 1) L = true then some (xs ((i1 + 1)).toNatClampNeg) else none) fun r12 => bd (f_X5_count h2 r12) fun r13 => if r11 = r13 then (j7 h2) else (some (false, h2))) else (j7 h2))))))))))))))))))))))))))))))
set_option maxRecDepth 20000 in
theorem f_law_e (L : Nat) (xs : Nat → Int32) (h : HS) : f_law L xs h = loop2 (lawB L xs) 400 0 h := rfl
theorem lg_self (r : Int64) : lg_cmp r r = 0 := by
  unfold lg_cmp
  rw [if_neg (Int64.lt_irrefl), if_pos rfl]
set_option maxRecDepth 20000 in
theorem law_step {L : Nat} {xs : Nat → Int32} {rec3 : Int32 → HS → Option (Bool × HS)} {i1 : Int32} {h : HS} {a0 a1 a2 a3 a4 : Int32} (I : IV h) (hl : ¬ ((Int32.ofNat L) - 5) < i1) (E0 : (if inB i1 L = true then some (xs (i1).toNatClampNeg) else none) = some a0) (E1 : (if inB (i1 + 1) L = true then some (xs ((i1 + 1)).toNatClampNeg) else none) = some a1) (E2 : (if inB (i1 + 2) L = true then some (xs ((i1 + 2)).toNatClampNeg) else none) = some a2) (E3 : (if inB (i1 + 3) L = true then some (xs ((i1 + 3)).toNatClampNeg) else none) = some a3) (E4 : (if inB (i1 + 4) L = true then some (xs ((i1 + 4)).toNatClampNeg) else none) = some a4) (hr : ∀ h', IV h' → ∃ h'', rec3 (i1 + 5) h' = some (true, h'')) : ∃ h'', lawB L xs rec3 i1 h = some (true, h'') := by
  obtain ⟨n, m, I'⟩ := id I
  have B := I'.1
  obtain ⟨q, HH⟩ := I'.2.2.1
  unfold lawB
  rw [if_neg hl, E0, bd_s, jn_e]
  by_cases q0 : (a0 &&& 31) = 0
  · obtain ⟨r, h1, h2, e4, e5, I2⟩ := st_write I a1
    replace e4 : f_X4_write h a1 = some (r, h1) := e4
    replace e5 : f_X5_write h1 a1 = some (r, h2) := e5
    rw [if_pos q0, E1, bd_s, e4, bd2_s, bd_s, e5, bd2_s, if_pos rfl]
    exact hr _ I2
  rw [if_neg q0]
  by_cases q1 : (a0 &&& 31) = 1
  · obtain ⟨r, h1, h2, e4, e5, I2⟩ := st_wipe I
    replace e4 : f_X4_wipe h = some (r, h1) := e4
    replace e5 : f_X5_wipe h1 = some (r, h2) := e5
    rw [if_pos q1, e4, bd2_s, e5, bd2_s, if_pos rfl]
    exact hr _ I2
  rw [if_neg q1]
  by_cases q2 : (a0 &&& 31) = 2
  · obtain ⟨r, h1, h2, e4, e5, I2⟩ := st_fault I
    replace e4 : f_X4_fault h = some (r, h1) := e4
    replace e5 : f_X5_fault h1 = some (r, h2) := e5
    rw [if_pos q2, e4, bd2_s, e5, bd2_s, if_pos rfl]
    exact hr _ I2
  rw [if_neg q2]
  by_cases q3 : (a0 &&& 31) = 3
  · obtain ⟨r, h1, h2, e4, e5, I2⟩ := st_court I
    replace e4 : f_X4_court h = some (r, h1) := e4
    replace e5 : f_X5_court h1 = some (r, h2) := e5
    rw [if_pos q3, e4, bd2_s, e5, bd2_s, if_pos rfl]
    exact hr _ I2
  rw [if_neg q3]
  by_cases q4 : (a0 &&& 31) = 4
  · obtain ⟨r, e4, e5⟩ := q_person B a1 a2
    rw [if_pos q4, E1, bd_s, E2, bd_s, e4, bd_s, bd_s, bd_s, e5, bd_s, if_pos rfl]
    exact hr _ I
  rw [if_neg q4]
  by_cases q5 : (a0 &&& 31) = 5
  · obtain ⟨r, e4, e5⟩ := q_matter B a1 a2
    rw [if_pos q5, E1, bd_s, E2, bd_s, e4, bd_s, bd_s, bd_s, e5, bd_s, if_pos rfl]
    exact hr _ I
  rw [if_neg q5]
  by_cases q6 : (a0 &&& 31) = 6
  · obtain ⟨r, e4, e5⟩ := q_says B a1 a2 a3
    rw [if_pos q6, E1, bd_s, E2, bd_s, E3, bd_s, e4, bd_s, bd_s, bd_s, bd_s, e5, bd_s, if_pos rfl]
    exact hr _ I
  rw [if_neg q6]
  by_cases q7 : (a0 &&& 31) = 7
  · obtain ⟨r, h1, h2, e4, e5, I2⟩ := st_show I a1 a2
    replace e4 : f_X4_show h a1 a2 = some (r, h1) := e4
    replace e5 : f_X5_show h1 a1 a2 = some (r, h2) := e5
    rw [if_pos q7, E1, bd_s, E2, bd_s, e4, bd2_s, bd_s, bd_s, e5, bd2_s, if_pos rfl]
    exact hr _ I2
  rw [if_neg q7]
  by_cases q8 : (a0 &&& 31) = 8
  · obtain ⟨r, h1, h2, e4, e5, I2⟩ := st_swear I a1 a2 a3
    replace e4 : f_X4_swear h a1 a2 a3 = some (r, h1) := e4
    replace e5 : f_X5_swear h1 a1 a2 a3 = some (r, h2) := e5
    rw [if_pos q8, E1, bd_s, E2, bd_s, E3, bd_s, e4, bd2_s, bd_s, bd_s, bd_s, e5, bd2_s, if_pos rfl]
    exact hr _ I2
  rw [if_neg q8]
  by_cases q9 : (a0 &&& 31) = 9
  · obtain ⟨r, h1, h2, e4, e5, I2⟩ := st_deny I a1
    replace e4 : f_X4_deny h a1 = some (r, h1) := e4
    replace e5 : f_X5_deny h1 a1 = some (r, h2) := e5
    rw [if_pos q9, E1, bd_s, e4, bd2_s, bd_s, e5, bd2_s, if_pos rfl]
    exact hr _ I2
  rw [if_neg q9]
  by_cases q10 : (a0 &&& 31) = 10
  · obtain ⟨r, h1, h2, e4, e5, I2⟩ := st_drop I a1
    replace e4 : f_X4_drop h a1 = some (r, h1) := e4
    replace e5 : f_X5_drop h1 a1 = some (r, h2) := e5
    rw [if_pos q10, E1, bd_s, e4, bd2_s, bd_s, e5, bd2_s, if_pos rfl]
    exact hr _ I2
  rw [if_neg q10]
  by_cases q11 : (a0 &&& 31) = 11
  · obtain ⟨r, h1, h2, e4, e5, I2⟩ := st_undo I
    replace e4 : f_X4_undo h = some (r, h1) := e4
    replace e5 : f_X5_undo h1 = some (r, h2) := e5
    rw [if_pos q11, e4, bd2_s, e5, bd2_s, if_pos rfl]
    exact hr _ I2
  rw [if_neg q11]
  by_cases q12 : (a0 &&& 31) = 12
  · obtain ⟨r, e4, e5⟩ := q_couples B a1 a2
    rw [if_pos q12, E1, bd_s, E2, bd_s, e4, bd_s, bd_s, bd_s, e5, bd_s, if_pos rfl]
    exact hr _ I
  rw [if_neg q12]
  by_cases q13 : (a0 &&& 31) = 13
  · obtain ⟨r, e4, e5⟩ := q_cover B
    rw [if_pos q13, e4, bd_s, e5, bd_s, if_pos rfl]
    exact hr _ I
  rw [if_neg q13]
  by_cases q14 : (a0 &&& 31) = 14
  · obtain ⟨r, e4, e5⟩ := q_silence B a1
    rw [if_pos q14, E1, bd_s, e4, bd_s, bd_s, e5, bd_s, if_pos rfl]
    exact hr _ I
  rw [if_neg q14]
  by_cases q15 : (a0 &&& 31) = 15
  · rw [if_pos q15, E1, bd_s, jn_e]
    by_cases z : a1 = 0
    · obtain ⟨r, h1, h2, e4, e5, I2⟩ := st_match I 0 (by decide)
      replace e4 : f_X4_match h 0 = some (r, h1) := e4
      replace e5 : f_X5_match h1 0 = some (r, h2) := e5
      rw [if_pos z]
      dsimp only
      rw [e4, bd2_s, bd_s, jn_e, if_pos z]
      dsimp only
      rw [e5, bd2_s, if_pos rfl]
      exact hr _ I2
    · obtain ⟨r, h1, h2, e4, e5, I2⟩ := st_match I 1 (by decide)
      replace e4 : f_X4_match h 1 = some (r, h1) := e4
      replace e5 : f_X5_match h1 1 = some (r, h2) := e5
      rw [if_neg z]
      dsimp only
      rw [e4, bd2_s, bd_s, jn_e, if_neg z]
      dsimp only
      rw [e5, bd2_s, if_pos rfl]
      exact hr _ I2
  rw [if_neg q15]
  by_cases q16 : (a0 &&& 31) = 16
  · obtain ⟨r, h1, h2, e4, e5, I2⟩ := st_judge I a1 a2
    replace e4 : f_X4_judge h a1 a2 = some (r, h1) := e4
    replace e5 : f_X5_judge h1 a1 a2 = some (r, h2) := e5
    rw [if_pos q16, E1, bd_s, E2, bd_s, e4, bd2_s, bd_s, bd_s, e5, bd2_s, if_pos rfl]
    exact hr _ I2
  rw [if_neg q16]
  by_cases q17 : (a0 &&& 31) = 17
  · obtain ⟨r, h1, h2, e4, e5, I2⟩ := st_hear I a1 a2 a3
    replace e4 : f_X4_hear h a1 a2 a3 = some (r, h1) := e4
    replace e5 : f_X5_hear h1 a1 a2 a3 = some (r, h2) := e5
    rw [if_pos q17, E1, bd_s, E2, bd_s, E3, bd_s, e4, bd2_s, bd_s, bd_s, bd_s, e5, bd2_s, if_pos rfl]
    exact hr _ I2
  rw [if_neg q17]
  by_cases q18 : (a0 &&& 31) = 18
  · obtain ⟨r, h1, h2, e4, e5, I2⟩ := st_unhear I
    replace e4 : f_X4_unhear h = some (r, h1) := e4
    replace e5 : f_X5_unhear h1 = some (r, h2) := e5
    rw [if_pos q18, e4, bd2_s, e5, bd2_s, if_pos rfl]
    exact hr _ I2
  rw [if_neg q18]
  by_cases q19 : (a0 &&& 31) = 19
  · obtain ⟨r, e4, e5⟩ := q_values B HH a1 a2 a3
    rw [if_pos q19, E1, bd_s, E2, bd_s, E3, bd_s, e4, bd_s, bd_s, bd_s, bd_s, e5, bd_s, if_pos rfl]
    exact hr _ I
  rw [if_neg q19]
  by_cases q20 : (a0 &&& 31) = 20
  · rw [if_pos q20, E1, bd_s, E2, bd_s, jn_e]
    by_cases z : a2 = 0
    · obtain ⟨r, e4, e5⟩ := q_share B a1 0
      rw [if_pos z]
      dsimp only
      rw [e4, bd_s, bd_s, bd_s, jn_e, if_pos z]
      dsimp only
      rw [e5, bd_s, if_pos rfl]
      exact hr _ I
    · obtain ⟨r, e4, e5⟩ := q_share B a1 1
      rw [if_neg z]
      dsimp only
      rw [e4, bd_s, bd_s, bd_s, jn_e, if_neg z]
      dsimp only
      rw [e5, bd_s, if_pos rfl]
      exact hr _ I
  rw [if_neg q20]
  by_cases q21 : (a0 &&& 31) = 21
  · obtain ⟨r, e4, e5⟩ := q_rests B a1 a2 a3 a4
    rw [if_pos q21, E1, bd_s, E2, bd_s, E3, bd_s, E4, bd_s, e4, bd_s, bd_s, bd_s, bd_s, bd_s, e5, bd_s, if_pos rfl]
    exact hr _ I
  rw [if_neg q21]
  by_cases q22 : (a0 &&& 31) = 22
  · rw [if_pos q22, E1, bd_s, E2, bd_s, E3, bd_s, jn_e]
    by_cases z : a3 = 0
    · obtain ⟨r, e4, e5⟩ := q_come B a1 a2 0
      rw [if_pos z]
      dsimp only
      rw [e4, bd_s, bd_s, bd_s, bd_s, jn_e, if_pos z]
      dsimp only
      rw [e5, bd_s, if_pos rfl]
      exact hr _ I
    · obtain ⟨r, e4, e5⟩ := q_come B a1 a2 1
      rw [if_neg z]
      dsimp only
      rw [e4, bd_s, bd_s, bd_s, bd_s, jn_e, if_neg z]
      dsimp only
      rw [e5, bd_s, if_pos rfl]
      exact hr _ I
  rw [if_neg q22]
  by_cases q23 : (a0 &&& 31) = 23
  · obtain ⟨r, h1, h2, e4, e5, I2⟩ := st_seed I (((Int32.toInt64 a1) <<< ((32 : Int32).toInt64 &&& 63)) ||| ((Int32.toInt64 a2) &&& 4294967295))
    replace e4 : f_X4_seed h (((Int32.toInt64 a1) <<< ((32 : Int32).toInt64 &&& 63)) ||| ((Int32.toInt64 a2) &&& 4294967295)) = some (r, h1) := e4
    replace e5 : f_X5_seed h1 (((Int32.toInt64 a1) <<< ((32 : Int32).toInt64 &&& 63)) ||| ((Int32.toInt64 a2) &&& 4294967295)) = some (r, h2) := e5
    rw [if_pos q23, E1, bd_s, E2, bd_s, e4, bd2_s, bd_s, bd_s, e5, bd2_s, if_pos (lg_self r)]
    exact hr _ I2
  rw [if_neg q23]
  by_cases q24 : (a0 &&& 31) = 24
  · obtain ⟨r, h1, h2, e4, e5, I2⟩ := st_years I a1
    replace e4 : f_X4_years h a1 = some (r, h1) := e4
    replace e5 : f_X5_years h1 a1 = some (r, h2) := e5
    rw [if_pos q24, E1, bd_s, e4, bd2_s, bd_s, e5, bd2_s, if_pos rfl]
    exact hr _ I2
  rw [if_neg q24]
  by_cases q25 : (a0 &&& 31) = 25
  · obtain ⟨r, h1, h2, e4, e5, I2⟩ := st_keep I a1
    replace e4 : f_X4_keep h a1 = some (r, h1) := e4
    replace e5 : f_X5_keep h1 a1 = some (r, h2) := e5
    rw [if_pos q25, E1, bd_s, e4, bd2_s, bd_s, e5, bd2_s, if_pos rfl]
    exact hr _ I2
  rw [if_neg q25]
  by_cases q26 : (a0 &&& 31) = 26
  · obtain ⟨r, h1, h2, e4, e5, I2⟩ := st_again I a1
    replace e4 : f_X4_again h a1 = some (r, h1) := e4
    replace e5 : f_X5_again h1 a1 = some (r, h2) := e5
    rw [if_pos q26, E1, bd_s, e4, bd2_s, bd_s, e5, bd2_s, if_pos rfl]
    exact hr _ I2
  rw [if_neg q26]
  by_cases q27 : (a0 &&& 31) = 27
  · obtain ⟨r, e4, e5⟩ := q_count B HH (by obtain ⟨len, t1, t2, -, -⟩ := I'.2.2.2.1; rw [t1, t2]) (by obtain ⟨x, c, ⟨-, -, t1, t2, -⟩, -⟩ := I'.2.1; rw [t1, t2]) a1
    rw [if_pos q27, E1, bd_s, e4, bd_s, bd_s, e5, bd_s, if_pos rfl]
    exact hr _ I
  rw [if_neg q27]
  exact hr _ I
theorem IV0 : IV hs0 := by
  have z : ∀ b k, ¬ (b = 38 ∧ 13 ≤ k ∧ k ≤ 16) → hs0.1 b k = 0 := fun b k z => by
    show (if b = 38 then (upd (upd (upd (upd zI 13 (-9)) 14 (-9)) 15 (-9)) 16 (-9)) else zI) k = 0
    by_cases q : b = 38
    · rw [if_pos q, upd_n _ _ (by omega), upd_n _ _ (by omega), upd_n _ _ (by omega), upd_n _ _ (by omega)]; rfl
    · rw [if_neg q]; rfl
  refine ⟨0, 0, ⟨⟨⟨?_, ?_, by omega, by omega⟩, ?_, fun p hp => by omega, fun j hj => by omega, fun j hj => by omega, fun p hp => by omega, fun j hj => by omega⟩, ⟨fun p hp => by omega, fun p hp => by omega⟩, ?_, ?_⟩, ⟨0, 0, ⟨by omega, by omega, ?_, ?_, ?_⟩, fun i hi => by omega⟩, ⟨0, ⟨?_, ?_, by omega⟩, fun k hk => by omega⟩, ⟨0, ?_, ?_, by omega, fun j hj => by omega⟩, fun s hs => ⟨?_, fun w => ?_⟩, rfl⟩
  · rw [z _ _ (by omega)]; rfl
  · rw [z _ _ (by omega)]; rfl
  · rw [z _ _ (by omega), lv0, z _ _ (by omega)]
  · rw [z _ _ (by omega)]; rfl
  · rw [z _ _ (by omega)]; rfl
  · rw [z _ _ (by omega)]; rfl
  · rw [z _ _ (by omega)]; rfl
  · rw [z _ _ (by omega)]; rfl
  · rw [z _ _ (by omega)]; rfl
  · rw [z _ _ (by omega)]; rfl
  · rw [z _ _ (by omega)]; rfl
  · rw [z _ _ (by omega)]; rfl
  · rw [z _ _ (by omega), z _ _ (by omega), bt_0]; rfl
  · exact absurd (z _ _ (by omega)) w
theorem law_run (L : Nat) (xs : Nat → Int32) (hL : L ≤ 320) : ∀ fuel t h, IV h → L < 5 * (t + fuel) → (t = 0 ∨ 5 * t ≤ L) → ∃ h', loop2 (lawB L xs) fuel (nI (5 * t)) h = some (true, h') := by
  intro fuel
  induction fuel with
  | zero => intro t h I h1 h2; omega
  | succ fuel ih =>
    intro t h I h1 h2
    unfold loop2
    have eL : ((Int32.ofNat L) - 5).toInt = (L : Int) - 5 := by
      by_cases l5 : L < 5
      · have : ∀ L, L < 5 → ((Int32.ofNat L) - 5).toInt = (L : Int) - 5 := by decide +kernel
        exact this L l5
      · have e1 : (Int32.ofNat L) - 5 = nI (L - 5) := by
          show nI L - 5 = _
          rw [show (5 : Int32) = nI 5 by decide +kernel, nI_sub (by omega)]
        rw [e1, nI_toInt (by omega)]
        omega
    by_cases q : ((Int32.ofNat L) - 5) < nI (5 * t)
    · refine ⟨h, ?_⟩
      unfold lawB
      rw [if_pos q]
    · have q2 : 5 * t + 5 ≤ L := by
        rw [Int32.lt_iff_toInt_lt, eL, nI_toInt (by omega)] at q
        omega
      have rdk : ∀ k, k < 5 → (if inB (nI (5 * t + k)) L = true then some (xs (nI (5 * t + k)).toNatClampNeg) else none) = some (xs (nI (5 * t + k)).toNatClampNeg) := fun k hk => by
        rw [inB_nd (by omega) (by omega), decide_eq_true (by omega), if_pos rfl]
      have ek : ∀ k : Nat, nI (5 * t) + nI k = nI (5 * t + k) := fun k => nI_add _ _
      refine law_step (a0 := xs (nI (5 * t + 0)).toNatClampNeg) (a1 := xs (nI (5 * t + 1)).toNatClampNeg) (a2 := xs (nI (5 * t + 2)).toNatClampNeg) (a3 := xs (nI (5 * t + 3)).toNatClampNeg) (a4 := xs (nI (5 * t + 4)).toNatClampNeg) I q (rdk 0 (by omega)) (by rw [one_nI, ek]; exact rdk 1 (by omega)) (by rw [L2, ek]; exact rdk 2 (by omega)) (by rw [show (3 : Int32) = nI 3 by decide +kernel, ek]; exact rdk 3 (by omega)) (by rw [L4, ek]; exact rdk 4 (by omega)) fun h' I2 => ?_
      rw [show (5 : Int32) = nI 5 by decide +kernel, ek, show 5 * t + 5 = 5 * (t + 1) by omega]
      exact ih (t + 1) h' I2 (by omega) (Or.inr (by omega))
theorem law_true (L : Nat) (xs : Nat → Int32) (hL : L ≤ 320) : ∃ h, f_law L xs hs0 = some (true, h) := by
  rw [f_law_e]
  have := law_run L xs hL 400 0 hs0 IV0 (by omega) (Or.inl rfl)
  rw [Nat.mul_zero, nI_0] at this
  exact this
