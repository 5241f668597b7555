section
-- ===== PART A: goes FIRST, ahead of the names: the tables' words, and 'selects' of the private methods out of them =====
/-- a private method of a class that the tables say can be made, by its rows of tables_1 -/
def lw_okq (q : MethodName × Nat) : Prop := (q.1.cls ≠ "java/lang/invoke/MethodHandle" ∧ q.1.cls ≠ "java/lang/invoke/VarHandle") ∧ Cond.instantiable q.1.cls q.2 ∈ tables_1 ∧ Cond.privateMethod q.1 ∈ tables_1 ∧ Cond.instanceMethod q.1 ∈ tables_1
theorem lw_p0 : lw_okq (⟨"HalfTruths", "bestRow", "()I"⟩, 10) := ⟨⟨by decide +kernel, by decide +kernel⟩, List.mem_of_getElem? (i := 10) (by decide +kernel), List.mem_of_getElem? (i := 411) (by decide +kernel), List.mem_of_getElem? (i := 412) (by decide +kernel)⟩
theorem lw_p1 : lw_okq (⟨"HalfTruths", "bestRowIn", "(I)I"⟩, 10) := ⟨⟨by decide +kernel, by decide +kernel⟩, List.mem_of_getElem? (i := 10) (by decide +kernel), List.mem_of_getElem? (i := 415) (by decide +kernel), List.mem_of_getElem? (i := 416) (by decide +kernel)⟩
theorem lw_p2 : lw_okq (⟨"HalfTruths", "standingRow", "(I)I"⟩, 10) := ⟨⟨by decide +kernel, by decide +kernel⟩, List.mem_of_getElem? (i := 10) (by decide +kernel), List.mem_of_getElem? (i := 422) (by decide +kernel), List.mem_of_getElem? (i := 423) (by decide +kernel)⟩
theorem lw_p3 : lw_okq (⟨"HalfTruths", "ordersWithAhead", "(I)I"⟩, 10) := ⟨⟨by decide +kernel, by decide +kernel⟩, List.mem_of_getElem? (i := 10) (by decide +kernel), List.mem_of_getElem? (i := 497) (by decide +kernel), List.mem_of_getElem? (i := 498) (by decide +kernel)⟩
theorem lw_p4 : lw_okq (⟨"HalfTruths", "isContent", "(IIIII)Z"⟩, 10) := ⟨⟨by decide +kernel, by decide +kernel⟩, List.mem_of_getElem? (i := 10) (by decide +kernel), List.mem_of_getElem? (i := 511) (by decide +kernel), List.mem_of_getElem? (i := 512) (by decide +kernel)⟩
theorem lw_p5 : lw_okq (⟨"HalfTruths", "gainOf", "(IIIII)I"⟩, 10) := ⟨⟨by decide +kernel, by decide +kernel⟩, List.mem_of_getElem? (i := 10) (by decide +kernel), List.mem_of_getElem? (i := 515) (by decide +kernel), List.mem_of_getElem? (i := 516) (by decide +kernel)⟩
theorem lw_p6 : lw_okq (⟨"HalfTruths", "keptIn", "(I)LHalfTruths$Court;"⟩, 10) := ⟨⟨by decide +kernel, by decide +kernel⟩, List.mem_of_getElem? (i := 10) (by decide +kernel), List.mem_of_getElem? (i := 549) (by decide +kernel), List.mem_of_getElem? (i := 550) (by decide +kernel)⟩
theorem lw_p7 : lw_okq (⟨"HalfTruthsModel", "readText", "()I"⟩, 24) := ⟨⟨by decide +kernel, by decide +kernel⟩, List.mem_of_getElem? (i := 574) (by decide +kernel), List.mem_of_getElem? (i := 670) (by decide +kernel), List.mem_of_getElem? (i := 671) (by decide +kernel)⟩
theorem lw_p8 : lw_okq (⟨"HalfTruthsModel", "readPart", "(I)V"⟩, 24) := ⟨⟨by decide +kernel, by decide +kernel⟩, List.mem_of_getElem? (i := 574) (by decide +kernel), List.mem_of_getElem? (i := 674) (by decide +kernel), List.mem_of_getElem? (i := 675) (by decide +kernel)⟩
theorem lw_p9 : lw_okq (⟨"HalfTruthsModel", "figureOf", "(I)I"⟩, 24) := ⟨⟨by decide +kernel, by decide +kernel⟩, List.mem_of_getElem? (i := 574) (by decide +kernel), List.mem_of_getElem? (i := 678) (by decide +kernel), List.mem_of_getElem? (i := 679) (by decide +kernel)⟩
theorem lw_p10 : lw_okq (⟨"HalfTruthsModel", "firstsLeft", "()I"⟩, 24) := ⟨⟨by decide +kernel, by decide +kernel⟩, List.mem_of_getElem? (i := 574) (by decide +kernel), List.mem_of_getElem? (i := 686) (by decide +kernel), List.mem_of_getElem? (i := 687) (by decide +kernel)⟩
theorem lw_p11 : lw_okq (⟨"HalfTruthsModel", "left", "(I)I"⟩, 24) := ⟨⟨by decide +kernel, by decide +kernel⟩, List.mem_of_getElem? (i := 574) (by decide +kernel), List.mem_of_getElem? (i := 690) (by decide +kernel), List.mem_of_getElem? (i := 691) (by decide +kernel)⟩
theorem lw_p12 : lw_okq (⟨"HalfTruthsModel", "isPerson", "(I)Z"⟩, 24) := ⟨⟨by decide +kernel, by decide +kernel⟩, List.mem_of_getElem? (i := 574) (by decide +kernel), List.mem_of_getElem? (i := 704) (by decide +kernel), List.mem_of_getElem? (i := 705) (by decide +kernel)⟩
theorem lw_p13 : lw_okq (⟨"HalfTruthsModel", "isMatter", "(I)Z"⟩, 24) := ⟨⟨by decide +kernel, by decide +kernel⟩, List.mem_of_getElem? (i := 574) (by decide +kernel), List.mem_of_getElem? (i := 712) (by decide +kernel), List.mem_of_getElem? (i := 713) (by decide +kernel)⟩
theorem lw_p14 : lw_okq (⟨"HalfTruthsModel", "seeing", "(III)I"⟩, 24) := ⟨⟨by decide +kernel, by decide +kernel⟩, List.mem_of_getElem? (i := 574) (by decide +kernel), List.mem_of_getElem? (i := 716) (by decide +kernel), List.mem_of_getElem? (i := 717) (by decide +kernel)⟩
theorem lw_p15 : lw_okq (⟨"HalfTruthsModel", "sees", "(IIII)Z"⟩, 24) := ⟨⟨by decide +kernel, by decide +kernel⟩, List.mem_of_getElem? (i := 574) (by decide +kernel), List.mem_of_getElem? (i := 720) (by decide +kernel), List.mem_of_getElem? (i := 721) (by decide +kernel)⟩
def lw_privs_1 : List (MethodName × Nat) := [(⟨"HalfTruths", "bestRow", "()I"⟩, 10), (⟨"HalfTruths", "bestRowIn", "(I)I"⟩, 10), (⟨"HalfTruths", "standingRow", "(I)I"⟩, 10), (⟨"HalfTruths", "ordersWithAhead", "(I)I"⟩, 10), (⟨"HalfTruths", "isContent", "(IIIII)Z"⟩, 10), (⟨"HalfTruths", "gainOf", "(IIIII)I"⟩, 10), (⟨"HalfTruths", "keptIn", "(I)LHalfTruths$Court;"⟩, 10), (⟨"HalfTruthsModel", "readText", "()I"⟩, 24), (⟨"HalfTruthsModel", "readPart", "(I)V"⟩, 24), (⟨"HalfTruthsModel", "figureOf", "(I)I"⟩, 24), (⟨"HalfTruthsModel", "firstsLeft", "()I"⟩, 24), (⟨"HalfTruthsModel", "left", "(I)I"⟩, 24), (⟨"HalfTruthsModel", "isPerson", "(I)Z"⟩, 24), (⟨"HalfTruthsModel", "isMatter", "(I)Z"⟩, 24), (⟨"HalfTruthsModel", "seeing", "(III)I"⟩, 24), (⟨"HalfTruthsModel", "sees", "(IIII)Z"⟩, 24)]
theorem lw_r1 : ∀ q ∈ lw_privs_1, lw_okq q := List.forall_mem_cons.mpr ⟨lw_p0, List.forall_mem_cons.mpr ⟨lw_p1, List.forall_mem_cons.mpr ⟨lw_p2, List.forall_mem_cons.mpr ⟨lw_p3, List.forall_mem_cons.mpr ⟨lw_p4, List.forall_mem_cons.mpr ⟨lw_p5, List.forall_mem_cons.mpr ⟨lw_p6, List.forall_mem_cons.mpr ⟨lw_p7, List.forall_mem_cons.mpr ⟨lw_p8, List.forall_mem_cons.mpr ⟨lw_p9, List.forall_mem_cons.mpr ⟨lw_p10, List.forall_mem_cons.mpr ⟨lw_p11, List.forall_mem_cons.mpr ⟨lw_p12, List.forall_mem_cons.mpr ⟨lw_p13, List.forall_mem_cons.mpr ⟨lw_p14, List.forall_mem_cons.mpr ⟨lw_p15, fun _ h => absurd h List.not_mem_nil⟩⟩⟩⟩⟩⟩⟩⟩⟩⟩⟩⟩⟩⟩⟩⟩
theorem lw_p16 : lw_okq (⟨"HalfTruthsModel", "saysOn", "(IIII)I"⟩, 24) := ⟨⟨by decide +kernel, by decide +kernel⟩, List.mem_of_getElem? (i := 574) (by decide +kernel), List.mem_of_getElem? (i := 728) (by decide +kernel), List.mem_of_getElem? (i := 729) (by decide +kernel)⟩
theorem lw_p17 : lw_okq (⟨"HalfTruthsModel", "canShow", "(III)Z"⟩, 24) := ⟨⟨by decide +kernel, by decide +kernel⟩, List.mem_of_getElem? (i := 574) (by decide +kernel), List.mem_of_getElem? (i := 736) (by decide +kernel), List.mem_of_getElem? (i := 737) (by decide +kernel)⟩
theorem lw_p18 : lw_okq (⟨"HalfTruthsModel", "keepAct", "()V"⟩, 24) := ⟨⟨by decide +kernel, by decide +kernel⟩, List.mem_of_getElem? (i := 574) (by decide +kernel), List.mem_of_getElem? (i := 740) (by decide +kernel), List.mem_of_getElem? (i := 741) (by decide +kernel)⟩
theorem lw_p19 : lw_okq (⟨"HalfTruthsModel", "canSwear", "(IIII)Z"⟩, 24) := ⟨⟨by decide +kernel, by decide +kernel⟩, List.mem_of_getElem? (i := 574) (by decide +kernel), List.mem_of_getElem? (i := 748) (by decide +kernel), List.mem_of_getElem? (i := 749) (by decide +kernel)⟩
theorem lw_p20 : lw_okq (⟨"HalfTruthsModel", "isCouple", "(IIII)Z"⟩, 24) := ⟨⟨by decide +kernel, by decide +kernel⟩, List.mem_of_getElem? (i := 574) (by decide +kernel), List.mem_of_getElem? (i := 752) (by decide +kernel), List.mem_of_getElem? (i := 753) (by decide +kernel)⟩
theorem lw_p21 : lw_okq (⟨"HalfTruthsModel", "sworn", "(IIII)I"⟩, 24) := ⟨⟨by decide +kernel, by decide +kernel⟩, List.mem_of_getElem? (i := 574) (by decide +kernel), List.mem_of_getElem? (i := 756) (by decide +kernel), List.mem_of_getElem? (i := 757) (by decide +kernel)⟩
theorem lw_p22 : lw_okq (⟨"HalfTruthsModel", "canDrop", "(II)Z"⟩, 24) := ⟨⟨by decide +kernel, by decide +kernel⟩, List.mem_of_getElem? (i := 574) (by decide +kernel), List.mem_of_getElem? (i := 768) (by decide +kernel), List.mem_of_getElem? (i := 769) (by decide +kernel)⟩
theorem lw_p23 : lw_okq (⟨"HalfTruthsModel", "dropOn", "(II)V"⟩, 24) := ⟨⟨by decide +kernel, by decide +kernel⟩, List.mem_of_getElem? (i := 574) (by decide +kernel), List.mem_of_getElem? (i := 772) (by decide +kernel), List.mem_of_getElem? (i := 773) (by decide +kernel)⟩
theorem lw_p24 : lw_okq (⟨"HalfTruthsModel", "every", "()I"⟩, 24) := ⟨⟨by decide +kernel, by decide +kernel⟩, List.mem_of_getElem? (i := 574) (by decide +kernel), List.mem_of_getElem? (i := 789) (by decide +kernel), List.mem_of_getElem? (i := 790) (by decide +kernel)⟩
theorem lw_p25 : lw_okq (⟨"HalfTruthsModel", "canBe", "(II)I"⟩, 24) := ⟨⟨by decide +kernel, by decide +kernel⟩, List.mem_of_getElem? (i := 574) (by decide +kernel), List.mem_of_getElem? (i := 793) (by decide +kernel), List.mem_of_getElem? (i := 794) (by decide +kernel)⟩
theorem lw_p26 : lw_okq (⟨"HalfTruthsModel", "isBy", "(III)Z"⟩, 24) := ⟨⟨by decide +kernel, by decide +kernel⟩, List.mem_of_getElem? (i := 574) (by decide +kernel), List.mem_of_getElem? (i := 797) (by decide +kernel), List.mem_of_getElem? (i := 798) (by decide +kernel)⟩
theorem lw_p27 : lw_okq (⟨"HalfTruthsModel", "layEdges", "()I"⟩, 24) := ⟨⟨by decide +kernel, by decide +kernel⟩, List.mem_of_getElem? (i := 574) (by decide +kernel), List.mem_of_getElem? (i := 812) (by decide +kernel), List.mem_of_getElem? (i := 813) (by decide +kernel)⟩
theorem lw_p28 : lw_okq (⟨"HalfTruthsModel", "rowOf", "(II)I"⟩, 24) := ⟨⟨by decide +kernel, by decide +kernel⟩, List.mem_of_getElem? (i := 574) (by decide +kernel), List.mem_of_getElem? (i := 816) (by decide +kernel), List.mem_of_getElem? (i := 817) (by decide +kernel)⟩
theorem lw_p29 : lw_okq (⟨"HalfTruthsModel", "toldOf", "(I)I"⟩, 24) := ⟨⟨by decide +kernel, by decide +kernel⟩, List.mem_of_getElem? (i := 574) (by decide +kernel), List.mem_of_getElem? (i := 820) (by decide +kernel), List.mem_of_getElem? (i := 821) (by decide +kernel)⟩
theorem lw_p30 : lw_okq (⟨"HalfTruthsModel", "layTrial", "()V"⟩, 24) := ⟨⟨by decide +kernel, by decide +kernel⟩, List.mem_of_getElem? (i := 574) (by decide +kernel), List.mem_of_getElem? (i := 832) (by decide +kernel), List.mem_of_getElem? (i := 833) (by decide +kernel)⟩
theorem lw_p31 : lw_okq (⟨"HalfTruthsModel", "tryThing", "(III)Z"⟩, 24) := ⟨⟨by decide +kernel, by decide +kernel⟩, List.mem_of_getElem? (i := 574) (by decide +kernel), List.mem_of_getElem? (i := 836) (by decide +kernel), List.mem_of_getElem? (i := 837) (by decide +kernel)⟩
def lw_privs_2 : List (MethodName × Nat) := [(⟨"HalfTruthsModel", "saysOn", "(IIII)I"⟩, 24), (⟨"HalfTruthsModel", "canShow", "(III)Z"⟩, 24), (⟨"HalfTruthsModel", "keepAct", "()V"⟩, 24), (⟨"HalfTruthsModel", "canSwear", "(IIII)Z"⟩, 24), (⟨"HalfTruthsModel", "isCouple", "(IIII)Z"⟩, 24), (⟨"HalfTruthsModel", "sworn", "(IIII)I"⟩, 24), (⟨"HalfTruthsModel", "canDrop", "(II)Z"⟩, 24), (⟨"HalfTruthsModel", "dropOn", "(II)V"⟩, 24), (⟨"HalfTruthsModel", "every", "()I"⟩, 24), (⟨"HalfTruthsModel", "canBe", "(II)I"⟩, 24), (⟨"HalfTruthsModel", "isBy", "(III)Z"⟩, 24), (⟨"HalfTruthsModel", "layEdges", "()I"⟩, 24), (⟨"HalfTruthsModel", "rowOf", "(II)I"⟩, 24), (⟨"HalfTruthsModel", "toldOf", "(I)I"⟩, 24), (⟨"HalfTruthsModel", "layTrial", "()V"⟩, 24), (⟨"HalfTruthsModel", "tryThing", "(III)Z"⟩, 24)]
theorem lw_r2 : ∀ q ∈ lw_privs_2, lw_okq q := List.forall_mem_cons.mpr ⟨lw_p16, List.forall_mem_cons.mpr ⟨lw_p17, List.forall_mem_cons.mpr ⟨lw_p18, List.forall_mem_cons.mpr ⟨lw_p19, List.forall_mem_cons.mpr ⟨lw_p20, List.forall_mem_cons.mpr ⟨lw_p21, List.forall_mem_cons.mpr ⟨lw_p22, List.forall_mem_cons.mpr ⟨lw_p23, List.forall_mem_cons.mpr ⟨lw_p24, List.forall_mem_cons.mpr ⟨lw_p25, List.forall_mem_cons.mpr ⟨lw_p26, List.forall_mem_cons.mpr ⟨lw_p27, List.forall_mem_cons.mpr ⟨lw_p28, List.forall_mem_cons.mpr ⟨lw_p29, List.forall_mem_cons.mpr ⟨lw_p30, List.forall_mem_cons.mpr ⟨lw_p31, fun _ h => absurd h List.not_mem_nil⟩⟩⟩⟩⟩⟩⟩⟩⟩⟩⟩⟩⟩⟩⟩⟩
theorem lw_p32 : lw_okq (⟨"HalfTruthsModel", "mayBe", "(IIII)Z"⟩, 24) := ⟨⟨by decide +kernel, by decide +kernel⟩, List.mem_of_getElem? (i := 574) (by decide +kernel), List.mem_of_getElem? (i := 855) (by decide +kernel), List.mem_of_getElem? (i := 856) (by decide +kernel)⟩
theorem lw_p33 : lw_okq (⟨"HalfTruthsModel", "gain", "(IZII)I"⟩, 24) := ⟨⟨by decide +kernel, by decide +kernel⟩, List.mem_of_getElem? (i := 574) (by decide +kernel), List.mem_of_getElem? (i := 873) (by decide +kernel), List.mem_of_getElem? (i := 874) (by decide +kernel)⟩
theorem lw_p34 : lw_okq (⟨"HalfTruthsModel", "known", "(Z)I"⟩, 24) := ⟨⟨by decide +kernel, by decide +kernel⟩, List.mem_of_getElem? (i := 574) (by decide +kernel), List.mem_of_getElem? (i := 897) (by decide +kernel), List.mem_of_getElem? (i := 898) (by decide +kernel)⟩
def lw_privs_3 : List (MethodName × Nat) := [(⟨"HalfTruthsModel", "mayBe", "(IIII)Z"⟩, 24), (⟨"HalfTruthsModel", "gain", "(IZII)I"⟩, 24), (⟨"HalfTruthsModel", "known", "(Z)I"⟩, 24)]
theorem lw_r3 : ∀ q ∈ lw_privs_3, lw_okq q := List.forall_mem_cons.mpr ⟨lw_p32, List.forall_mem_cons.mpr ⟨lw_p33, List.forall_mem_cons.mpr ⟨lw_p34, fun _ h => absurd h List.not_mem_nil⟩⟩⟩
def lw_privs : List (MethodName × Nat) := lw_privs_1 ++ (lw_privs_2 ++ (lw_privs_3))
def lw_tbl : List Cond := k2_sels lw_privs ++ tables_1
theorem lw_privs_ok : ∀ q ∈ lw_privs, lw_okq q := by
  show ∀ q ∈ lw_privs_1 ++ (lw_privs_2 ++ (lw_privs_3)), lw_okq q
  exact List.forall_mem_append.mpr ⟨lw_r1, List.forall_mem_append.mpr ⟨lw_r2, lw_r3⟩⟩
-- ===== end of PART A =====
end
section
def RX0 : String := "HalfTruths$ActRow"
def TX0 : u_T := fun k => match k with
  | 0 => ("HalfTruths$ActRow", "whats", "[I", true)
  | 1 => ("HalfTruths$ActRow", "subjects", "[I", true)
  | 2 => ("HalfTruths$ActRow", "besides", "[I", true)
  | _ => ("HalfTruths$ActRow", "size", "I", false)
def tyX0 : Nat → FieldType := fun k => match k with
  | 0 => .array .int
  | 1 => .array .int
  | 2 => .array .int
  | _ => .int
theorem nmX0 : ∀ a, a < 4 → ∀ b, b < 4 → a ≠ b → (TX0 a).2.1 ≠ (TX0 b).2.1 := by decide +kernel
theorem tyX0_ok : ∀ k, k < 4 → parseFieldDescriptor (TX0 k).2.2.1 = some (tyX0 k) := by decide +kernel
abbrev cX0_init : ByteArray := prog_2_method_1_code
def yX0_init : MethodName := ⟨RX0, "<init>", "()V"⟩
abbrev cX0_add : ByteArray := prog_2_method_2_code
def yX0_add : MethodName := ⟨RX0, "add", "(III)V"⟩
abbrev cX0_forgetFirst : ByteArray := prog_2_method_3_code
def yX0_forgetFirst : MethodName := ⟨RX0, "forgetFirst", "()V"⟩
abbrev cX0_takeBackLast : ByteArray := prog_2_method_4_code
def yX0_takeBackLast : MethodName := ⟨RX0, "takeBackLast", "(LHalfTruths$Court;)V"⟩
def RX1 : String := "HalfTruths$Court"
def TX1 : u_T := fun k => match k with
  | 0 => ("HalfTruths$Court", "people", "I", false)
  | 1 => ("HalfTruths$Court", "matters", "I", false)
  | 2 => ("HalfTruths$Court", "rightEyed", "I", false)
  | 3 => ("HalfTruths$Court", "liars", "I", false)
  | 4 => ("HalfTruths$Court", "children", "I", false)
  | 5 => ("HalfTruths$Court", "saints", "I", false)
  | 6 => ("HalfTruths$Court", "witnesses", "[I", true)
  | 7 => ("HalfTruths$Court", "lefts", "[I", true)
  | 8 => ("HalfTruths$Court", "rights", "[I", true)
  | 9 => ("HalfTruths$Court", "known", "[I", true)
  | _ => ("HalfTruths$Court", "fines", "[I", true)
def tyX1 : Nat → FieldType := fun k => match k with
  | 0 => .int
  | 1 => .int
  | 2 => .int
  | 3 => .int
  | 4 => .int
  | 5 => .int
  | 6 => .array .int
  | 7 => .array .int
  | 8 => .array .int
  | 9 => .array .int
  | _ => .array .int
theorem nmX1 : ∀ a, a < 11 → ∀ b, b < 11 → a ≠ b → (TX1 a).2.1 ≠ (TX1 b).2.1 := by decide +kernel
theorem tyX1_ok : ∀ k, k < 11 → parseFieldDescriptor (TX1 k).2.2.1 = some (tyX1 k) := by decide +kernel
abbrev cX1_init : ByteArray := prog_3_method_1_code
def yX1_init : MethodName := ⟨RX1, "<init>", "()V"⟩
abbrev cX1_clear : ByteArray := prog_3_method_2_code
def yX1_clear : MethodName := ⟨RX1, "clear", "()V"⟩
abbrev cX1_become : ByteArray := prog_3_method_3_code
def yX1_become : MethodName := ⟨RX1, "become", "(LHalfTruths$Court;)V"⟩
abbrev cX1_canBegin : ByteArray := prog_3_method_4_code
def yX1_canBegin : MethodName := ⟨RX1, "canBegin", "(I)Z"⟩
abbrev cX1_canGoOn : ByteArray := prog_3_method_5_code
def yX1_canGoOn : MethodName := ⟨RX1, "canGoOn", "(II)Z"⟩
abbrev cX1_takesPart : ByteArray := prog_3_method_6_code
def yX1_takesPart : MethodName := ⟨RX1, "takesPart", "(III)Z"⟩
abbrev cX1_addPerson : ByteArray := prog_3_method_7_code
def yX1_addPerson : MethodName := ⟨RX1, "addPerson", "(II)Z"⟩
abbrev cX1_addMatter : ByteArray := prog_3_method_8_code
def yX1_addMatter : MethodName := ⟨RX1, "addMatter", "(II)Z"⟩
abbrev cX1_isFigure : ByteArray := prog_3_method_9_code
def yX1_isFigure : MethodName := ⟨RX1, "isFigure", "(I)Z"⟩
abbrev cX1_canAnybodySee : ByteArray := prog_3_method_10_code
def yX1_canAnybodySee : MethodName := ⟨RX1, "canAnybodySee", "()Z"⟩
abbrev cX1_canSeeMore : ByteArray := prog_3_method_11_code
def yX1_canSeeMore : MethodName := ⟨RX1, "canSeeMore", "(I)Z"⟩
abbrev cX1_isPerson : ByteArray := prog_3_method_12_code
def yX1_isPerson : MethodName := ⟨RX1, "isPerson", "(I)Z"⟩
abbrev cX1_isMatter : ByteArray := prog_3_method_13_code
def yX1_isMatter : MethodName := ⟨RX1, "isMatter", "(I)Z"⟩
abbrev cX1_everybody : ByteArray := prog_3_method_14_code
def yX1_everybody : MethodName := ⟨RX1, "everybody", "()I"⟩
abbrev cX1_eyeOf : ByteArray := prog_3_method_15_code
def yX1_eyeOf : MethodName := ⟨RX1, "eyeOf", "(I)I"⟩
abbrev cX1_kindOf : ByteArray := prog_3_method_16_code
def yX1_kindOf : MethodName := ⟨RX1, "kindOf", "(I)I"⟩
abbrev cX1_setKind : ByteArray := prog_3_method_17_code
def yX1_setKind : MethodName := ⟨RX1, "setKind", "(II)V"⟩
abbrev cX1_seenBy : ByteArray := prog_3_method_18_code
def yX1_seenBy : MethodName := ⟨RX1, "seenBy", "(I)I"⟩
abbrev cX1_finesOf : ByteArray := prog_3_method_19_code
def yX1_finesOf : MethodName := ⟨RX1, "finesOf", "(I)I"⟩
abbrev cX1_allFines : ByteArray := prog_3_method_20_code
def yX1_allFines : MethodName := ⟨RX1, "allFines", "()I"⟩
abbrev cX1_halfOf : ByteArray := prog_3_method_21_code
def yX1_halfOf : MethodName := ⟨RX1, "halfOf", "(II)I"⟩
abbrev cX1_knownAs : ByteArray := prog_3_method_22_code
def yX1_knownAs : MethodName := ⟨RX1, "knownAs", "(I)I"⟩
abbrev cX1_knownMatters : ByteArray := prog_3_method_23_code
def yX1_knownMatters : MethodName := ⟨RX1, "knownMatters", "()I"⟩
abbrev cX1_rightlyKnownMatters : ByteArray := prog_3_method_24_code
def yX1_rightlyKnownMatters : MethodName := ⟨RX1, "rightlyKnownMatters", "()I"⟩
abbrev cX1_asItIs : ByteArray := prog_3_method_25_code
def yX1_asItIs : MethodName := ⟨RX1, "asItIs", "(I)I"⟩
abbrev cX1_witnessesOf : ByteArray := prog_3_method_26_code
def yX1_witnessesOf : MethodName := ⟨RX1, "witnessesOf", "(I)I"⟩
abbrev cX1_seersOf : ByteArray := prog_3_method_27_code
def yX1_seersOf : MethodName := ⟨RX1, "seersOf", "(II)I"⟩
abbrev cX1_saidBy : ByteArray := prog_3_method_28_code
def yX1_saidBy : MethodName := ⟨RX1, "saidBy", "(III)I"⟩
abbrev cX1_toldBy : ByteArray := prog_3_method_29_code
def yX1_toldBy : MethodName := ⟨RX1, "toldBy", "(III)I"⟩
abbrev cX1_isCouple : ByteArray := prog_3_method_30_code
def yX1_isCouple : MethodName := ⟨RX1, "isCouple", "(III)Z"⟩
abbrev cX1_areCouple : ByteArray := prog_3_method_31_code
def yX1_areCouple : MethodName := ⟨RX1, "areCouple", "(III)Z"⟩
abbrev cX1_areCoupleForSome : ByteArray := prog_3_method_32_code
def yX1_areCoupleForSome : MethodName := ⟨RX1, "areCoupleForSome", "(II)Z"⟩
abbrev cX1_couplesOf : ByteArray := prog_3_method_33_code
def yX1_couplesOf : MethodName := ⟨RX1, "couplesOf", "(IZ)I"⟩
abbrev cX1_firstCoupleOf : ByteArray := prog_3_method_34_code
def yX1_firstCoupleOf : MethodName := ⟨RX1, "firstCoupleOf", "(I)I"⟩
abbrev cX1_hasCoupleAmong : ByteArray := prog_3_method_35_code
def yX1_hasCoupleAmong : MethodName := ⟨RX1, "hasCoupleAmong", "(II)Z"⟩
abbrev cX1_knowableAmong : ByteArray := prog_3_method_36_code
def yX1_knowableAmong : MethodName := ⟨RX1, "knowableAmong", "(I)I"⟩
abbrev cX1_canSee : ByteArray := prog_3_method_37_code
def yX1_canSee : MethodName := ⟨RX1, "canSee", "(II)Z"⟩
abbrev cX1_letSee : ByteArray := prog_3_method_38_code
def yX1_letSee : MethodName := ⟨RX1, "letSee", "(II)V"⟩
abbrev cX1_letUnsee : ByteArray := prog_3_method_39_code
def yX1_letUnsee : MethodName := ⟨RX1, "letUnsee", "(II)V"⟩
abbrev cX1_canLearn : ByteArray := prog_3_method_40_code
def yX1_canLearn : MethodName := ⟨RX1, "canLearn", "(III)Z"⟩
abbrev cX1_setKnown : ByteArray := prog_3_method_41_code
def yX1_setKnown : MethodName := ⟨RX1, "setKnown", "(II)V"⟩
abbrev cX1_canLoseGlass : ByteArray := prog_3_method_42_code
def yX1_canLoseGlass : MethodName := ⟨RX1, "canLoseGlass", "(I)Z"⟩
abbrev cX1_loseGlass : ByteArray := prog_3_method_43_code
def yX1_loseGlass : MethodName := ⟨RX1, "loseGlass", "(I)V"⟩
abbrev cX1_regainGlass : ByteArray := prog_3_method_44_code
def yX1_regainGlass : MethodName := ⟨RX1, "regainGlass", "(II)V"⟩
abbrev cX1_fine : ByteArray := prog_3_method_45_code
def yX1_fine : MethodName := ⟨RX1, "fine", "(II)V"⟩
abbrev cX1_doneAsTold : ByteArray := prog_3_method_46_code
def yX1_doneAsTold : MethodName := ⟨RX1, "doneAsTold", "(I)Z"⟩
abbrev cX1_seesNow : ByteArray := prog_3_method_47_code
def yX1_seesNow : MethodName := ⟨RX1, "seesNow", "(II)Z"⟩
abbrev cX1_isForgotten : ByteArray := prog_3_method_48_code
def yX1_isForgotten : MethodName := ⟨RX1, "isForgotten", "(I)Z"⟩
abbrev cX1_losesGlass : ByteArray := prog_3_method_49_code
def yX1_losesGlass : MethodName := ⟨RX1, "losesGlass", "(I)Z"⟩
abbrev cX1_isLearnt : ByteArray := prog_3_method_50_code
def yX1_isLearnt : MethodName := ⟨RX1, "isLearnt", "(III)Z"⟩
abbrev cX1_passYear : ByteArray := prog_3_method_51_code
def yX1_passYear : MethodName := ⟨RX1, "passYear", "(I)V"⟩
def RX2 : String := "HalfTruths$Hearsay"
def TX2 : u_T := fun k => match k with
  | 0 => ("HalfTruths$Hearsay", "matters", "[I", true)
  | 1 => ("HalfTruths$Hearsay", "halves", "[I", true)
  | 2 => ("HalfTruths$Hearsay", "saids", "[I", true)
  | _ => ("HalfTruths$Hearsay", "size", "I", false)
def tyX2 : Nat → FieldType := fun k => match k with
  | 0 => .array .int
  | 1 => .array .int
  | 2 => .array .int
  | _ => .int
theorem nmX2 : ∀ a, a < 4 → ∀ b, b < 4 → a ≠ b → (TX2 a).2.1 ≠ (TX2 b).2.1 := by decide +kernel
theorem tyX2_ok : ∀ k, k < 4 → parseFieldDescriptor (TX2 k).2.2.1 = some (tyX2 k) := by decide +kernel
abbrev cX2_init : ByteArray := prog_4_method_1_code
def yX2_init : MethodName := ⟨RX2, "<init>", "()V"⟩
abbrev cX2_add : ByteArray := prog_4_method_2_code
def yX2_add : MethodName := ⟨RX2, "add", "(III)Z"⟩
abbrev cX2_allows : ByteArray := prog_4_method_3_code
def yX2_allows : MethodName := ⟨RX2, "allows", "(IIII)Z"⟩
def RX3 : String := "HalfTruths$Scroll"
def TX3 : u_T := fun k => match k with
  | 0 => ("HalfTruths$Scroll", "letters", "[I", true)
  | _ => ("HalfTruths$Scroll", "length", "I", false)
def tyX3 : Nat → FieldType := fun k => match k with
  | 0 => .array .int
  | _ => .int
theorem nmX3 : ∀ a, a < 2 → ∀ b, b < 2 → a ≠ b → (TX3 a).2.1 ≠ (TX3 b).2.1 := by decide +kernel
theorem tyX3_ok : ∀ k, k < 2 → parseFieldDescriptor (TX3 k).2.2.1 = some (tyX3 k) := by decide +kernel
abbrev cX3_init : ByteArray := prog_5_method_1_code
def yX3_init : MethodName := ⟨RX3, "<init>", "()V"⟩
abbrev cX3_add : ByteArray := prog_5_method_2_code
def yX3_add : MethodName := ⟨RX3, "add", "(I)Z"⟩
abbrev cX3_readInto : ByteArray := prog_5_method_3_code
def yX3_readInto : MethodName := ⟨RX3, "readInto", "(LHalfTruths$Court;)I"⟩
def RX4 : String := "HalfTruths"
def TX4 : u_T := fun k => match k with
  | 0 => ("HalfTruths", "text", "LHalfTruths$Scroll;", true)
  | 1 => ("HalfTruths", "court", "LHalfTruths$Court;", true)
  | 2 => ("HalfTruths", "trial", "LHalfTruths$Court;", true)
  | 3 => ("HalfTruths", "keptZero", "LHalfTruths$Court;", true)
  | 4 => ("HalfTruths", "keptOne", "LHalfTruths$Court;", true)
  | 5 => ("HalfTruths", "keptSlots", "I", false)
  | 6 => ("HalfTruths", "acts", "LHalfTruths$ActRow;", true)
  | 7 => ("HalfTruths", "heard", "LHalfTruths$Hearsay;", true)
  | 8 => ("HalfTruths", "bestRows", "[I", true)
  | _ => ("HalfTruths", "theSeed", "J", false)
def tyX4 : Nat → FieldType := fun k => match k with
  | 0 => .object "HalfTruths$Scroll"
  | 1 => .object "HalfTruths$Court"
  | 2 => .object "HalfTruths$Court"
  | 3 => .object "HalfTruths$Court"
  | 4 => .object "HalfTruths$Court"
  | 5 => .int
  | 6 => .object "HalfTruths$ActRow"
  | 7 => .object "HalfTruths$Hearsay"
  | 8 => .array .int
  | _ => .long
theorem nmX4 : ∀ a, a < 10 → ∀ b, b < 10 → a ≠ b → (TX4 a).2.1 ≠ (TX4 b).2.1 := by decide +kernel
theorem tyX4_ok : ∀ k, k < 10 → parseFieldDescriptor (TX4 k).2.2.1 = some (tyX4 k) := by decide +kernel
abbrev cX4_init : ByteArray := prog_1_method_1_code
def yX4_init : MethodName := ⟨RX4, "<init>", "()V"⟩
abbrev cX4_write : ByteArray := prog_1_method_2_code
def yX4_write : MethodName := ⟨RX4, "write", "(I)I"⟩
abbrev cX4_wipe : ByteArray := prog_1_method_3_code
def yX4_wipe : MethodName := ⟨RX4, "wipe", "()I"⟩
abbrev cX4_fault : ByteArray := prog_1_method_4_code
def yX4_fault : MethodName := ⟨RX4, "fault", "()I"⟩
abbrev cX4_court : ByteArray := prog_1_method_5_code
def yX4_court : MethodName := ⟨RX4, "court", "()I"⟩
abbrev cX4_person : ByteArray := prog_1_method_6_code
def yX4_person : MethodName := ⟨RX4, "person", "(II)I"⟩
abbrev cX4_matter : ByteArray := prog_1_method_7_code
def yX4_matter : MethodName := ⟨RX4, "matter", "(II)I"⟩
abbrev cX4_says : ByteArray := prog_1_method_8_code
def yX4_says : MethodName := ⟨RX4, "says", "(III)I"⟩
abbrev cX4_show : ByteArray := prog_1_method_9_code
def yX4_show : MethodName := ⟨RX4, "show", "(II)I"⟩
abbrev cX4_swear : ByteArray := prog_1_method_10_code
def yX4_swear : MethodName := ⟨RX4, "swear", "(III)I"⟩
abbrev cX4_deny : ByteArray := prog_1_method_11_code
def yX4_deny : MethodName := ⟨RX4, "deny", "(I)I"⟩
abbrev cX4_drop : ByteArray := prog_1_method_12_code
def yX4_drop : MethodName := ⟨RX4, "drop", "(I)I"⟩
abbrev cX4_undo : ByteArray := prog_1_method_13_code
def yX4_undo : MethodName := ⟨RX4, "undo", "()I"⟩
abbrev cX4_couples : ByteArray := prog_1_method_14_code
def yX4_couples : MethodName := ⟨RX4, "couples", "(II)I"⟩
abbrev cX4_cover : ByteArray := prog_1_method_15_code
def yX4_cover : MethodName := ⟨RX4, "cover", "()I"⟩
abbrev cX4_silence : ByteArray := prog_1_method_16_code
def yX4_silence : MethodName := ⟨RX4, "silence", "(I)I"⟩
abbrev cX4_match : ByteArray := prog_1_method_17_code
def yX4_match : MethodName := ⟨RX4, "match", "(Z)I"⟩
abbrev cX4_judge : ByteArray := prog_1_method_18_code
def yX4_judge : MethodName := ⟨RX4, "judge", "(II)I"⟩
abbrev cX4_hear : ByteArray := prog_1_method_19_code
def yX4_hear : MethodName := ⟨RX4, "hear", "(III)I"⟩
abbrev cX4_unhear : ByteArray := prog_1_method_20_code
def yX4_unhear : MethodName := ⟨RX4, "unhear", "()I"⟩
abbrev cX4_values : ByteArray := prog_1_method_21_code
def yX4_values : MethodName := ⟨RX4, "values", "(III)I"⟩
abbrev cX4_share : ByteArray := prog_1_method_22_code
def yX4_share : MethodName := ⟨RX4, "share", "(IZ)I"⟩
abbrev cX4_rests : ByteArray := prog_1_method_23_code
def yX4_rests : MethodName := ⟨RX4, "rests", "(IIII)I"⟩
abbrev cX4_come : ByteArray := prog_1_method_24_code
def yX4_come : MethodName := ⟨RX4, "come", "(IIZ)I"⟩
abbrev cX4_seed : ByteArray := prog_1_method_25_code
def yX4_seed : MethodName := ⟨RX4, "seed", "(J)J"⟩
abbrev cX4_years : ByteArray := prog_1_method_26_code
def yX4_years : MethodName := ⟨RX4, "years", "(I)I"⟩
abbrev cX4_keep : ByteArray := prog_1_method_27_code
def yX4_keep : MethodName := ⟨RX4, "keep", "(I)I"⟩
abbrev cX4_again : ByteArray := prog_1_method_28_code
def yX4_again : MethodName := ⟨RX4, "again", "(I)I"⟩
abbrev cX4_count : ByteArray := prog_1_method_29_code
def yX4_count : MethodName := ⟨RX4, "count", "(I)I"⟩
abbrev cX4_isHalf : ByteArray := prog_1_method_30_code
def yX4_isHalf : MethodName := ⟨RX4, "isHalf", "(I)Z"⟩
abbrev cX4_isSlot : ByteArray := prog_1_method_31_code
def yX4_isSlot : MethodName := ⟨RX4, "isSlot", "(I)Z"⟩
abbrev cX4_keptIn : ByteArray := prog_1_method_32_code
def yX4_keptIn : MethodName := ⟨RX4, "keptIn", "(I)LHalfTruths$Court;"⟩
abbrev cX4_isFewer : ByteArray := prog_1_method_33_code
def yX4_isFewer : MethodName := ⟨RX4, "isFewer", "(II)Z"⟩
abbrev cX4_withoutDoings : ByteArray := prog_1_method_34_code
def yX4_withoutDoings : MethodName := ⟨RX4, "withoutDoings", "(II)I"⟩
abbrev cX4_bestRow : ByteArray := prog_1_method_35_code
def yX4_bestRow : MethodName := ⟨RX4, "bestRow", "()I"⟩
abbrev cX4_bestRowIn : ByteArray := prog_1_method_36_code
def yX4_bestRowIn : MethodName := ⟨RX4, "bestRowIn", "(I)I"⟩
abbrev cX4_standingRow : ByteArray := prog_1_method_37_code
def yX4_standingRow : MethodName := ⟨RX4, "standingRow", "(I)I"⟩
abbrev cX4_leastIn : ByteArray := prog_1_method_38_code
def yX4_leastIn : MethodName := ⟨RX4, "leastIn", "(I)I"⟩
abbrev cX4_betterRow : ByteArray := prog_1_method_39_code
def yX4_betterRow : MethodName := ⟨RX4, "betterRow", "(II)I"⟩
abbrev cX4_pairsIn : ByteArray := prog_1_method_40_code
def yX4_pairsIn : MethodName := ⟨RX4, "pairsIn", "(I)I"⟩
abbrev cX4_ordersWithAhead : ByteArray := prog_1_method_41_code
def yX4_ordersWithAhead : MethodName := ⟨RX4, "ordersWithAhead", "(I)I"⟩
abbrev cX4_isContent : ByteArray := prog_1_method_42_code
def yX4_isContent : MethodName := ⟨RX4, "isContent", "(IIIII)Z"⟩
abbrev cX4_gainOf : ByteArray := prog_1_method_43_code
def yX4_gainOf : MethodName := ⟨RX4, "gainOf", "(IIIII)I"⟩
abbrev cX4_factorial : ByteArray := prog_1_method_44_code
def yX4_factorial : MethodName := ⟨RX4, "factorial", "(I)I"⟩
abbrev cX4_power : ByteArray := prog_1_method_45_code
def yX4_power : MethodName := ⟨RX4, "power", "(II)I"⟩
abbrev cX4_inLeastTerms : ByteArray := prog_1_method_46_code
def yX4_inLeastTerms : MethodName := ⟨RX4, "inLeastTerms", "(IIZ)I"⟩
def RX5 : String := "HalfTruthsModel"
def TX5 : u_T := fun k => match k with
  | 0 => ("HalfTruthsModel", "people", "I", false)
  | 1 => ("HalfTruthsModel", "matters", "I", false)
  | 2 => ("HalfTruthsModel", "half", "[I", true)
  | 3 => ("HalfTruthsModel", "now", "[I", true)
  | 4 => ("HalfTruthsModel", "readPerson", "[I", true)
  | 5 => ("HalfTruthsModel", "readMatter", "[I", true)
  | 6 => ("HalfTruthsModel", "readSaw", "[I", true)
  | 7 => ("HalfTruthsModel", "readPeople", "I", false)
  | 8 => ("HalfTruthsModel", "readMatters", "I", false)
  | 9 => ("HalfTruthsModel", "text", "[I", true)
  | 10 => ("HalfTruthsModel", "length", "I", false)
  | 11 => ("HalfTruthsModel", "at", "I", false)
  | 12 => ("HalfTruthsModel", "faultAt", "I", false)
  | 13 => ("HalfTruthsModel", "acts", "I", false)
  | 14 => ("HalfTruthsModel", "next", "I", false)
  | 15 => ("HalfTruthsModel", "row", "[I", true)
  | 16 => ("HalfTruthsModel", "edges", "[I", true)
  | 17 => ("HalfTruthsModel", "heard", "I", false)
  | 18 => ("HalfTruthsModel", "heardOf", "[I", true)
  | 19 => ("HalfTruthsModel", "heardHalf", "[I", true)
  | 20 => ("HalfTruthsModel", "heardV", "[I", true)
  | 21 => ("HalfTruthsModel", "seed", "J", false)
  | 22 => ("HalfTruthsModel", "isKept", "[Z", true)
  | _ => ("HalfTruthsModel", "kept", "[I", true)
def tyX5 : Nat → FieldType := fun k => match k with
  | 0 => .int
  | 1 => .int
  | 2 => .array .int
  | 3 => .array .int
  | 4 => .array .int
  | 5 => .array .int
  | 6 => .array .int
  | 7 => .int
  | 8 => .int
  | 9 => .array .int
  | 10 => .int
  | 11 => .int
  | 12 => .int
  | 13 => .int
  | 14 => .int
  | 15 => .array .int
  | 16 => .array .int
  | 17 => .int
  | 18 => .array .int
  | 19 => .array .int
  | 20 => .array .int
  | 21 => .long
  | 22 => .array .boolean
  | _ => .array .int
theorem nmX5 : ∀ a, a < 24 → ∀ b, b < 24 → a ≠ b → (TX5 a).2.1 ≠ (TX5 b).2.1 := by decide +kernel
theorem tyX5_ok : ∀ k, k < 24 → parseFieldDescriptor (TX5 k).2.2.1 = some (tyX5 k) := by decide +kernel
abbrev cX5_init : ByteArray := prog_7_method_1_code
def yX5_init : MethodName := ⟨RX5, "<init>", "()V"⟩
abbrev cX5_in : ByteArray := prog_7_method_3_code
def yX5_in : MethodName := ⟨RX5, "in", "(JJJ)Z"⟩
abbrev cX5_has : ByteArray := prog_7_method_4_code
def yX5_has : MethodName := ⟨RX5, "has", "(II)Z"⟩
abbrev cX5_ones : ByteArray := prog_7_method_5_code
def yX5_ones : MethodName := ⟨RX5, "ones", "(I)I"⟩
abbrev cX5_write : ByteArray := prog_7_method_6_code
def yX5_write : MethodName := ⟨RX5, "write", "(I)I"⟩
abbrev cX5_wipe : ByteArray := prog_7_method_7_code
def yX5_wipe : MethodName := ⟨RX5, "wipe", "()I"⟩
abbrev cX5_figureOf : ByteArray := prog_7_method_8_code
def yX5_figureOf : MethodName := ⟨RX5, "figureOf", "(I)I"⟩
abbrev cX5_left : ByteArray := prog_7_method_9_code
def yX5_left : MethodName := ⟨RX5, "left", "(I)I"⟩
abbrev cX5_firstsLeft : ByteArray := prog_7_method_10_code
def yX5_firstsLeft : MethodName := ⟨RX5, "firstsLeft", "()I"⟩
abbrev cX5_readText : ByteArray := prog_7_method_11_code
def yX5_readText : MethodName := ⟨RX5, "readText", "()I"⟩
abbrev cX5_readPart : ByteArray := prog_7_method_12_code
def yX5_readPart : MethodName := ⟨RX5, "readPart", "(I)V"⟩
abbrev cX5_fault : ByteArray := prog_7_method_13_code
def yX5_fault : MethodName := ⟨RX5, "fault", "()I"⟩
abbrev cX5_court : ByteArray := prog_7_method_14_code
def yX5_court : MethodName := ⟨RX5, "court", "()I"⟩
abbrev cX5_isPerson : ByteArray := prog_7_method_15_code
def yX5_isPerson : MethodName := ⟨RX5, "isPerson", "(I)Z"⟩
abbrev cX5_isMatter : ByteArray := prog_7_method_16_code
def yX5_isMatter : MethodName := ⟨RX5, "isMatter", "(I)Z"⟩
abbrev cX5_every : ByteArray := prog_7_method_17_code
def yX5_every : MethodName := ⟨RX5, "every", "()I"⟩
abbrev cX5_sees : ByteArray := prog_7_method_18_code
def yX5_sees : MethodName := ⟨RX5, "sees", "(IIII)Z"⟩
abbrev cX5_seeing : ByteArray := prog_7_method_19_code
def yX5_seeing : MethodName := ⟨RX5, "seeing", "(III)I"⟩
abbrev cX5_saysOn : ByteArray := prog_7_method_20_code
def yX5_saysOn : MethodName := ⟨RX5, "saysOn", "(IIII)I"⟩
abbrev cX5_isCouple : ByteArray := prog_7_method_21_code
def yX5_isCouple : MethodName := ⟨RX5, "isCouple", "(IIII)Z"⟩
abbrev cX5_isBy : ByteArray := prog_7_method_22_code
def yX5_isBy : MethodName := ⟨RX5, "isBy", "(III)Z"⟩
abbrev cX5_canBe : ByteArray := prog_7_method_23_code
def yX5_canBe : MethodName := ⟨RX5, "canBe", "(II)I"⟩
abbrev cX5_person : ByteArray := prog_7_method_24_code
def yX5_person : MethodName := ⟨RX5, "person", "(II)I"⟩
abbrev cX5_matter : ByteArray := prog_7_method_25_code
def yX5_matter : MethodName := ⟨RX5, "matter", "(II)I"⟩
abbrev cX5_says : ByteArray := prog_7_method_26_code
def yX5_says : MethodName := ⟨RX5, "says", "(III)I"⟩
abbrev cX5_keepAct : ByteArray := prog_7_method_27_code
def yX5_keepAct : MethodName := ⟨RX5, "keepAct", "()V"⟩
abbrev cX5_canShow : ByteArray := prog_7_method_28_code
def yX5_canShow : MethodName := ⟨RX5, "canShow", "(III)Z"⟩
abbrev cX5_show : ByteArray := prog_7_method_29_code
def yX5_show : MethodName := ⟨RX5, "show", "(II)I"⟩
abbrev cX5_canSwear : ByteArray := prog_7_method_30_code
def yX5_canSwear : MethodName := ⟨RX5, "canSwear", "(IIII)Z"⟩
abbrev cX5_sworn : ByteArray := prog_7_method_31_code
def yX5_sworn : MethodName := ⟨RX5, "sworn", "(IIII)I"⟩
abbrev cX5_swear : ByteArray := prog_7_method_32_code
def yX5_swear : MethodName := ⟨RX5, "swear", "(III)I"⟩
abbrev cX5_deny : ByteArray := prog_7_method_33_code
def yX5_deny : MethodName := ⟨RX5, "deny", "(I)I"⟩
abbrev cX5_canDrop : ByteArray := prog_7_method_34_code
def yX5_canDrop : MethodName := ⟨RX5, "canDrop", "(II)Z"⟩
abbrev cX5_dropOn : ByteArray := prog_7_method_35_code
def yX5_dropOn : MethodName := ⟨RX5, "dropOn", "(II)V"⟩
abbrev cX5_drop : ByteArray := prog_7_method_36_code
def yX5_drop : MethodName := ⟨RX5, "drop", "(I)I"⟩
abbrev cX5_undo : ByteArray := prog_7_method_37_code
def yX5_undo : MethodName := ⟨RX5, "undo", "()I"⟩
abbrev cX5_couples : ByteArray := prog_7_method_38_code
def yX5_couples : MethodName := ⟨RX5, "couples", "(II)I"⟩
abbrev cX5_cover : ByteArray := prog_7_method_39_code
def yX5_cover : MethodName := ⟨RX5, "cover", "()I"⟩
abbrev cX5_silence : ByteArray := prog_7_method_40_code
def yX5_silence : MethodName := ⟨RX5, "silence", "(I)I"⟩
abbrev cX5_layEdges : ByteArray := prog_7_method_41_code
def yX5_layEdges : MethodName := ⟨RX5, "layEdges", "()I"⟩
abbrev cX5_toldOf : ByteArray := prog_7_method_42_code
def yX5_toldOf : MethodName := ⟨RX5, "toldOf", "(I)I"⟩
abbrev cX5_rowOf : ByteArray := prog_7_method_43_code
def yX5_rowOf : MethodName := ⟨RX5, "rowOf", "(II)I"⟩
abbrev cX5_match : ByteArray := prog_7_method_44_code
def yX5_match : MethodName := ⟨RX5, "match", "(Z)I"⟩
abbrev cX5_layTrial : ByteArray := prog_7_method_45_code
def yX5_layTrial : MethodName := ⟨RX5, "layTrial", "()V"⟩
abbrev cX5_tryThing : ByteArray := prog_7_method_46_code
def yX5_tryThing : MethodName := ⟨RX5, "tryThing", "(III)Z"⟩
abbrev cX5_power : ByteArray := prog_7_method_47_code
def yX5_power : MethodName := ⟨RX5, "power", "(II)I"⟩
abbrev cX5_judge : ByteArray := prog_7_method_48_code
def yX5_judge : MethodName := ⟨RX5, "judge", "(II)I"⟩
abbrev cX5_hear : ByteArray := prog_7_method_49_code
def yX5_hear : MethodName := ⟨RX5, "hear", "(III)I"⟩
abbrev cX5_unhear : ByteArray := prog_7_method_50_code
def yX5_unhear : MethodName := ⟨RX5, "unhear", "()I"⟩
abbrev cX5_mayBe : ByteArray := prog_7_method_51_code
def yX5_mayBe : MethodName := ⟨RX5, "mayBe", "(IIII)Z"⟩
abbrev cX5_values : ByteArray := prog_7_method_52_code
def yX5_values : MethodName := ⟨RX5, "values", "(III)I"⟩
abbrev cX5_common : ByteArray := prog_7_method_53_code
def yX5_common : MethodName := ⟨RX5, "common", "(II)I"⟩
abbrev cX5_factorial : ByteArray := prog_7_method_54_code
def yX5_factorial : MethodName := ⟨RX5, "factorial", "(I)I"⟩
abbrev cX5_share : ByteArray := prog_7_method_55_code
def yX5_share : MethodName := ⟨RX5, "share", "(IZ)I"⟩
abbrev cX5_gain : ByteArray := prog_7_method_56_code
def yX5_gain : MethodName := ⟨RX5, "gain", "(IZII)I"⟩
abbrev cX5_rests : ByteArray := prog_7_method_57_code
def yX5_rests : MethodName := ⟨RX5, "rests", "(IIII)I"⟩
abbrev cX5_come : ByteArray := prog_7_method_58_code
def yX5_come : MethodName := ⟨RX5, "come", "(IIZ)I"⟩
abbrev cX5_seed : ByteArray := prog_7_method_59_code
def yX5_seed : MethodName := ⟨RX5, "seed", "(J)J"⟩
abbrev cX5_years : ByteArray := prog_7_method_60_code
def yX5_years : MethodName := ⟨RX5, "years", "(I)I"⟩
abbrev cX5_known : ByteArray := prog_7_method_61_code
def yX5_known : MethodName := ⟨RX5, "known", "(Z)I"⟩
abbrev cX5_keep : ByteArray := prog_7_method_62_code
def yX5_keep : MethodName := ⟨RX5, "keep", "(I)I"⟩
abbrev cX5_again : ByteArray := prog_7_method_63_code
def yX5_again : MethodName := ⟨RX5, "again", "(I)I"⟩
abbrev cX5_count : ByteArray := prog_7_method_64_code
def yX5_count : MethodName := ⟨RX5, "count", "(I)I"⟩
def RJ6 : String := "java/lang/Integer"
def TJ6 : u_T := fun k => match k with
  | _ => ("", "", "", false)
def tyJ6 : Nat → FieldType := fun k => match k with
  | _ => .int
theorem nmJ6 : ∀ a, a < 0 → ∀ b, b < 0 → a ≠ b → (TJ6 a).2.1 ≠ (TJ6 b).2.1 := by decide +kernel
theorem tyJ6_ok : ∀ k, k < 0 → parseFieldDescriptor (TJ6 k).2.2.1 = some (tyJ6 k) := by decide +kernel
abbrev cJ6_bitCount_0f7a4 : ByteArray := prog_8_method_49_code
def yJ6_bitCount_0f7a4 : MethodName := ⟨RJ6, "bitCount", "(I)I"⟩
def RJ9 : String := "java/lang/Math"
def TJ9 : u_T := fun k => match k with
  | _ => ("", "", "", false)
def tyJ9 : Nat → FieldType := fun k => match k with
  | _ => .int
theorem nmJ9 : ∀ a, a < 0 → ∀ b, b < 0 → a ≠ b → (TJ9 a).2.1 ≠ (TJ9 b).2.1 := by decide +kernel
theorem tyJ9_ok : ∀ k, k < 0 → parseFieldDescriptor (TJ9 k).2.2.1 = some (tyJ9 k) := by decide +kernel
abbrev cJ9_min_7cf53 : ByteArray := prog_9_method_69_code
def yJ9_min_7cf53 : MethodName := ⟨RJ9, "min", "(II)I"⟩
def RL : String := "HalfTruthsLaw"
abbrev cL_law : ByteArray := code
def yL_law : MethodName := ⟨RL, "law", "([I)Z"⟩
abbrev vwCl : List vw_C := [(RX0, TX0, 4), (RX1, TX1, 11), (RX2, TX2, 4), (RX3, TX3, 2), (RX4, TX4, 10), (RX5, TX5, 24)]
end
section
/-! layout of the abstract heap, by program -/
def layL : List Nat := [4, 3, 148, 1, 104, 104, 104, 104, 106, 1, 104, 104, 104, 104, 106, 1, 104, 104, 104, 104, 106, 1, 104, 104, 104, 104, 106, 0, 114, 114, 114, 2, 106, 106, 106, 164, 5, 108, 146, 112, 108, 106, 148, 422, 115, 106, 106, 106, 1002, 146]
def fkL : List (List Nat) := [[1, 1, 1, 0], [0, 0, 0, 0, 0, 0, 1, 1, 1, 1, 1], [1, 1, 1, 0], [1, 0], [1, 1, 1, 1, 1, 0, 1, 1, 1, 2], [0, 0, 1, 1, 1, 1, 1, 0, 0, 1, 0, 0, 0, 0, 0, 1, 1, 0, 1, 1, 1, 2, 1, 1]]
def ofL : List (List Nat) := [[1, 2, 3, 0], [0, 0, 0, 0, 0, 0, 1, 2, 3, 4, 5], [1, 2, 3, 0], [1, 0], [1, 3, 9, 15, 21, 0, 27, 31, 35, 0], [0, 0, 1, 2, 3, 4, 5, 0, 0, 6, 0, 0, 0, 0, 0, 7, 8, 0, 9, 10, 11, 0, 12, 13]]
def fldT : List (Nat × Nat × Nat × Nat × Nat) := [(3, 9, 3, 0, 58), (3, 15, 3, 1, 59), (4, 54, 3, 1, 60), (1, 27, 1, 0, 73), (4, 72, 1, 0, 74), (1, 31, 1, 1, 75), (4, 75, 1, 1, 76), (1, 34, 1, 2, 77), (1, 37, 1, 3, 78), (1, 40, 1, 4, 79), (1, 43, 1, 5, 80), (1, 9, 1, 6, 81), (1, 15, 1, 7, 82), (1, 18, 1, 8, 83), (1, 21, 1, 9, 84), (1, 24, 1, 10, 85), (0, 9, 0, 0, 115), (0, 15, 0, 1, 116), (0, 18, 0, 2, 117), (0, 21, 0, 3, 118), (4, 66, 0, 3, 119), (2, 9, 2, 0, 135), (2, 15, 2, 1, 136), (2, 18, 2, 2, 137), (2, 21, 2, 3, 138), (4, 187, 2, 3, 139), (4, 10, 4, 0, 149), (4, 19, 4, 1, 150), (4, 23, 4, 2, 151), (4, 26, 4, 3, 152), (4, 29, 4, 4, 153), (4, 69, 4, 5, 154), (4, 35, 4, 6, 155), (4, 42, 4, 7, 156), (4, 46, 4, 8, 157), (4, 209, 4, 9, 158), (5, 96, 5, 0, 614), (5, 99, 5, 1, 615), (5, 7, 5, 2, 616), (5, 13, 5, 3, 617), (5, 16, 5, 4, 618), (5, 19, 5, 5, 619), (5, 22, 5, 6, 620), (5, 75, 5, 7, 621), (5, 72, 5, 8, 622), (5, 25, 5, 9, 623), (5, 56, 5, 10, 624), (5, 63, 5, 11, 625), (5, 60, 5, 12, 626), (5, 106, 5, 13, 627), (5, 135, 5, 14, 628), (5, 28, 5, 15, 629), (5, 31, 5, 16, 630), (5, 193, 5, 17, 631), (5, 34, 5, 18, 632), (5, 37, 5, 19, 633), (5, 40, 5, 20, 634), (5, 213, 5, 21, 635), (5, 43, 5, 22, 636), (5, 47, 5, 23, 637)]
/-! a method: class, name, code, locals, answer, room (frames, locals) -/
abbrev MI : Type := Nat × MethodName × ByteArray × Nat × Option FieldType × Nat × Nat
abbrev mO (M : MI) : Nat := M.1
abbrev mY (M : MI) : MethodName := M.2.1
abbrev mC (M : MI) : ByteArray := M.2.2.1
abbrev mL (M : MI) : Nat := M.2.2.2.1
abbrev mT (M : MI) : Option FieldType := M.2.2.2.2.1
abbrev mF (M : MI) : Nat := M.2.2.2.2.2.1
abbrev mR (M : MI) : Nat := M.2.2.2.2.2.2
def nmC (k : Nat) : String := match k with
  | 0 => RX0
  | 1 => RX1
  | 2 => RX2
  | 3 => RX3
  | 4 => RX4
  | 5 => RX5
  | 6 => RL
  | 7 => RJ6
  | _ => RJ9
/-- the abstract heap: ints of a cell's slots, the long of a cell -/
abbrev HS : Type := (Nat → Nat → Int32) × (Nat → Int64)
def hset (h : HS) (a k : Nat) (v : Int32) : HS := (fun b j => if b = a ∧ j = k then v else h.1 b j, h.2)
def hlng (h : HS) (a : Nat) (v : Int64) : HS := (h.1, fun b => if b = a then v else h.2 b)
def lay (a : Nat) : Nat := layL.getD a 5000
def alen (a : Nat) : Nat := if lay a < 1000 then lay a - 100 else lay a - 1000
def fk (c k : Nat) : Nat := (fkL.getD c []).getD k 3
def ofs (c k : Nat) : Nat := (ofL.getD c []).getD k 0
def rz (ρ : Nat → Nat) (v : Value) : Value := match v with
  | .ref a => .ref (ρ a)
  | v => v
def fv (h : HS) (a c k : Nat) : Value := match fk c k with
  | 0 => .int (h.1 a k)
  | 1 => .ref (a + ofs c k)
  | _ => .long (h.2 a)
def fvs (ρ : Nat → Nat) (h : HS) (a c : Nat) : List Value := (List.range (fkL.getD c []).length).map (fun k => rz ρ (fv h a c k))
def ct (ρ : Nat → Nat) (cI cZ : ClassId) (h : HS) (a : Nat) : va_E :=
  if lay a < 100 then .inr (lay a, fvs ρ h a (lay a)) else .inl (if lay a < 1000 then cI else cZ, alen a, .inl (h.1 a))
def wl (ρ : Nat → Nat) (cI cZ : ClassId) (h : HS) : va_W := (List.range 50).map (fun a => (ρ a, ct ρ cI cZ h a))
def Rep (ρ : Nat → Nat) (D : va_G) (cI cZ : ClassId) (h : HS) (H : Heap) : Prop := va_P D vwCl (wl ρ cI cZ h) H
def tysI (cI cZ : ClassId) : List (ClassId × FieldType) := [(cI, .int), (cZ, .boolean)]
def lw_gd : List Jvm.Cond := lw_tbl.filter goodWord
theorem mem_gd {w : Jvm.Cond} (h : w ∈ lw_tbl) (hg : goodWord w = true) : w ∈ lw_gd := List.mem_filter.mpr ⟨h, hg⟩
theorem gd_good {w : Jvm.Cond} (h : w ∈ lw_gd) : goodWord w = true := (List.mem_filter.mp h).2
def clC (c : Nat) : vw_C := vwCl.getD c (RX0, TX0, 0)
def tyC (c : Nat) : Nat → FieldType := match c with
  | 0 => tyX0
  | 1 => tyX1
  | 2 => tyX2
  | 3 => tyX3
  | 4 => tyX4
  | _ => tyX5
def fldB (q : Nat × Nat × Nat × Nat × Nat) : Bool :=
  decide (q.2.2.1 < 6) && decide (q.2.2.2.1 < (clC q.2.2.1).2.2) && decide (lw_tbl[q.2.2.2.2]? = some (Jvm.Cond.fieldLink (nmC q.1) q.2.1 ((clC q.2.2.1).2.1 q.2.2.2.1).1 ((clC q.2.2.1).2.1 q.2.2.2.1).2.1 ((clC q.2.2.1).2.1 q.2.2.2.1).2.2.1))
set_option maxRecDepth 100000 in
theorem fldT_ok : fldT.all fldB = true := by decide +kernel
theorem inAll : ∀ c, c < 6 → ∀ w ∈ u_ws (clC c).1 (clC c).2.1 (clC c).2.2, w ∈ lw_gd := by decide +kernel
theorem clC_at : ∀ c, c < 6 → vwCl[c]? = some ((clC c).1, (clC c).2.1, (clC c).2.2) := fun c h => by
  match c, h with
  | 0, _ => rfl
  | 1, _ => rfl
  | 2, _ => rfl
  | 3, _ => rfl
  | 4, _ => rfl
  | 5, _ => rfl
  | c + 6, h => omega
theorem nmAll : ∀ c, c < 6 → ∀ a, a < (clC c).2.2 → ∀ b, b < (clC c).2.2 → a ≠ b → ((clC c).2.1 a).2.1 ≠ ((clC c).2.1 b).2.1 := fun c h => by
  match c, h with
  | 0, _ => exact nmX0
  | 1, _ => exact nmX1
  | 2, _ => exact nmX2
  | 3, _ => exact nmX3
  | 4, _ => exact nmX4
  | 5, _ => exact nmX5
  | c + 6, h => omega
theorem tyAll : ∀ c, c < 6 → ∀ k, k < (clC c).2.2 → parseFieldDescriptor ((clC c).2.1 k).2.2.1 = some (tyC c k) := fun c h => by
  match c, h with
  | 0, _ => exact tyX0_ok
  | 1, _ => exact tyX1_ok
  | 2, _ => exact tyX2_ok
  | 3, _ => exact tyX3_ok
  | 4, _ => exact tyX4_ok
  | 5, _ => exact tyX5_ok
  | c + 6, h => omega
theorem lenAll : ∀ c, c < 6 → (fkL.getD c []).length = (clC c).2.2 := by decide +kernel
theorem fkI : ∀ c, c < 6 → ∀ k, k < (clC c).2.2 → fk c k = 0 → ((clC c).2.1 k).2.2 = ("I", false) := by decide +kernel
theorem fkJ : ∀ c, c < 6 → ∀ k, k < (clC c).2.2 → fk c k = 2 → ((clC c).2.1 k).2.2 = ("J", false) := by decide +kernel
theorem fkLt : ∀ c, c < 6 → ∀ k, k < (clC c).2.2 → fk c k < 3 := by decide +kernel
theorem fkOne : ∀ c, c < 6 → ∀ i, i < (clC c).2.2 → fk c i = 2 → ∀ j, j < (clC c).2.2 → fk c j = 2 → j = i := by decide +kernel
theorem layLt : ∀ a, lay a < 5000 → a < 50 := fun a h => by
  rcases Nat.lt_or_ge a 50 with q | q
  · exact q
  · have : lay a = 5000 := by
      unfold lay
      rw [List.getD_eq_getElem?_getD, List.getElem?_eq_none (by simpa [layL] using q)]
      rfl
    omega
/-! the list of cells -/
theorem wl_get (ρ : Nat → Nat) (cI cZ : ClassId) (h : HS) {a : Nat} (ha : a < 50) : (wl ρ cI cZ h)[a]? = some (ρ a, ct ρ cI cZ h a) := by
  unfold wl
  rw [List.getElem?_map, List.getElem?_range ha]
  rfl
theorem wl_set (ρ : Nat → Nat) (cI cZ : ClassId) (h h' : HS) {a : Nat} (e : va_E) (he : ct ρ cI cZ h' a = e) (ho : ∀ b, b ≠ a → ct ρ cI cZ h' b = ct ρ cI cZ h b) : (wl ρ cI cZ h).set a (ρ a, e) = wl ρ cI cZ h' := by
  apply List.ext_getElem?
  intro b
  by_cases hb : b < 50
  · by_cases hba : b = a
    · subst hba
      rw [List.getElem?_set_self (by simpa [wl] using hb), wl_get ρ cI cZ h' hb, he]
    · rw [List.getElem?_set_ne (Ne.symm hba), wl_get ρ cI cZ h hb, wl_get ρ cI cZ h' hb, ho b hba]
  · rw [List.getElem?_eq_none (by simp [wl]; omega), List.getElem?_eq_none (by simp [wl]; omega)]
theorem wl_D {ρ : Nat → Nat} {cI cZ : ClassId} {h : HS} {A : Nat → Prop} (hi : ∀ i j, i < 50 → j < 50 → ρ i = ρ j → i = j) (hA : ∀ i, i < 50 → A (ρ i)) : va_D A (wl ρ cI cZ h) := by
  have lt : ∀ (i : Nat) (q : Nat × va_E), (wl ρ cI cZ h)[i]? = some q → i < 50 := fun i q hq => by
    have := (List.getElem?_eq_some_iff.mp hq).1
    simpa [wl] using this
  refine ⟨fun i j p q hp hq hpq => ?_, fun k q hq => ?_⟩
  · have l1 := lt i p hp
    have l2 := lt j q hq
    rw [wl_get ρ cI cZ h l1] at hp
    rw [wl_get ρ cI cZ h l2] at hq
    cases hp; cases hq
    exact hi i j l1 l2 hpq
  · have l1 := lt k q hq
    rw [wl_get ρ cI cZ h l1] at hq
    cases hq
    exact hA k l1
theorem fvs_get (ρ : Nat → Nat) (h : HS) {a c k : Nat} (hk : k < (fkL.getD c []).length) : (fvs ρ h a c)[k]? = some (rz ρ (fv h a c k)) := by
  unfold fvs
  rw [List.getElem?_map, List.getElem?_range hk]
  rfl
theorem ct_off {ρ : Nat → Nat} {cI cZ : ClassId} {h h' : HS} {b : Nat} (h1 : h'.1 b = h.1 b) (h2 : h'.2 b = h.2 b) : ct ρ cI cZ h' b = ct ρ cI cZ h b := by
  have e : ∀ k, fv h' b (lay b) k = fv h b (lay b) k := fun k => by
    unfold fv
    rw [h1, h2]
  unfold ct fvs
  simp only [e, h1]
theorem fvs_set {ρ : Nat → Nat} {h h' : HS} {a c k : Nat} {v : Value} (hv : rz ρ (fv h' a c k) = v) (ho : ∀ j, j < (fkL.getD c []).length → j ≠ k → fv h' a c j = fv h a c j) : (fvs ρ h a c).set k v = fvs ρ h' a c := by
  apply List.ext_getElem?
  intro j
  by_cases hj : j < (fkL.getD c []).length
  · by_cases hjk : j = k
    · subst hjk
      rw [List.getElem?_set_self (by simpa [fvs] using hj), fvs_get ρ h' hj, hv]
    · rw [List.getElem?_set_ne (Ne.symm hjk), fvs_get ρ h hj, fvs_get ρ h' hj, ho j hj hjk]
  · rw [List.getElem?_eq_none (by simp [fvs]; simp at hj; omega), List.getElem?_eq_none (by simp [fvs]; simp at hj; omega)]
/-! locals -/
def LR (ρ : Nat → Nat) (n : Nat) (ls : List Value) (lsr : Array Slot) : Prop := ls.length = n ∧ lsr.size = n ∧ lv_wf lsr ∧ ∀ (i : Nat) (v : Value), ls[i]? = some v → v ≠ .null → lsr[i]? = some (.val (rz ρ v))
def lvl (ρ : Nat → Nat) (ls : List Value) : List (Nat × Value) := (List.range ls.length).filterMap (fun i => match ls[i]? with
  | some Value.null => none
  | some v => some (i, rz ρ v)
  | none => none)
theorem lvl_mem {ρ : Nat → Nat} {ls : List Value} {q : Nat × Value} : q ∈ lvl ρ ls ↔ ∃ v, ls[q.1]? = some v ∧ v ≠ .null ∧ q.2 = rz ρ v := by
  unfold lvl
  rw [List.mem_filterMap]
  constructor
  · rintro ⟨i, -, hq⟩
    split at hq
    · cases hq
    · rename_i v hn hv
      cases hq
      exact ⟨v, hv, fun e => hn e, rfl⟩
    · cases hq
  · rintro ⟨v, hv, hn, he⟩
    refine ⟨q.1, List.mem_range.mpr (List.getElem?_eq_some_iff.mp hv).1, ?_⟩
    rw [hv]
    cases v <;> first | exact absurd rfl hn | (obtain ⟨q1, q2⟩ := q; simp only at he; subst he; rfl)
theorem LR.has {ρ : Nat → Nat} {n : Nat} {ls : List Value} {lsr : Array Slot} (h : LR ρ n ls lsr) : lv_has lsr n (lvl ρ ls) := by
  refine ⟨h.2.1, h.2.2.1, fun q hq => ?_⟩
  obtain ⟨v, h1, h2, h3⟩ := lvl_mem.mp hq
  rw [h3]
  exact h.2.2.2 q.1 v h1 h2
def stOK (ls : List Value) (i : Nat) : Bool := match i with
  | 0 => true
  | j + 1 => match ls[j]? with
    | some (.long _) => false
    | some (.double _) => false
    | _ => true
theorem rz_cat (ρ : Nat → Nat) (v : Value) : (rz ρ v).category = v.category := by cases v <;> rfl
theorem stOK_cat {ls : List Value} {i j : Nat} {v : Value} (h : stOK ls i = true) (hj : j + 1 = i) (hv : ls[j]? = some v) : v.category ≠ 2 := by
  subst hj
  unfold stOK at h
  simp only [hv] at h
  cases v <;> first | (simp at h; done) | (simp [Value.category])
theorem LR.store {ρ : Nat → Nat} {n i : Nat} {ls : List Value} {lsr ls' : Array Slot} {v : Value} (h : LR ρ n ls lsr) (hok : stOK ls i = true)
    (h' : lv_has ls' n ((i, rz ρ v) :: (lvl ρ ls).filter (fun q => !(q.1 == i) && !(q.1 + 1 == i && q.2.category == 2)))) : LR ρ n (ls.set i v) ls' := by
  refine ⟨by rw [List.length_set]; exact h.1, h'.1, h'.2.1, fun j w hj hn => ?_⟩
  by_cases hji : j = i
  · subst hji
    have hl : j < ls.length := by
      have := (List.getElem?_eq_some_iff.mp hj).1
      rwa [List.length_set] at this
    rw [List.getElem?_set_self hl] at hj
    cases hj
    exact h'.2.2 (j, rz ρ v) List.mem_cons_self
  · rw [List.getElem?_set_ne (Ne.symm hji)] at hj
    refine h'.2.2 (j, rz ρ w) (List.mem_cons_of_mem _ (List.mem_filter.mpr ⟨lvl_mem.mpr ⟨w, hj, hn, rfl⟩, ?_⟩))
    simp only [Bool.and_eq_true, Bool.not_eq_true', beq_eq_false_iff_ne, ne_eq, Bool.and_eq_false_iff]
    refine ⟨hji, ?_⟩
    by_cases e : j + 1 = i
    · exact Or.inr (by rw [rz_cat]; exact stOK_cat hok e hj)
    · exact Or.inl e
theorem LR.store2 {ρ : Nat → Nat} {n i : Nat} {ls : List Value} {lsr ls' : Array Slot} {v : Value} (h : LR ρ n ls lsr) (hok : stOK ls i = true)
    (h' : lv_has ls' n ((i, rz ρ v) :: (lvl ρ ls).filter (fun q => !(q.1 == i) && (!(q.1 == i + 1) && !(q.1 + 1 == i && q.2.category == 2))))) : LR ρ n ((ls.set i v).set (i + 1) .null) ls' := by
  refine ⟨by rw [List.length_set, List.length_set]; exact h.1, h'.1, h'.2.1, fun j w hj hn => ?_⟩
  have hl : j < ls.length := by
    have := (List.getElem?_eq_some_iff.mp hj).1
    rwa [List.length_set, List.length_set] at this
  by_cases hj1 : j = i + 1
  · subst hj1
    rw [List.getElem?_set_self (by rw [List.length_set]; exact hl)] at hj
    cases hj
    exact absurd rfl hn
  rw [List.getElem?_set_ne (Ne.symm hj1)] at hj
  by_cases hji : j = i
  · subst hji
    rw [List.getElem?_set_self hl] at hj
    cases hj
    exact h'.2.2 (j, rz ρ v) List.mem_cons_self
  · rw [List.getElem?_set_ne (Ne.symm hji)] at hj
    refine h'.2.2 (j, rz ρ w) (List.mem_cons_of_mem _ (List.mem_filter.mpr ⟨lvl_mem.mpr ⟨w, hj, hn, rfl⟩, ?_⟩))
    simp only [Bool.and_eq_true, Bool.not_eq_true', beq_eq_false_iff_ne, ne_eq, Bool.and_eq_false_iff]
    refine ⟨hji, hj1, ?_⟩
    by_cases e : j + 1 = i
    · exact Or.inr (by rw [rz_cat]; exact stOK_cat hok e hj)
    · exact Or.inl e
/-! simple instructions -/
abbrev Op1 : Type := Instr × Nat × (Nat × Nat) × Int32
def nx (i : Instr) (n : Nat) (x : Nat × Nat) (pc : Nat) : Nat := match i with
  | .goto _ => x.1
  | _ => pc + n
def inF (o j : Nat) (x : Nat × Nat) : Bool := fldT.any (fun q => q.1 == o && q.2.1 == j && q.2.2.1 == x.1 && q.2.2.2.1 == x.2)
def opOK (o pc : Nat) (i : Instr) (n : Nat) (x : Nat × Nat) (v : Int32) : Bool := match i with
  | .iconst a => n == 1 && Int32.ofInt a == v
  | .bipush a => n == 2 && (Int8.ofInt a).toInt32 == v
  | .sipush a => n == 3 && (Int16.ofInt a).toInt32 == v
  | .iinc _ a => n == 3 && Int32.ofInt a == v
  | .getfield j => n == 3 && inF o j x
  | .putfield j => n == 3 && inF o j x
  | .goto off => n == 3 && decide ((pc : Int) + off = (x.1 : Int))
  | .iload _ => n == 2
  | .lload _ => n == 2
  | .aload _ => n == 2
  | .istore _ => n == 2
  | .lstore _ => n == 2
  | .astore _ => n == 2
  | _ => n == 1
def ex (i : Instr) (x : Nat × Nat) (v : Int32) (ls st : List Value) (h : HS) : Option (List Value × List Value × HS) := match i with
  | .iconst _ => some (ls, .int v :: st, h)
  | .bipush _ => some (ls, .int v :: st, h)
  | .sipush _ => some (ls, .int v :: st, h)
  | .lconst a => some (ls, .long (Int64.ofNat a.val) :: st, h)
  | .goto _ => some (ls, st, h)
  | .iload_n a => match ls[a.val]? with
    | some (.int y) => some (ls, .int y :: st, h)
    | _ => none
  | .iload a => match ls[a]? with
    | some (.int y) => some (ls, .int y :: st, h)
    | _ => none
  | .lload_n a => match ls[a.val]? with
    | some (.long y) => some (ls, .long y :: st, h)
    | _ => none
  | .lload a => match ls[a]? with
    | some (.long y) => some (ls, .long y :: st, h)
    | _ => none
  | .aload_n a => match ls[a.val]? with
    | some (.ref y) => some (ls, .ref y :: st, h)
    | _ => none
  | .aload a => match ls[a]? with
    | some (.ref y) => some (ls, .ref y :: st, h)
    | _ => none
  | .istore_n a => match st, ls[a.val]?, stOK ls a.val with
    | .int y :: r, some _, true => some (ls.set a.val (.int y), r, h)
    | _, _, _ => none
  | .istore a => match st, ls[a]?, stOK ls a with
    | .int y :: r, some _, true => some (ls.set a (.int y), r, h)
    | _, _, _ => none
  | .astore_n a => match st, ls[a.val]?, stOK ls a.val with
    | .ref y :: r, some _, true => some (ls.set a.val (.ref y), r, h)
    | _, _, _ => none
  | .astore a => match st, ls[a]?, stOK ls a with
    | .ref y :: r, some _, true => some (ls.set a (.ref y), r, h)
    | _, _, _ => none
  | .lstore_n a => match st, ls[a.val + 1]?, stOK ls a.val with
    | .long y :: r, some _, true => some ((ls.set a.val (.long y)).set (a.val + 1) .null, r, h)
    | _, _, _ => none
  | .lstore a => match st, ls[a + 1]?, stOK ls a with
    | .long y :: r, some _, true => some ((ls.set a (.long y)).set (a + 1) .null, r, h)
    | _, _, _ => none
  | .iinc a _ => match ls[a]?, stOK ls a with
    | some (.int y), true => some (ls.set a (.int (y + v)), st, h)
    | _, _ => none
  | .dup => match st with
    | .int y :: r => some (ls, .int y :: .int y :: r, h)
    | .ref y :: r => some (ls, .ref y :: .ref y :: r, h)
    | _ => none
  | .pop => match st with
    | .int _ :: r => some (ls, r, h)
    | .ref _ :: r => some (ls, r, h)
    | _ => none
  | .dup2 => match st with
    | .int y :: .ref z :: r => some (ls, .int y :: .ref z :: .int y :: .ref z :: r, h)
    | _ => none
  | .iadd => match st with
    | .int y :: .int z :: r => some (ls, .int (z + y) :: r, h)
    | _ => none
  | .isub => match st with
    | .int y :: .int z :: r => some (ls, .int (z - y) :: r, h)
    | _ => none
  | .imul => match st with
    | .int y :: .int z :: r => some (ls, .int (z * y) :: r, h)
    | _ => none
  | .iand => match st with
    | .int y :: .int z :: r => some (ls, .int (z &&& y) :: r, h)
    | _ => none
  | .ior => match st with
    | .int y :: .int z :: r => some (ls, .int (z ||| y) :: r, h)
    | _ => none
  | .ixor => match st with
    | .int y :: .int z :: r => some (ls, .int (z ^^^ y) :: r, h)
    | _ => none
  | .ineg => match st with
    | .int y :: r => some (ls, .int (-y) :: r, h)
    | _ => none
  | .ishl => match st with
    | .int y :: .int z :: r => some (ls, .int (z <<< (y &&& 31)) :: r, h)
    | _ => none
  | .ishr => match st with
    | .int y :: .int z :: r => some (ls, .int (z >>> (y &&& 31)) :: r, h)
    | _ => none
  | .iushr => match st with
    | .int y :: .int z :: r => some (ls, .int ((z.toUInt32 >>> (y.toUInt32 &&& Int32.toUInt32 31)).toInt32) :: r, h)
    | _ => none
  | .i2l => match st with
    | .int y :: r => some (ls, .long y.toInt64 :: r, h)
    | _ => none
  | .l2i => match st with
    | .long y :: r => some (ls, .int y.toInt32 :: r, h)
    | _ => none
  | .ladd => match st with
    | .long y :: .long z :: r => some (ls, .long (z + y) :: r, h)
    | _ => none
  | .lmul => match st with
    | .long y :: .long z :: r => some (ls, .long (z * y) :: r, h)
    | _ => none
  | .land => match st with
    | .long y :: .long z :: r => some (ls, .long (z &&& y) :: r, h)
    | _ => none
  | .lor => match st with
    | .long y :: .long z :: r => some (ls, .long (z ||| y) :: r, h)
    | _ => none
  | .lushr => match st with
    | .int y :: .long z :: r => some (ls, .long ((z.toUInt64 >>> (y.toInt64.toUInt64 &&& Int64.toUInt64 63)).toInt64) :: r, h)
    | _ => none
  | .lshl => match st with
    | .int y :: .long z :: r => some (ls, .long (z <<< (y.toInt64 &&& 63)) :: r, h)
    | _ => none
  | .lcmp => match st with
    | .long y :: .long z :: r => some (ls, .int (lg_cmp z y) :: r, h)
    | _ => none
  | .arraylength => match st with
    | .ref a :: r => if 100 ≤ lay a ∧ lay a < 5000 then some (ls, .int (Int32.ofNat (alen a)) :: r, h) else none
    | _ => none
  | .getfield _ => match st with
    | .ref a :: r => if lay a = x.1 then some (ls, fv h a x.1 x.2 :: r, h) else none
    | _ => none
  | .putfield _ => match st, fk x.1 x.2 with
    | .int y :: .ref a :: r, 0 => if lay a = x.1 then some (ls, r, hset h a x.2 y) else none
    | .long y :: .ref a :: r, 2 => if lay a = x.1 then some (ls, r, hlng h a y) else none
    | _, _ => none
  | _ => none
def segOK (M : MI) : Nat → List Op1 → Bool
  | _, [] => true
  | pc, (i, n, x, v) :: r => decide (decode (mC M) pc = .ok (i, n)) && opOK (mO M) pc i n x v && segOK M (nx i n x pc) r
def segPc : Nat → List Op1 → Nat
  | pc, [] => pc
  | pc, (i, n, x, _) :: r => segPc (nx i n x pc) r
def run1 : List Op1 → List Value → List Value → HS → Option (List Value × List Value × HS)
  | [], ls, st, h => some (ls, st, h)
  | (i, _, x, v) :: r, ls, st, h => match ex i x v ls st h with
    | some (ls', st', h') => run1 r ls' st' h'
    | none => none
/-! what holds all through a method's run -/
def Cx (sc : Option (Nat × (Nat → Int32))) (M : MI) (ρ : Nat → Nat) (D : va_G) (cI cZ : ClassId) (A : Nat → Prop) (p : Program) (R : Room) (s : State) (m : MethodId) (args : Array Value) (meth : Method) (c : Code) : Prop :=
  p.tables.exec = Jvm.exec ∧ c.code = mC M ∧ c.maxLocals = mL M ∧ meth.sig.returnType = mT M ∧ meth.locks = false ∧ s.vm.findClass (nmC (mO M)) = some m.cls ∧ (∀ w ∈ lw_gd, w.before args s = true) ∧ mF M ≤ R.frames ∧ mR M ≤ R.locals ∧
  va_K D vwCl (tysI cI cZ) s ∧ (∀ i j, i < 50 → j < 50 → ρ i = ρ j → i = j) ∧ (∀ i, i < 50 → A (ρ i)) ∧
  (∀ L xs, sc = some (L, xs) → va_X (ρ 99) L xs s s.heap ∧ ρ 99 < s.heap.size ∧ ¬ A (ρ 99))
theorem fld_of {o j : Nat} {x : Nat × Nat} (h : inF o j x = true) : x.1 < 6 ∧ x.2 < (clC x.1).2.2 ∧ Jvm.Cond.fieldLink (nmC o) j ((clC x.1).2.1 x.2).1 ((clC x.1).2.1 x.2).2.1 ((clC x.1).2.1 x.2).2.2.1 ∈ lw_gd := by
  unfold inF at h
  obtain ⟨q, hq, hb⟩ := List.any_eq_true.mp h
  simp only [Bool.and_eq_true, beq_iff_eq] at hb
  obtain ⟨⟨⟨h1, h2⟩, h3⟩, h4⟩ := hb
  have h5 := List.all_eq_true.mp fldT_ok q hq
  unfold fldB at h5
  simp only [Bool.and_eq_true, decide_eq_true_eq] at h5
  obtain ⟨⟨h6, h7⟩, h8⟩ := h5
  rw [h3] at h6 h7 h8
  rw [h4] at h7 h8
  rw [h1, h2] at h8
  exact ⟨h6, h7, mem_gd (List.mem_of_getElem? h8) rfl⟩
section SIM
variable {sc : Option (Nat × (Nat → Int32))} {M : MI} {ρ : Nat → Nat} {D : va_G} {cI cZ : ClassId} {A : Nat → Prop} {p : Program} {l : Launch} {e : Env} {R : Room} {s : State} {m : MethodId} {args : Array Value} {below : List Frame} {meth : Method} {c : Code} {cells slots : Nat} {Q : State → Prop}
theorem ex_ld {i : Nat} {v : Value} {ls : List Value} {lsr : Array Slot} {n : Nat} (h : LR ρ n ls lsr) (hv : ls[i]? = some v) (hn : v ≠ .null) : lsr[i]? = some (.val (rz ρ v)) := h.2.2.2 i v hv hn
theorem LR.lt {i : Nat} {v : Value} {ls : List Value} {lsr : Array Slot} {n : Nat} (h : LR ρ n ls lsr) (hv : ls[i]? = some v) : i < n := by
  rw [← h.1]
  exact (List.getElem?_eq_some_iff.mp hv).1
set_option maxHeartbeats 4000000 in
theorem ex_get (C : Cx sc M ρ D cI cZ A p R s m args meth c) {pc j : Nat} {x : Nat × Nat} {lsr : Array Slot} {r : List Value} {h : HS} {H : Heap} {locs : List Loc} {a : Nat} (hd : decode (mC M) pc = .ok (.getfield j, 3)) (ho : inF (mO M) j x = true) (hl : lay a = x.1) (hR : Rep ρ D cI cZ h H)
    (k : W p l e R s m args below meth c H locs cells slots Q (F0 m (pc + 3) lsr (rz ρ (fv h a x.1 x.2) :: r))) : W p l e R s m args below meth c H locs cells slots Q (F0 m pc lsr (.ref (ρ a) :: r)) := by
  obtain ⟨hx, hb, -, -, -, hown, hts, -, -, hK, -⟩ := C
  obtain ⟨f1, f2, f3⟩ := fld_of ho
  have ha : a < 50 := layLt a (by omega)
  have he := wl_get ρ cI cZ h ha
  have hce : ct ρ cI cZ h a = .inr (x.1, fvs ρ h a x.1) := by
    unfold ct
    rw [if_pos (by omega), hl]
  rw [hce] at he
  exact va_get hx hb hts (inAll x.1 f1) hown hK hR a he (clC_at x.1 f1) x.2 f2 (hts _ f3) (fun _ h => h) (fvs_get ρ h (by rw [lenAll x.1 f1]; exact f2)) hd k
set_option maxHeartbeats 4000000 in
theorem ex_put (C : Cx sc M ρ D cI cZ A p R s m args meth c) {pc j : Nat} {x : Nat × Nat} {lsr : Array Slot} {r : List Value} {h : HS} {H : Heap} {locs : List Loc} {a : Nat} {y : Int32} (hd : decode (mC M) pc = .ok (.putfield j, 3)) (ho : inF (mO M) j x = true) (hl : lay a = x.1) (hf : fk x.1 x.2 = 0) (hR : Rep ρ D cI cZ h H) (hS : va_S A s.heap H locs)
    (k : ∀ (H' : Heap) (locs' : List Loc), Rep ρ D cI cZ (hset h a x.2 y) H' → va_S A s.heap H' locs' → W p l e R s m args below meth c H' locs' cells slots Q (F0 m (pc + 3) lsr r)) : W p l e R s m args below meth c H locs cells slots Q (F0 m pc lsr (.int y :: .ref (ρ a) :: r)) := by
  obtain ⟨hx, hb, -, -, -, hown, hts, -, -, hK, hi, hA, -⟩ := C
  obtain ⟨f1, f2, f3⟩ := fld_of ho
  have ha : a < 50 := layLt a (by omega)
  have he := wl_get ρ cI cZ h ha
  have hct : ∀ h : HS, ct ρ cI cZ h a = .inr (x.1, fvs ρ h a x.1) := fun h => by
    unfold ct
    rw [if_pos (by omega), hl]
  rw [hct] at he
  have hk0 := fkI x.1 f1 x.2 f2 hf
  have hfin : ((clC x.1).2.1 x.2).2.2.2 = false := by rw [hk0]
  have hdesc : parseFieldDescriptor ((clC x.1).2.1 x.2).2.2.1 = some .int := by rw [hk0]; decide +kernel
  refine va_put hx hb hts (inAll x.1 f1) (tyC x.1) (tyAll x.1 f1) (nmAll x.1 f1) hown hK hR (wl_D hi hA) hS a he (clC_at x.1 f1) x.2 f2 (hts _ f3) (fun _ h => h) hfin hdesc (v := .int y) rfl rfl (by simp only [fvs, List.length_map, List.length_range]; rw [lenAll x.1 f1]; exact f2) hd (fun H1 locs1 hP _ hS1 => ?_)
  refine k H1 locs1 ?_ hS1
  have e := wl_set ρ cI cZ h (hset h a x.2 y) (a := a) (.inr (x.1, (fvs ρ h a x.1).set x.2 (.int y))) (by
    rw [hct]
    congr 2
    refine (fvs_set ?_ fun j _ hj => ?_).symm
    · unfold fv
      rw [hf]
      simp [rz, hset]
    · unfold fv
      simp [hset, hj]) (fun b hb' => ct_off (by funext j; simp [hset, hb']) rfl)
  unfold Rep
  rw [← e]
  exact hP
set_option maxHeartbeats 4000000 in
theorem ex_putL (C : Cx sc M ρ D cI cZ A p R s m args meth c) {pc j : Nat} {x : Nat × Nat} {lsr : Array Slot} {r : List Value} {h : HS} {H : Heap} {locs : List Loc} {a : Nat} {y : Int64} (hd : decode (mC M) pc = .ok (.putfield j, 3)) (ho : inF (mO M) j x = true) (hl : lay a = x.1) (hf : fk x.1 x.2 = 2) (hR : Rep ρ D cI cZ h H) (hS : va_S A s.heap H locs)
    (k : ∀ (H' : Heap) (locs' : List Loc), Rep ρ D cI cZ (hlng h a y) H' → va_S A s.heap H' locs' → W p l e R s m args below meth c H' locs' cells slots Q (F0 m (pc + 3) lsr r)) : W p l e R s m args below meth c H locs cells slots Q (F0 m pc lsr (.long y :: .ref (ρ a) :: r)) := by
  obtain ⟨hx, hb, -, -, -, hown, hts, -, -, hK, hi, hA, -⟩ := C
  obtain ⟨f1, f2, f3⟩ := fld_of ho
  have ha : a < 50 := layLt a (by omega)
  have he := wl_get ρ cI cZ h ha
  have hct : ∀ h : HS, ct ρ cI cZ h a = .inr (x.1, fvs ρ h a x.1) := fun h => by
    unfold ct
    rw [if_pos (by omega), hl]
  rw [hct] at he
  have hk0 := fkJ x.1 f1 x.2 f2 hf
  have hfin : ((clC x.1).2.1 x.2).2.2.2 = false := by rw [hk0]
  have hdesc : parseFieldDescriptor ((clC x.1).2.1 x.2).2.2.1 = some .long := by rw [hk0]; decide +kernel
  refine va_put hx hb hts (inAll x.1 f1) (tyC x.1) (tyAll x.1 f1) (nmAll x.1 f1) hown hK hR (wl_D hi hA) hS a he (clC_at x.1 f1) x.2 f2 (hts _ f3) (fun _ h => h) hfin hdesc (v := .long y) rfl rfl (by simp only [fvs, List.length_map, List.length_range]; rw [lenAll x.1 f1]; exact f2) hd (fun H1 locs1 hP _ hS1 => ?_)
  refine k H1 locs1 ?_ hS1
  have e := wl_set ρ cI cZ h (hlng h a y) (a := a) (.inr (x.1, (fvs ρ h a x.1).set x.2 (.long y))) (by
    rw [hct]
    congr 2
    refine (fvs_set ?_ fun j hjl hj => ?_).symm
    · unfold fv
      rw [hf]
      simp [rz, hlng]
    · rw [lenAll x.1 f1] at hjl
      have h2 : fk x.1 j ≠ 2 := fun z => hj (fkOne x.1 f1 x.2 f2 hf j hjl z)
      have h3 := fkLt x.1 f1 j hjl
      unfold fv
      rcases (by omega : fk x.1 j = 0 ∨ fk x.1 j = 1) with z | z <;> rw [z] <;> simp [hlng]) (fun b hb' => ct_off rfl (by simp [hlng, hb']))
  unfold Rep
  rw [← e]
  exact hP
end SIM
section SIM2
variable {sc : Option (Nat × (Nat → Int32))} {M : MI} {ρ : Nat → Nat} {D : va_G} {cI cZ : ClassId} {A : Nat → Prop} {p : Program} {l : Launch} {e : Env} {R : Room} {s : State} {m : MethodId} {args : Array Value} {below : List Frame} {meth : Method} {c : Code} {cells slots : Nat} {Q : State → Prop}
abbrev ExK (M : MI) (ρ : Nat → Nat) (D : va_G) (cI cZ : ClassId) (A : Nat → Prop) (p : Program) (l : Launch) (e : Env) (R : Room) (s : State) (m : MethodId) (args : Array Value) (below : List Frame) (meth : Method) (c : Code) (cells slots : Nat) (Q : State → Prop) (pc : Nat) (ls st : List Value) (h : HS) : Prop :=
  ∀ (H : Heap) (locs : List Loc) (lsr : Array Slot), Rep ρ D cI cZ h H → va_S A s.heap H locs → LR ρ (mL M) ls lsr → W p l e R s m args below meth c H locs cells slots Q (F0 m pc lsr (st.map (rz ρ)))
theorem ct_arr {h : HS} {a : Nat} (h1 : 100 ≤ lay a) (h2 : lay a < 1000) : ct ρ cI cZ h a = .inl (cI, alen a, .inl (h.1 a)) := by
  unfold ct
  rw [if_neg (by omega), if_pos h2]
theorem ct_arz {h : HS} {a : Nat} (h1 : 1000 ≤ lay a) : ct ρ cI cZ h a = .inl (cZ, alen a, .inl (h.1 a)) := by
  unfold ct
  rw [if_neg (by omega), if_neg (by omega)]
set_option maxHeartbeats 8000000 in
theorem ex_ok (C : Cx sc M ρ D cI cZ A p R s m args meth c) {i : Instr} {n pc : Nat} {x : Nat × Nat} {v : Int32} {ls st ls' st' : List Value} {h h' : HS} (hd : decode (mC M) pc = .ok (i, n)) (ho : opOK (mO M) pc i n x v = true) (hx : ex i x v ls st h = some (ls', st', h'))
    (k : ExK M ρ D cI cZ A p l e R s m args below meth c cells slots Q (nx i n x pc) ls' st' h') : ExK M ρ D cI cZ A p l e R s m args below meth c cells slots Q pc ls st h := by
  have C0 := C
  obtain ⟨hxc, hb, hml, -, -, hown, hts, -, -, hK, hi, hA, -⟩ := C
  intro H locs lsr hR hS hL
  unfold ex at hx
  split at hx
  · simp only [opOK, Bool.and_eq_true, beq_iff_eq] at ho
    cases hx; obtain ⟨rfl, ho⟩ := ho
    exact lv_iconst hxc hb hd ho (k H locs lsr hR hS hL)
  · simp only [opOK, Bool.and_eq_true, beq_iff_eq] at ho
    cases hx; obtain ⟨rfl, ho⟩ := ho
    exact lv_bipush hxc hb hd ho (k H locs lsr hR hS hL)
  · simp only [opOK, Bool.and_eq_true, beq_iff_eq] at ho
    cases hx; obtain ⟨rfl, ho⟩ := ho
    exact lv_sipush hxc hb hd ho (k H locs lsr hR hS hL)
  · simp only [opOK, beq_iff_eq] at ho
    cases hx; subst ho
    exact lv_lconst hxc hb hd rfl (k H locs lsr hR hS hL)
  · simp only [opOK, Bool.and_eq_true, beq_iff_eq, decide_eq_true_eq] at ho
    cases hx; obtain ⟨rfl, ho⟩ := ho
    exact lv_goto hxc hb hd ho (k H locs lsr hR hS hL)
  · simp only [opOK, beq_iff_eq] at ho
    subst ho
    split at hx
    · rename_i y hy
      cases hx
      exact lv_iload_n hxc hb hd rfl (hL.2.2.2 _ _ hy (fun q => by cases q)) (k H locs lsr hR hS hL)
    · cases hx
  · simp only [opOK, beq_iff_eq] at ho
    subst ho
    split at hx
    · rename_i y hy
      cases hx
      exact lv_iload hxc hb hd (hL.2.2.2 _ _ hy (fun q => by cases q)) (k H locs lsr hR hS hL)
    · cases hx
  · simp only [opOK, beq_iff_eq] at ho
    subst ho
    split at hx
    · rename_i y hy
      cases hx
      exact lv_lload_n hxc hb hd rfl (hL.2.2.2 _ _ hy (fun q => by cases q)) (k H locs lsr hR hS hL)
    · cases hx
  · simp only [opOK, beq_iff_eq] at ho
    subst ho
    split at hx
    · rename_i y hy
      cases hx
      exact lv_lload hxc hb hd (hL.2.2.2 _ _ hy (fun q => by cases q)) (k H locs lsr hR hS hL)
    · cases hx
  · simp only [opOK, beq_iff_eq] at ho
    subst ho
    split at hx
    · rename_i y hy
      cases hx
      exact lv_aload_n hxc hb hd rfl (hL.2.2.2 _ _ hy (fun q => by cases q)) (k H locs lsr hR hS hL)
    · cases hx
  · simp only [opOK, beq_iff_eq] at ho
    subst ho
    split at hx
    · rename_i y hy
      cases hx
      exact lv_aload hxc hb hd (hL.2.2.2 _ _ hy (fun q => by cases q)) (k H locs lsr hR hS hL)
    · cases hx
  · simp only [opOK, beq_iff_eq] at ho
    subst ho
    split at hx
    · rename_i y r w hy hok
      cases hx
      exact lv_istore_n hxc hb hd rfl hL.has (hL.lt hy) rfl (fun ls' h' => k H locs ls' hR hS (hL.store hok h'))
    · cases hx
  · simp only [opOK, beq_iff_eq] at ho
    subst ho
    split at hx
    · rename_i y r w hy hok
      cases hx
      exact lv_istore hxc hb hd hL.has (hL.lt hy) rfl (fun ls' h' => k H locs ls' hR hS (hL.store hok h'))
    · cases hx
  · simp only [opOK, beq_iff_eq] at ho
    subst ho
    split at hx
    · rename_i y r w hy hok
      cases hx
      exact lv_astore_n hxc hb hd rfl hL.has (hL.lt hy) rfl (fun ls' h' => k H locs ls' hR hS (hL.store (v := .ref y) hok h'))
    · cases hx
  · simp only [opOK, beq_iff_eq] at ho
    subst ho
    split at hx
    · rename_i y r w hy hok
      cases hx
      exact lv_astore hxc hb hd hL.has (hL.lt hy) rfl (fun ls' h' => k H locs ls' hR hS (hL.store (v := .ref y) hok h'))
    · cases hx
  · simp only [opOK, beq_iff_eq] at ho
    subst ho
    split at hx
    · rename_i y r w hy hok
      cases hx
      exact lv_lstore_n hxc hb hd rfl hL.has (hL.lt hy) rfl (fun ls' h' => k H locs ls' hR hS (hL.store2 hok h'))
    · cases hx
  · simp only [opOK, beq_iff_eq] at ho
    subst ho
    split at hx
    · rename_i y r w hy hok
      cases hx
      exact lv_lstore hxc hb hd hL.has (hL.lt hy) rfl (fun ls' h' => k H locs ls' hR hS (hL.store2 hok h'))
    · cases hx
  · simp only [opOK, Bool.and_eq_true, beq_iff_eq] at ho
    obtain ⟨rfl, ho⟩ := ho
    split at hx
    · rename_i y hy hok
      cases hx
      obtain ⟨q, hq⟩ := List.getElem?_of_mem (lvl_mem.mpr ⟨_, hy, (fun q => by cases q), rfl⟩ : (_, rz ρ (.int y)) ∈ lvl ρ ls)
      exact lv_iinc hxc hb hd hL.has hq (by rw [ho]) (hL.lt hy) rfl (fun ls' h' => k H locs ls' hR hS (hL.store (v := .int (y + v)) hok h'))
    · cases hx
  · simp only [opOK, beq_iff_eq] at ho
    subst ho
    split at hx
    · cases hx
      exact lv_dup hxc hb hd rfl (k H locs lsr hR hS hL)
    · cases hx
      exact lv_dup hxc hb hd rfl (k H locs lsr hR hS hL)
    · cases hx
  · simp only [opOK, beq_iff_eq] at ho
    subst ho
    split at hx
    · cases hx
      exact lv_pop hxc hb hd rfl (k H locs lsr hR hS hL)
    · cases hx
      exact lv_pop hxc hb hd rfl (k H locs lsr hR hS hL)
    · cases hx
  · simp only [opOK, beq_iff_eq] at ho
    subst ho
    split at hx
    · cases hx
      exact lv_dup2_11 hxc hb hd rfl rfl (k H locs lsr hR hS hL)
    · cases hx
  · simp only [opOK, beq_iff_eq] at ho
    subst ho
    split at hx
    · cases hx
      exact lv_iadd hxc hb hd (k H locs lsr hR hS hL)
    · cases hx
  · simp only [opOK, beq_iff_eq] at ho
    subst ho
    split at hx
    · cases hx
      exact lv_isub hxc hb hd (k H locs lsr hR hS hL)
    · cases hx
  · simp only [opOK, beq_iff_eq] at ho
    subst ho
    split at hx
    · cases hx
      exact lv_imul hxc hb hd (k H locs lsr hR hS hL)
    · cases hx
  · simp only [opOK, beq_iff_eq] at ho
    subst ho
    split at hx
    · cases hx
      exact lv_iand hxc hb hd (k H locs lsr hR hS hL)
    · cases hx
  · simp only [opOK, beq_iff_eq] at ho
    subst ho
    split at hx
    · cases hx
      exact lv_ior hxc hb hd (k H locs lsr hR hS hL)
    · cases hx
  · simp only [opOK, beq_iff_eq] at ho
    subst ho
    split at hx
    · cases hx
      exact lv_ixor hxc hb hd (k H locs lsr hR hS hL)
    · cases hx
  · simp only [opOK, beq_iff_eq] at ho
    subst ho
    split at hx
    · cases hx
      exact lv_ineg hxc hb hd (k H locs lsr hR hS hL)
    · cases hx
  · simp only [opOK, beq_iff_eq] at ho
    subst ho
    split at hx
    · cases hx
      exact lv_ishl hxc hb hd (k H locs lsr hR hS hL)
    · cases hx
  · simp only [opOK, beq_iff_eq] at ho
    subst ho
    split at hx
    · cases hx
      exact lv_ishr hxc hb hd (k H locs lsr hR hS hL)
    · cases hx
  · simp only [opOK, beq_iff_eq] at ho
    subst ho
    split at hx
    · cases hx
      exact lv_iushr hxc hb hd rfl (k H locs lsr hR hS hL)
    · cases hx
  · simp only [opOK, beq_iff_eq] at ho
    subst ho
    split at hx
    · cases hx
      exact lv_i2l hxc hb hd rfl (k H locs lsr hR hS hL)
    · cases hx
  · simp only [opOK, beq_iff_eq] at ho
    subst ho
    split at hx
    · cases hx
      exact lv_l2i hxc hb hd rfl (k H locs lsr hR hS hL)
    · cases hx
  · simp only [opOK, beq_iff_eq] at ho
    subst ho
    split at hx
    · cases hx
      exact lv_ladd hxc hb hd (k H locs lsr hR hS hL)
    · cases hx
  · simp only [opOK, beq_iff_eq] at ho
    subst ho
    split at hx
    · cases hx
      exact lv_lmul hxc hb hd (k H locs lsr hR hS hL)
    · cases hx
  · simp only [opOK, beq_iff_eq] at ho
    subst ho
    split at hx
    · cases hx
      exact lv_land hxc hb hd (k H locs lsr hR hS hL)
    · cases hx
  · simp only [opOK, beq_iff_eq] at ho
    subst ho
    split at hx
    · cases hx
      exact lv_lor hxc hb hd (k H locs lsr hR hS hL)
    · cases hx
  · simp only [opOK, beq_iff_eq] at ho
    subst ho
    split at hx
    · cases hx
      exact lv_lushr hxc hb hd rfl (k H locs lsr hR hS hL)
    · cases hx
  · simp only [opOK, beq_iff_eq] at ho
    subst ho
    split at hx
    · cases hx
      exact lv_lshl hxc hb hd rfl (k H locs lsr hR hS hL)
    · cases hx
  · simp only [opOK, beq_iff_eq] at ho
    subst ho
    split at hx
    · cases hx
      exact W.lcmp hxc hb hd (k H locs lsr hR hS hL)
    · cases hx
  · simp only [opOK, beq_iff_eq] at ho
    subst ho
    split at hx
    · rename_i a r
      split at hx
      · rename_i hla
        cases hx
        have ha := layLt a hla.2
        have he := wl_get ρ cI cZ h ha
        by_cases h1 : lay a < 1000
        · rw [ct_arr hla.1 h1] at he
          exact va_alen hxc hb hK hR a 0 he (ty := .int) rfl rfl hd (k H locs lsr hR hS hL)
        · rw [ct_arz (by omega)] at he
          exact va_alen hxc hb hK hR a 1 he (ty := .boolean) rfl rfl hd (k H locs lsr hR hS hL)
      · cases hx
    · cases hx
  · simp only [opOK, Bool.and_eq_true, beq_iff_eq] at ho
    obtain ⟨rfl, ho⟩ := ho
    split at hx
    · split at hx
      · rename_i hla
        cases hx
        exact ex_get C0 hd ho hla hR (k H locs lsr hR hS hL)
      · cases hx
    · cases hx
  · simp only [opOK, Bool.and_eq_true, beq_iff_eq] at ho
    obtain ⟨rfl, ho⟩ := ho
    split at hx
    · rename_i hf
      split at hx
      · rename_i hla
        cases hx
        exact ex_put C0 hd ho hla hf hR hS (fun H' locs' hR' hS' => k H' locs' lsr hR' hS' hL)
      · cases hx
    · rename_i hf
      split at hx
      · rename_i hla
        cases hx
        exact ex_putL C0 hd ho hla hf hR hS (fun H' locs' hR' hS' => k H' locs' lsr hR' hS' hL)
      · cases hx
    · cases hx
  · cases hx
theorem run1_ok (C : Cx sc M ρ D cI cZ A p R s m args meth c) : ∀ (L : List Op1) {pc : Nat} {ls st ls' st' : List Value} {h h' : HS}, segOK M pc L = true → run1 L ls st h = some (ls', st', h') →
    ExK M ρ D cI cZ A p l e R s m args below meth c cells slots Q (segPc pc L) ls' st' h' → ExK M ρ D cI cZ A p l e R s m args below meth c cells slots Q pc ls st h
  | [], pc, ls, st, ls', st', h, h', _, hx, k => by
    simp only [run1] at hx
    cases hx
    exact k
  | (i, n, x, v) :: r, pc, ls, st, ls', st', h, h', ho, hx, k => by
    simp only [segOK, Bool.and_eq_true, decide_eq_true_eq] at ho
    simp only [run1] at hx
    split at hx
    · rename_i ls1 st1 h1 he
      exact ex_ok C ho.1.1 ho.1.2 he (run1_ok C r ho.2 hx k)
    · cases hx
end SIM2
end
section
/-! the judgement: if the pure value o is some x, then from this frame the machine comes to the method's end with x -/
def RetAt (M : MI) (pc : Nat) (r : Option Value) : Prop := match r with
  | none => decode (mC M) pc = .ok (.return_, 1) ∧ mT M = none
  | some (.int v) => decode (mC M) pc = .ok (.ireturn, 1) ∧ ∃ ty, mT M = some ty ∧ narrow ty (.int v) = .int v
  | some (.long _) => decode (mC M) pc = .ok (.lreturn, 1) ∧ mT M = some .long
  | some (.ref _) => decode (mC M) pc = .ok (.areturn, 1) ∧ ∃ n, mT M = some (.object n)
  | _ => False
def Sim {α : Type} (sc : Option (Nat × (Nat → Int32))) (M : MI) (cv : α → Option Value × HS) (pc : Nat) (ls st : List Value) (h : HS) (o : Option α) : Prop :=
  ∀ x, o = some x → ∀ (ρ : Nat → Nat) (D : va_G) (cI cZ : ClassId) (A : Nat → Prop) (p : Program) (l : Launch) (e : Env) (R : Room) (s : State) (m : MethodId) (args : Array Value) (below : List Frame) (meth : Method) (c : Code), Cx sc M ρ D cI cZ A p R s m args meth c →
  ∀ (cells slots : Nat) (Q : State → Prop), cells ≤ R.cells → slots ≤ R.slots →
  (∀ (H' : Heap) (locs' : List Loc) (pc' : Nat) (lsr' : Array Slot), Rep ρ D cI cZ (cv x).2 H' → va_S A s.heap H' locs' → RetAt M pc' (cv x).1 → W p l e R s m args below meth c H' locs' cells slots Q (F0 m pc' lsr' ((cv x).1.map (rz ρ)).toList)) →
  ExK M ρ D cI cZ A p l e R s m args below meth c cells slots Q pc ls st h
def wsM (M : MI) : List Jvm.Cond := .code (mY M) (mC M) (mL M) (mT M) :: lw_gd
def rmM (M : MI) : Room := { frames := mF M, cells := 0, slots := 0, locals := mR M }
/-- a method's contract -/
def CSim {α : Type} (M : MI) (cv : α → Option Value × HS) (as : List Value) (h : HS) (o : Option α) : Prop :=
  ∀ x, o = some x → ∀ (l : Launch) (ρ : Nat → Nat) (D : va_G) (cI cZ : ClassId) (A : Nat → Prop), (∀ i j, i < 50 → j < 50 → ρ i = ρ j → i = j) → (∀ i, i < 50 → A (ρ i)) →
  Met l (mY M) (wsM M) (rmM M) (fun v U => v = (as.map (rz ρ)).toArray ∧ Rep ρ D cI cZ h U.heap ∧ va_K D vwCl (tysI cI cZ) U) (fun _ st oc t => oc = .returned ((cv x).1.map (rz ρ)) ∧ Rep ρ D cI cZ (cv x).2 t.heap ∧ va_F A st t) 0 0 A
section RULES
variable {α β γ : Type} {sc : Option (Nat × (Nat → Int32))} {M N : MI} {cv : α → Option Value × HS} {pc : Nat} {ls st : List Value} {h : HS} {o : Option α}
/-- straight code -/
theorem s_run (L : List Op1) {ls' st' : List Value} {h' : HS} (hL : segOK M pc L = true) (hx : run1 L ls st h = some (ls', st', h')) {pc' : Nat} (hp : segPc pc L = pc') (k : Sim sc M cv pc' ls' st' h' o) : Sim sc M cv pc ls st h o := by
  subst hp
  intro x hx' ρ D cI cZ A p l e R s m args below meth c C cells slots Q h1 h2 fin
  exact run1_ok C L hL hx (k x hx' ρ D cI cZ A p l e R s m args below meth c C cells slots Q h1 h2 fin)
theorem s_none : Sim sc M cv pc ls st h none := fun x hx => by cases hx
theorem s_ret {x : α} {r : Option Value} (hcv : cv x = (r, h)) (hst : st = r.toList) (hr : RetAt M pc r) : Sim sc M cv pc ls st h (some x) := by
  intro y hy ρ D cI cZ A p l e R s m args below meth c C cells slots Q h1 h2 fin H locs lsr hR hS hL
  cases hy
  have := fin H locs pc lsr (by rw [hcv]; exact hR) hS (by rw [hcv]; exact hr)
  rw [hcv] at this
  subst hst
  cases r
  · exact this
  · exact this
theorem s_jump {off : Int} {tgt : Nat} (hd : decode (mC M) pc = .ok (.goto off, 3)) (ht : (pc : Int) + off = (tgt : Int)) (k : Sim sc M cv tgt ls st h o) : Sim sc M cv pc ls st h o := by
  intro x hx ρ D cI cZ A p l e R s m args below meth c C cells slots Q h1 h2 fin H locs lsr hR hS hL
  exact lv_goto C.1 C.2.1 hd ht (k x hx ρ D cI cZ A p l e R s m args below meth c C cells slots Q h1 h2 fin H locs lsr hR hS hL)
/-! branches: 'a < b', 'a = b' alone -/
section BR
variable {a b : Int32} {off : Int} {tgt : Nat} {oT oF : Option α}
theorem s_icmp_lt (hd : decode (mC M) pc = .ok (.if_icmp .lt off, 3)) (ht : (pc : Int) + off = (tgt : Int)) (kT : a < b → Sim sc M cv tgt ls st h oT) (kF : ¬ a < b → Sim sc M cv (pc + 3) ls st h oF) : Sim sc M cv pc ls (.int b :: .int a :: st) h (if a < b then oT else oF) := by
  intro x hx ρ D cI cZ A p l e R s m args below meth c C cells slots Q h1 h2 fin H locs lsr hR hS hL
  refine lv_icmp_lt C.1 C.2.1 hd ht (fun z => ?_) (fun z => ?_)
  · rw [if_pos z] at hx
    exact kT z x hx ρ D cI cZ A p l e R s m args below meth c C cells slots Q h1 h2 fin H locs lsr hR hS hL
  · rw [if_neg z] at hx
    exact kF z x hx ρ D cI cZ A p l e R s m args below meth c C cells slots Q h1 h2 fin H locs lsr hR hS hL
theorem s_icmp_ge (hd : decode (mC M) pc = .ok (.if_icmp .ge off, 3)) (ht : (pc : Int) + off = (tgt : Int)) (kT : a < b → Sim sc M cv (pc + 3) ls st h oT) (kF : ¬ a < b → Sim sc M cv tgt ls st h oF) : Sim sc M cv pc ls (.int b :: .int a :: st) h (if a < b then oT else oF) := by
  intro x hx ρ D cI cZ A p l e R s m args below meth c C cells slots Q h1 h2 fin H locs lsr hR hS hL
  refine lv_icmp_ge C.1 C.2.1 hd ht (fun z => ?_) (fun z => ?_)
  · have z : ¬ a < b := Int32.not_lt.mpr z
    rw [if_neg z] at hx
    exact kF z x hx ρ D cI cZ A p l e R s m args below meth c C cells slots Q h1 h2 fin H locs lsr hR hS hL
  · have z : a < b := Int32.not_le.mp z
    rw [if_pos z] at hx
    exact kT z x hx ρ D cI cZ A p l e R s m args below meth c C cells slots Q h1 h2 fin H locs lsr hR hS hL
theorem s_icmp_gt (hd : decode (mC M) pc = .ok (.if_icmp .gt off, 3)) (ht : (pc : Int) + off = (tgt : Int)) (kT : b < a → Sim sc M cv tgt ls st h oT) (kF : ¬ b < a → Sim sc M cv (pc + 3) ls st h oF) : Sim sc M cv pc ls (.int b :: .int a :: st) h (if b < a then oT else oF) := by
  intro x hx ρ D cI cZ A p l e R s m args below meth c C cells slots Q h1 h2 fin H locs lsr hR hS hL
  refine lv_icmp_gt C.1 C.2.1 hd ht (fun z => ?_) (fun z => ?_)
  · rw [if_pos z] at hx
    exact kT z x hx ρ D cI cZ A p l e R s m args below meth c C cells slots Q h1 h2 fin H locs lsr hR hS hL
  · rw [if_neg z] at hx
    exact kF z x hx ρ D cI cZ A p l e R s m args below meth c C cells slots Q h1 h2 fin H locs lsr hR hS hL
theorem s_icmp_le (hd : decode (mC M) pc = .ok (.if_icmp .le off, 3)) (ht : (pc : Int) + off = (tgt : Int)) (kT : b < a → Sim sc M cv (pc + 3) ls st h oT) (kF : ¬ b < a → Sim sc M cv tgt ls st h oF) : Sim sc M cv pc ls (.int b :: .int a :: st) h (if b < a then oT else oF) := by
  intro x hx ρ D cI cZ A p l e R s m args below meth c C cells slots Q h1 h2 fin H locs lsr hR hS hL
  refine lv_icmp_le C.1 C.2.1 hd ht (fun z => ?_) (fun z => ?_)
  · have z : ¬ b < a := Int32.not_lt.mpr z
    rw [if_neg z] at hx
    exact kF z x hx ρ D cI cZ A p l e R s m args below meth c C cells slots Q h1 h2 fin H locs lsr hR hS hL
  · have z : b < a := Int32.not_le.mp z
    rw [if_pos z] at hx
    exact kT z x hx ρ D cI cZ A p l e R s m args below meth c C cells slots Q h1 h2 fin H locs lsr hR hS hL
theorem s_icmp_eq (hd : decode (mC M) pc = .ok (.if_icmp .eq off, 3)) (ht : (pc : Int) + off = (tgt : Int)) (kT : a = b → Sim sc M cv tgt ls st h oT) (kF : ¬ a = b → Sim sc M cv (pc + 3) ls st h oF) : Sim sc M cv pc ls (.int b :: .int a :: st) h (if a = b then oT else oF) := by
  intro x hx ρ D cI cZ A p l e R s m args below meth c C cells slots Q h1 h2 fin H locs lsr hR hS hL
  refine lv_icmp_eq C.1 C.2.1 hd ht (fun z => ?_) (fun z => ?_)
  · rw [if_pos z] at hx
    exact kT z x hx ρ D cI cZ A p l e R s m args below meth c C cells slots Q h1 h2 fin H locs lsr hR hS hL
  · rw [if_neg z] at hx
    exact kF z x hx ρ D cI cZ A p l e R s m args below meth c C cells slots Q h1 h2 fin H locs lsr hR hS hL
theorem s_icmp_ne (hd : decode (mC M) pc = .ok (.if_icmp .ne off, 3)) (ht : (pc : Int) + off = (tgt : Int)) (kT : a = b → Sim sc M cv (pc + 3) ls st h oT) (kF : ¬ a = b → Sim sc M cv tgt ls st h oF) : Sim sc M cv pc ls (.int b :: .int a :: st) h (if a = b then oT else oF) := by
  intro x hx ρ D cI cZ A p l e R s m args below meth c C cells slots Q h1 h2 fin H locs lsr hR hS hL
  refine lv_icmp_ne C.1 C.2.1 hd ht (fun z => ?_) (fun z => ?_)
  · rw [if_neg z] at hx
    exact kF z x hx ρ D cI cZ A p l e R s m args below meth c C cells slots Q h1 h2 fin H locs lsr hR hS hL
  · rw [if_pos z] at hx
    exact kT z x hx ρ D cI cZ A p l e R s m args below meth c C cells slots Q h1 h2 fin H locs lsr hR hS hL
theorem s_if_lt (hd : decode (mC M) pc = .ok (.ifCond .lt off, 3)) (ht : (pc : Int) + off = (tgt : Int)) (kT : a < 0 → Sim sc M cv tgt ls st h oT) (kF : ¬ a < 0 → Sim sc M cv (pc + 3) ls st h oF) : Sim sc M cv pc ls (.int a :: st) h (if a < 0 then oT else oF) := by
  intro x hx ρ D cI cZ A p l e R s m args below meth c C cells slots Q h1 h2 fin H locs lsr hR hS hL
  refine lv_if_lt C.1 C.2.1 hd ht (fun z => ?_) (fun z => ?_)
  · rw [if_pos z] at hx
    exact kT z x hx ρ D cI cZ A p l e R s m args below meth c C cells slots Q h1 h2 fin H locs lsr hR hS hL
  · rw [if_neg z] at hx
    exact kF z x hx ρ D cI cZ A p l e R s m args below meth c C cells slots Q h1 h2 fin H locs lsr hR hS hL
theorem s_if_ge (hd : decode (mC M) pc = .ok (.ifCond .ge off, 3)) (ht : (pc : Int) + off = (tgt : Int)) (kT : a < 0 → Sim sc M cv (pc + 3) ls st h oT) (kF : ¬ a < 0 → Sim sc M cv tgt ls st h oF) : Sim sc M cv pc ls (.int a :: st) h (if a < 0 then oT else oF) := by
  intro x hx ρ D cI cZ A p l e R s m args below meth c C cells slots Q h1 h2 fin H locs lsr hR hS hL
  refine lv_if_ge C.1 C.2.1 hd ht (fun z => ?_) (fun z => ?_)
  · have z : ¬ a < 0 := Int32.not_lt.mpr z
    rw [if_neg z] at hx
    exact kF z x hx ρ D cI cZ A p l e R s m args below meth c C cells slots Q h1 h2 fin H locs lsr hR hS hL
  · have z : a < 0 := Int32.not_le.mp z
    rw [if_pos z] at hx
    exact kT z x hx ρ D cI cZ A p l e R s m args below meth c C cells slots Q h1 h2 fin H locs lsr hR hS hL
theorem s_if_gt (hd : decode (mC M) pc = .ok (.ifCond .gt off, 3)) (ht : (pc : Int) + off = (tgt : Int)) (kT : 0 < a → Sim sc M cv tgt ls st h oT) (kF : ¬ 0 < a → Sim sc M cv (pc + 3) ls st h oF) : Sim sc M cv pc ls (.int a :: st) h (if 0 < a then oT else oF) := by
  intro x hx ρ D cI cZ A p l e R s m args below meth c C cells slots Q h1 h2 fin H locs lsr hR hS hL
  refine lv_if_gt C.1 C.2.1 hd ht (fun z => ?_) (fun z => ?_)
  · rw [if_pos z] at hx
    exact kT z x hx ρ D cI cZ A p l e R s m args below meth c C cells slots Q h1 h2 fin H locs lsr hR hS hL
  · rw [if_neg z] at hx
    exact kF z x hx ρ D cI cZ A p l e R s m args below meth c C cells slots Q h1 h2 fin H locs lsr hR hS hL
theorem s_if_le (hd : decode (mC M) pc = .ok (.ifCond .le off, 3)) (ht : (pc : Int) + off = (tgt : Int)) (kT : 0 < a → Sim sc M cv (pc + 3) ls st h oT) (kF : ¬ 0 < a → Sim sc M cv tgt ls st h oF) : Sim sc M cv pc ls (.int a :: st) h (if 0 < a then oT else oF) := by
  intro x hx ρ D cI cZ A p l e R s m args below meth c C cells slots Q h1 h2 fin H locs lsr hR hS hL
  refine lv_if_le C.1 C.2.1 hd ht (fun z => ?_) (fun z => ?_)
  · have z : ¬ 0 < a := Int32.not_lt.mpr z
    rw [if_neg z] at hx
    exact kF z x hx ρ D cI cZ A p l e R s m args below meth c C cells slots Q h1 h2 fin H locs lsr hR hS hL
  · have z : 0 < a := Int32.not_le.mp z
    rw [if_pos z] at hx
    exact kT z x hx ρ D cI cZ A p l e R s m args below meth c C cells slots Q h1 h2 fin H locs lsr hR hS hL
theorem s_if_eq (hd : decode (mC M) pc = .ok (.ifCond .eq off, 3)) (ht : (pc : Int) + off = (tgt : Int)) (kT : a = 0 → Sim sc M cv tgt ls st h oT) (kF : ¬ a = 0 → Sim sc M cv (pc + 3) ls st h oF) : Sim sc M cv pc ls (.int a :: st) h (if a = 0 then oT else oF) := by
  intro x hx ρ D cI cZ A p l e R s m args below meth c C cells slots Q h1 h2 fin H locs lsr hR hS hL
  refine lv_if_eq C.1 C.2.1 hd ht (fun z => ?_) (fun z => ?_)
  · rw [if_pos z] at hx
    exact kT z x hx ρ D cI cZ A p l e R s m args below meth c C cells slots Q h1 h2 fin H locs lsr hR hS hL
  · rw [if_neg z] at hx
    exact kF z x hx ρ D cI cZ A p l e R s m args below meth c C cells slots Q h1 h2 fin H locs lsr hR hS hL
theorem s_if_ne (hd : decode (mC M) pc = .ok (.ifCond .ne off, 3)) (ht : (pc : Int) + off = (tgt : Int)) (kT : a = 0 → Sim sc M cv (pc + 3) ls st h oT) (kF : ¬ a = 0 → Sim sc M cv tgt ls st h oF) : Sim sc M cv pc ls (.int a :: st) h (if a = 0 then oT else oF) := by
  intro x hx ρ D cI cZ A p l e R s m args below meth c C cells slots Q h1 h2 fin H locs lsr hR hS hL
  refine lv_if_ne C.1 C.2.1 hd ht (fun z => ?_) (fun z => ?_)
  · rw [if_neg z] at hx
    exact kF z x hx ρ D cI cZ A p l e R s m args below meth c C cells slots Q h1 h2 fin H locs lsr hR hS hL
  · rw [if_pos z] at hx
    exact kT z x hx ρ D cI cZ A p l e R s m args below meth c C cells slots Q h1 h2 fin H locs lsr hR hS hL
end BR
def b2i (b : Bool) : Int32 := if b then 1 else 0
theorem b2i_0 (b : Bool) : (b2i b = 0) ↔ ¬ b = true := by cases b <;> decide
section BB
variable {b : Bool} {off : Int} {tgt : Nat} {oT oF : Option α}
theorem s_bif_eq (hd : decode (mC M) pc = .ok (.ifCond .eq off, 3)) (ht : (pc : Int) + off = (tgt : Int)) (kT : b = true → Sim sc M cv (pc + 3) ls st h oT) (kF : ¬ b = true → Sim sc M cv tgt ls st h oF) : Sim sc M cv pc ls (.int (b2i b) :: st) h (if b = true then oT else oF) := by
  intro x hx ρ D cI cZ A p l e R s m args below meth c C cells slots Q h1 h2 fin H locs lsr hR hS hL
  refine lv_if_eq C.1 C.2.1 hd ht (fun z => ?_) (fun z => ?_)
  · rw [b2i_0] at z
    rw [if_neg z] at hx
    exact kF z x hx ρ D cI cZ A p l e R s m args below meth c C cells slots Q h1 h2 fin H locs lsr hR hS hL
  · rw [b2i_0, Decidable.not_not] at z
    rw [if_pos z] at hx
    exact kT z x hx ρ D cI cZ A p l e R s m args below meth c C cells slots Q h1 h2 fin H locs lsr hR hS hL
theorem s_bif_ne (hd : decode (mC M) pc = .ok (.ifCond .ne off, 3)) (ht : (pc : Int) + off = (tgt : Int)) (kT : b = true → Sim sc M cv tgt ls st h oT) (kF : ¬ b = true → Sim sc M cv (pc + 3) ls st h oF) : Sim sc M cv pc ls (.int (b2i b) :: st) h (if b = true then oT else oF) := by
  intro x hx ρ D cI cZ A p l e R s m args below meth c C cells slots Q h1 h2 fin H locs lsr hR hS hL
  refine lv_if_ne C.1 C.2.1 hd ht (fun z => ?_) (fun z => ?_)
  · rw [b2i_0, Decidable.not_not] at z
    rw [if_pos z] at hx
    exact kT z x hx ρ D cI cZ A p l e R s m args below meth c C cells slots Q h1 h2 fin H locs lsr hR hS hL
  · rw [b2i_0] at z
    rw [if_neg z] at hx
    exact kF z x hx ρ D cI cZ A p l e R s m args below meth c C cells slots Q h1 h2 fin H locs lsr hR hS hL
end BB
/-- a case told apart in the pure value alone -/
theorem s_ite {q : Prop} {_ : Decidable q} {oT oF : Option α} (kT : q → Sim sc M cv pc ls st h oT) (kF : ¬ q → Sim sc M cv pc ls st h oF) : Sim sc M cv pc ls st h (if q then oT else oF) := by
  by_cases z : q
  · rw [if_pos z]; exact kT z
  · rw [if_neg z]; exact kF z
theorem s_look {dflt : Int} {ps : Array (Int × Int)} {len : Nat} {y : Int32} {off : Int} {tgt : Nat} (hd : decode (mC M) pc = .ok (.lookupswitch dflt ps, len)) (hp : (ps.toList.zip (ps.toList.drop 1)).all (fun (a, next) => a.1 < next.1) = true) (ho : Op.lookupswitch.offset ps.toList dflt y.toInt = off) (ht : (pc : Int) + off = (tgt : Int))
    (k : Sim sc M cv tgt ls st h o) : Sim sc M cv pc ls (.int y :: st) h o := by
  intro x hx ρ D cI cZ A p l e R s m args below meth c C cells slots Q h1 h2 fin H locs lsr hR hS hL
  exact lv_lookup C.1 C.2.1 hd hp ho ht (k x hx ρ D cI cZ A p l e R s m args below meth c C cells slots Q h1 h2 fin H locs lsr hR hS hL)
theorem s_tabOut {dflt lo hi : Int} {offs : Array Int} {len : Nat} {y : Int32} {tgt : Nat} (hd : decode (mC M) pc = .ok (.tableswitch dflt lo hi offs, len)) (hy : y.toInt < lo ∨ hi < y.toInt) (ht : (pc : Int) + dflt = (tgt : Int))
    (k : Sim sc M cv tgt ls st h o) : Sim sc M cv pc ls (.int y :: st) h o := by
  intro x hx ρ D cI cZ A p l e R s m args below meth c C cells slots Q h1 h2 fin H locs lsr hR hS hL
  exact lv_tableOut C.1 C.2.1 hd hy ht (k x hx ρ D cI cZ A p l e R s m args below meth c C cells slots Q h1 h2 fin H locs lsr hR hS hL)
theorem s_tabIn {dflt lo hi : Int} {offs : Array Int} {len : Nat} {y : Int32} {off : Int} {tgt : Nat} (v : Int32) (hy : y = v) (hd : decode (mC M) pc = .ok (.tableswitch dflt lo hi offs, len)) (hy1 : ¬ v.toInt < lo) (hy2 : ¬ hi < v.toInt) (ho : offs[(v.toInt - lo).toNat]? = some off) (ht : (pc : Int) + off = (tgt : Int))
    (k : Sim sc M cv tgt ls st h o) : Sim sc M cv pc ls (.int y :: st) h o := by
  subst hy
  intro x hx ρ D cI cZ A p l e R s m args below meth c C cells slots Q h1 h2 fin H locs lsr hR hS hL
  exact lv_tableIn C.1 C.2.1 hd hy1 hy2 ho ht (k x hx ρ D cI cZ A p l e R s m args below meth c C cells slots Q h1 h2 fin H locs lsr hR hS hL)
/-! arrays, divisions, constants of the pool -/
def inB (i : Int32) (n : Nat) : Bool := decide (0 ≤ i.toInt) && decide (i.toInt < n)
theorem inB_in {i : Int32} {n : Nat} (h : inB i n = true) : vp_in i n := by
  simp only [inB, Bool.and_eq_true, decide_eq_true_eq] at h
  exact vp_in_iff.mpr h
def rd (h : HS) (a n : Nat) (i : Int32) : Option Int32 := if inB i n = true then some (h.1 a i.toNatClampNeg) else none
def wr (h : HS) (a n : Nat) (i v : Int32) : Option HS := if inB i n = true then some (hset h a i.toNatClampNeg v) else none
def dv (x y : Int32) : Option Int32 := if y = 0 then none else some (x / y)
def rm (x y : Int32) : Option Int32 := if y = 0 then none else some (x - x / y * y)
def lrm (x y : Int64) : Option Int64 := if y = 0 then none else some (x - x / y * y)
def bd {β γ : Type} (o : Option β) (k : β → Option γ) : Option γ := match o with
  | some x => k x
  | none => none
def Lt {β γ : Type} (x : β) (k : β → γ) : γ := k x
theorem bd_some {o : Option β} {k : β → Option γ} {x : γ} (hx : bd o k = some x) : ∃ y, o = some y ∧ k y = some x := by
  cases o with
  | none => cases hx
  | some y => exact ⟨y, rfl, hx⟩
theorem s_iald {a n : Nat} {i : Int32} {k : Int32 → Option α} (hd : decode (mC M) pc = .ok (.iaload, 1)) (hl : lay a = n + 100 ∧ n < 900) (kk : ∀ v, Sim sc M cv (pc + 1) ls (.int v :: st) h (k v)) : Sim sc M cv pc ls (.int i :: .ref a :: st) h (bd (rd h a n i) k) := by
  intro x hx ρ D cI cZ A p l e R s m args below meth c C cells slots Q h1 h2 fin H locs lsr hR hS hL
  obtain ⟨v, hv, hx⟩ := bd_some hx
  unfold rd at hv
  split at hv
  · rename_i hin
    cases hv
    have he := wl_get ρ cI cZ h (layLt a (by omega))
    rw [ct_arr (by omega) (by omega), show alen a = n by unfold alen; rw [if_pos (by omega)]; omega] at he
    exact va_iald C.1 C.2.1 C.2.2.2.2.2.2.2.2.2.1 hR a 0 he rfl (inB_in hin) hd (kk _ x hx ρ D cI cZ A p l e R s m args below meth c C cells slots Q h1 h2 fin H locs lsr hR hS hL)
  · cases hv
theorem s_zald {a n : Nat} {i : Int32} {k : Int32 → Option α} (hd : decode (mC M) pc = .ok (.baload, 1)) (hl : lay a = n + 1000 ∧ n < 900) (kk : ∀ v, Sim sc M cv (pc + 1) ls (.int v :: st) h (k v)) : Sim sc M cv pc ls (.int i :: .ref a :: st) h (bd (rd h a n i) k) := by
  intro x hx ρ D cI cZ A p l e R s m args below meth c C cells slots Q h1 h2 fin H locs lsr hR hS hL
  obtain ⟨v, hv, hx⟩ := bd_some hx
  unfold rd at hv
  split at hv
  · rename_i hin
    cases hv
    have he := wl_get ρ cI cZ h (layLt a (by omega))
    rw [ct_arz (by omega), show alen a = n by unfold alen; rw [if_neg (by omega)]; omega] at he
    exact va_zald C.1 C.2.1 C.2.2.2.2.2.2.2.2.2.1 hR a 1 he rfl (inB_in hin) hd (kk _ x hx ρ D cI cZ A p l e R s m args below meth c C cells slots Q h1 h2 fin H locs lsr hR hS hL)
  · cases hv
theorem s_sald {L : Nat} {xs : Nat → Int32} {i : Int32} {k : Int32 → Option α} (hsc : sc = some (L, xs)) (hd : decode (mC M) pc = .ok (.iaload, 1)) (kk : ∀ v, Sim sc M cv (pc + 1) ls (.int v :: st) h (k v)) : Sim sc M cv pc ls (.int i :: .ref 99 :: st) h (bd (if inB i L = true then some (xs i.toNatClampNeg) else none) k) := by
  intro x hx ρ D cI cZ A p l e R s m args below meth c C cells slots Q h1 h2 fin H locs lsr hR hS hL
  obtain ⟨v, hv, hx⟩ := bd_some hx
  split at hv
  · rename_i hin
    cases hv
    obtain ⟨q1, q2, q3⟩ := C.2.2.2.2.2.2.2.2.2.2.2.2 L xs hsc
    exact va_sld C.1 C.2.1 q1 q2 q3 hS (inB_in hin) hd (kk _ x hx ρ D cI cZ A p l e R s m args below meth c C cells slots Q h1 h2 fin H locs lsr hR hS hL)
  · cases hv
theorem s_slen {L : Nat} {xs : Nat → Int32} (hsc : sc = some (L, xs)) (hd : decode (mC M) pc = .ok (.arraylength, 1)) (kk : Sim sc M cv (pc + 1) ls (.int (Int32.ofNat L) :: st) h o) : Sim sc M cv pc ls (.ref 99 :: st) h o := by
  intro x hx ρ D cI cZ A p l e R s m args below meth c C cells slots Q h1 h2 fin H locs lsr hR hS hL
  obtain ⟨q1, q2, q3⟩ := C.2.2.2.2.2.2.2.2.2.2.2.2 L xs hsc
  exact va_slen C.1 C.2.1 q1 q2 q3 hS hd (kk x hx ρ D cI cZ A p l e R s m args below meth c C cells slots Q h1 h2 fin H locs lsr hR hS hL)
theorem upd_hset (h : HS) (a k : Nat) (v : Int32) : (hset h a k v).1 a = upd (h.1 a) k v := by
  funext j
  simp [hset, upd]
theorem s_iast {a n : Nat} {i v : Int32} {k : HS → Option α} (hd : decode (mC M) pc = .ok (.iastore, 1)) (hl : lay a = n + 100 ∧ n < 900) (kk : ∀ h', Sim sc M cv (pc + 1) ls st h' (k h')) : Sim sc M cv pc ls (.int v :: .int i :: .ref a :: st) h (bd (wr h a n i v) k) := by
  intro x hx ρ D cI cZ A p l e R s m args below meth c C cells slots Q h1 h2 fin H locs lsr hR hS hL
  obtain ⟨h', hv, hx⟩ := bd_some hx
  unfold wr at hv
  split at hv
  · rename_i hin
    cases hv
    have he := wl_get ρ cI cZ h (layLt a (by omega))
    rw [ct_arr (by omega) (by omega), show alen a = n by unfold alen; rw [if_pos (by omega)]; omega] at he
    refine va_iast C.1 C.2.1 C.2.2.2.2.2.2.2.2.2.1 hR (wl_D C.2.2.2.2.2.2.2.2.2.2.1 C.2.2.2.2.2.2.2.2.2.2.2.1) hS a 0 he rfl (inB_in hin) hd (fun H1 locs1 hP _ hS1 => ?_)
    refine kk _ x hx ρ D cI cZ A p l e R s m args below meth c C cells slots Q h1 h2 fin H1 locs1 lsr ?_ hS1 hL
    unfold Rep
    rw [← wl_set ρ cI cZ h (hset h a i.toNatClampNeg v) (a := a) (.inl (cI, n, .inl (upd (h.1 a) i.toNatClampNeg v))) (by rw [ct_arr (by omega) (by omega), show alen a = n by unfold alen; rw [if_pos (by omega)]; omega, upd_hset]) (fun b hb => ct_off (by funext j; simp [hset, hb]) rfl)]
    exact hP
  · cases hv
theorem s_zast {a n : Nat} {i v : Int32} {k : HS → Option α} (hd : decode (mC M) pc = .ok (.bastore, 1)) (hl : lay a = n + 1000 ∧ n < 900) (hv : v = 0 ∨ v = 1) (kk : ∀ h', Sim sc M cv (pc + 1) ls st h' (k h')) : Sim sc M cv pc ls (.int v :: .int i :: .ref a :: st) h (bd (wr h a n i v) k) := by
  have hnar : vp_nar .boolean v = v := by rcases hv with rfl | rfl <;> rfl
  intro x hx ρ D cI cZ A p l e R s m args below meth c C cells slots Q h1 h2 fin H locs lsr hR hS hL
  obtain ⟨h', hv, hx⟩ := bd_some hx
  unfold wr at hv
  split at hv
  · rename_i hin
    cases hv
    have he := wl_get ρ cI cZ h (layLt a (by omega))
    rw [ct_arz (by omega), show alen a = n by unfold alen; rw [if_neg (by omega)]; omega] at he
    refine va_zast C.1 C.2.1 C.2.2.2.2.2.2.2.2.2.1 hR (wl_D C.2.2.2.2.2.2.2.2.2.2.1 C.2.2.2.2.2.2.2.2.2.2.2.1) hS a 1 he rfl (inB_in hin) hd (fun H1 locs1 hP _ hS1 => ?_)
    rw [hnar] at hP
    refine kk _ x hx ρ D cI cZ A p l e R s m args below meth c C cells slots Q h1 h2 fin H1 locs1 lsr ?_ hS1 hL
    unfold Rep
    rw [← wl_set ρ cI cZ h (hset h a i.toNatClampNeg v) (a := a) (.inl (cZ, n, .inl (upd (h.1 a) i.toNatClampNeg v))) (by rw [ct_arz (by omega), show alen a = n by unfold alen; rw [if_neg (by omega)]; omega, upd_hset]) (fun b hb => ct_off (by funext j; simp [hset, hb]) rfl)]
    exact hP
  · cases hv
theorem s_idiv {y z : Int32} {k : Int32 → Option α} (hd : decode (mC M) pc = .ok (.idiv, 1)) (kk : ∀ v, Sim sc M cv (pc + 1) ls (.int v :: st) h (k v)) : Sim sc M cv pc ls (.int y :: .int z :: st) h (bd (dv z y) k) := by
  intro x hx ρ D cI cZ A p l e R s m args below meth c C cells slots Q h1 h2 fin H locs lsr hR hS hL
  obtain ⟨v, hv, hx⟩ := bd_some hx
  unfold dv at hv
  split at hv
  · cases hv
  · rename_i hne
    cases hv
    exact lv_idiv C.1 C.2.1 hd hne (kk _ x hx ρ D cI cZ A p l e R s m args below meth c C cells slots Q h1 h2 fin H locs lsr hR hS hL)
theorem s_irem {y z : Int32} {k : Int32 → Option α} (hd : decode (mC M) pc = .ok (.irem, 1)) (kk : ∀ v, Sim sc M cv (pc + 1) ls (.int v :: st) h (k v)) : Sim sc M cv pc ls (.int y :: .int z :: st) h (bd (rm z y) k) := by
  intro x hx ρ D cI cZ A p l e R s m args below meth c C cells slots Q h1 h2 fin H locs lsr hR hS hL
  obtain ⟨v, hv, hx⟩ := bd_some hx
  unfold rm at hv
  split at hv
  · cases hv
  · rename_i hne
    cases hv
    exact lv_irem C.1 C.2.1 hd hne (kk _ x hx ρ D cI cZ A p l e R s m args below meth c C cells slots Q h1 h2 fin H locs lsr hR hS hL)
theorem s_lrem {y z : Int64} {k : Int64 → Option α} (hd : decode (mC M) pc = .ok (.lrem, 1)) (kk : ∀ v, Sim sc M cv (pc + 1) ls (.long v :: st) h (k v)) : Sim sc M cv pc ls (.long y :: .long z :: st) h (bd (lrm z y) k) := by
  intro x hx ρ D cI cZ A p l e R s m args below meth c C cells slots Q h1 h2 fin H locs lsr hR hS hL
  obtain ⟨v, hv, hx⟩ := bd_some hx
  unfold lrm at hv
  split at hv
  · cases hv
  · rename_i hne
    cases hv
    exact lv_lrem C.1 C.2.1 hd hne (kk _ x hx ρ D cI cZ A p l e R s m args below meth c C cells slots Q h1 h2 fin H locs lsr hR hS hL)
theorem s_ldc2 {idx : Nat} {v : Int64} (j : Nat) (hj : lw_tbl[j]? = some (Jvm.Cond.constantLong (nmC (mO M)) idx v)) (hd : decode (mC M) pc = .ok (.ldc2_w idx, 3)) (k : Sim sc M cv (pc + 3) ls (.long v :: st) h o) : Sim sc M cv pc ls st h o := by
  intro x hx ρ D cI cZ A p l e R s m args below meth c C cells slots Q h1 h2 fin H locs lsr hR hS hL
  exact lv_ldc2 C.1 C.2.1 C.2.2.2.2.2.1 (C.2.2.2.2.2.2.1 _ (mem_gd (List.mem_of_getElem? hj) rfl)) hd (k x hx ρ D cI cZ A p l e R s m args below meth c C cells slots Q h1 h2 fin H locs lsr hR hS hL)
theorem s_ldcw {idx : Nat} {v : Int32} (j : Nat) (hj : lw_tbl[j]? = some (Jvm.Cond.constant (nmC (mO M)) idx v)) (hd : decode (mC M) pc = .ok (.ldc_w idx, 3)) (k : Sim sc M cv (pc + 3) ls (.int v :: st) h o) : Sim sc M cv pc ls st h o := by
  intro x hx ρ D cI cZ A p l e R s m args below meth c C cells slots Q h1 h2 fin H locs lsr hR hS hL
  exact lv_ldcw C.1 C.2.1 C.2.2.2.2.2.1 (C.2.2.2.2.2.2.1 _ (mem_gd (List.mem_of_getElem? hj) rfl)) hd (k x hx ρ D cI cZ A p l e R s m args below meth c C cells slots Q h1 h2 fin H locs lsr hR hS hL)
end RULES
end
section
/-! calls, entries, loops -/
theorem good_gd {w : Jvm.Cond} (h : w ∈ lw_gd) : w ∈ lw_gd ∧ ((w.onTables && w.keeps) = true ∨ ∃ ty, w = .arrayClass ty) := ⟨h, good_of_word (gd_good h)⟩
def ckB (M N : MI) (idx n j1 j4 j5 : Nat) : Bool :=
  decide (lw_tbl[j1]? = some (Jvm.Cond.methodLink (nmC (mO M)) idx (mY N))) && decide (lw_tbl[j4]? = some (Jvm.Cond.initialized (nmC (mO N)))) && decide (lw_tbl[j5]? = some (Jvm.Cond.code (mY N) (mC N) (mL N) (mT N))) && decide ((mY N).cls = nmC (mO N)) &&
  decide ((mY N).cls ≠ "java/lang/invoke/MethodHandle") && decide ((mY N).cls ≠ "java/lang/invoke/VarHandle") && decide ((parseMethodDescriptor (mY N).desc).map (fun d => d.parameters.length) = some n) && decide (mF N + 1 ≤ mF M) && decide (8 + (mL N + 11) + mR N ≤ mR M)
def ckV (M N : MI) (idx n j1 j2 j3 j4 j5 : Nat) : Bool :=
  ckB M N idx n j1 j4 j5 && decide (lw_tbl[j2]? = some (Jvm.Cond.instanceMethod (mY N))) && decide (lw_tbl[j3]? = some (Jvm.Cond.selects (nmC (mO N)) (mY N) (mY N)))
def ckS (M N : MI) (idx n j1 j2 j4 j5 : Nat) : Bool :=
  ckB M N idx n j1 j4 j5 && decide (lw_tbl[j2]? = some (Jvm.Cond.static (mY N)))
theorem s_blind {ρ : Nat → Nat} {D : va_G} {cI cZ : ClassId} {h : HS} {as : List Value} : FrameBlind (fun (v : Array Value) (U : State) => v = (as.map (rz ρ)).toArray ∧ Rep ρ D cI cZ h U.heap ∧ va_K D vwCl (tysI cI cZ) U) :=
  fun a U g mk q => ⟨q.1, q.2.1, va_K.moved (u := U) (U := U.calling g mk a) (Vm.Alike.refl U.vm) q.2.2⟩
section CALLS
variable {α β γ : Type} {sc : Option (Nat × (Nat → Int32))} {M N : MI} {cv : α → Option Value × HS} {cvn : β → Option Value × HS} {pc : Nat} {ls st stk : List Value} {h : HS} {o : Option α} {ob : Option β} {k : β → Option α} {idx n j1 j2 j3 j4 j5 : Nat}
theorem s_cb {R : Room} {s : State} {args : Array Value} (hts : ∀ w ∈ lw_gd, w.before args s = true) (hF : mF M ≤ R.frames) (hRm : mR M ≤ R.locals) (hck : ckB M N idx n j1 j4 j5 = true) :
    CallB R s args (nmC (mO M)) idx (mY N) (mC N) (mL N) (mT N) (wsM N) (rmM N) 0 0 n := by
  simp only [ckB, Bool.and_eq_true, decide_eq_true_eq] at hck
  obtain ⟨⟨⟨⟨⟨⟨⟨⟨c1, c4⟩, c5⟩, c6⟩, c7⟩, c8⟩, c9⟩, c10⟩, c11⟩ := hck
  refine callB_of n hts (fun w hw => ?_) rfl rfl rfl (by rw [c6]; exact hts _ (mem_gd (List.mem_of_getElem? c4) rfl)) (hts _ (mem_gd (List.mem_of_getElem? c1) rfl)) ⟨c7, c8, c9⟩ ⟨Nat.le_trans c10 hF, Nat.le_trans c11 hRm⟩
  unfold wsM at hw
  rcases List.mem_cons.mp hw with rfl | hw
  · exact good_gd (mem_gd (List.mem_of_getElem? c5) rfl)
  · exact good_gd hw
theorem s_sum {ρ : Nat → Nat} {pc : Nat} {ls : Array Slot} {m : MethodId} {g : List Value} (h : (st.map fun v => v.category).sum ≤ 8) : 2 * (F0 m pc ls g).monitorRoom + ((st.map (rz ρ)).map fun v => v.category).sum ≤ 8 := by
  refine lv_room ?_
  rw [List.map_map]
  have : ((fun v : Value => v.category) ∘ rz ρ) = fun v => v.category := by
    funext v
    exact rz_cat ρ v
  rw [this]
  exact h
theorem s_after {A : Nat → Prop} {s st₀ t T' : State} {H : Heap} {locs L : List Loc} (hS : va_S A s.heap H locs) (q0 : st₀.heap = H) (qL : ∀ q ∈ L, A q.base) (e1 : T'.heap = t.heap) (hF : va_F A st₀ t) : va_S A s.heap T'.heap (locs ++ L) := by
  obtain ⟨hz, hk⟩ := hF
  rw [q0] at hz hk
  refine ⟨Nat.le_trans hS.1 (by rw [e1]; exact hz), fun q h1 h2 => ?_, fun q hq => ?_⟩
  · rw [e1, hk q (Nat.lt_of_lt_of_le h1 hS.1) h2]
    exact hS.2.1 q h1 h2
  · rcases List.mem_append.mp hq with z | z
    · exact hS.2.2 q z
    · exact qL q z
theorem s_callV (hck : ckV M N idx n j1 j2 j3 j4 j5 = true) (as : List Value) (b : Nat) (hst : stk = as.reverse ++ .ref b :: st) (hlen : as.length = n) (hlay : lay b = mO N) (hcl : mO N < 6) (hW : (st.map fun v => v.category).sum ≤ 8) (hd : decode (mC M) pc = .ok (.invokevirtual idx, 3))
    (hc : CSim N cvn (.ref b :: as) h ob) (kk : ∀ y, Sim sc M cv (pc + 3) ls ((cvn y).1.toList ++ st) (cvn y).2 (k y)) : Sim sc M cv pc ls stk h (bd ob k) := by
  intro x hx ρ D cI cZ A p l e R s m args below meth c C cells slots Q h1 h2 fin H locs lsr hR hS hL
  obtain ⟨y, hy, hx⟩ := bd_some hx
  obtain ⟨hxc, hb, hml, -, -, hown, hts, hFr, hRm, hK, hi, hA, -⟩ := id C
  have hM := hc y hy l ρ D cI cZ A hi hA
  simp only [ckV, Bool.and_eq_true, decide_eq_true_eq] at hck
  obtain ⟨⟨c1, c2⟩, c3⟩ := hck
  have cb := s_cb (M := M) (N := N) hts hFr hRm c1
  have cw : CallW R s args (nmC (mO M)) (nmC (mO N)) idx (mY N) (mC N) (mL N) (mT N) (wsM N) (rmM N) 0 0 n := ⟨cb, hts _ (mem_gd (List.mem_of_getElem? c2) rfl), hts _ (mem_gd (List.mem_of_getElem? c3) rfl)⟩
  have hb50 : b < 50 := layLt b (by omega)
  have he := wl_get ρ cI cZ h hb50
  have hce : ct ρ cI cZ h b = .inr (mO N, fvs ρ h b (mO N)) := by
    unfold ct
    rw [if_pos (by omega), hlay]
  rw [hce] at he
  have hnm : (clC (mO N)).1 = nmC (mO N) := by
    have : ∀ k, k < 6 → (clC k).1 = nmC k := by decide +kernel
    exact this _ hcl
  have hrecv := va_recv hK hR (clC_at _ hcl) he
  dsimp only at hrecv
  rw [hnm] at hrecv
  have hr := va_runV (meth := meth) (cells := cells) (slots := slots) (locs := locs) (below := below) (e := e) (g := F0 m pc lsr (stk.map (rz ρ))) (rest := st.map (rz ρ)) (As := as.map (rz ρ)) (b := ρ b) (H := H) ⟨hxc, hb, hml, hown, hts⟩ hM cw ⟨s_blind, hrecv, fun U hU hWa => ⟨rfl, by rw [hU]; exact hR, va_K.moved hWa.alike hK⟩⟩ rfl (by rw [List.length_map]; exact hlen) hL.2.1 (by rw [hst]; simp [rz]) (s_sum hW) hd ⟨by simpa using h1, by simpa using h2⟩
  intro T hT X
  obtain ⟨v, st₀, t, T', L, q0, X', qL, e1, e2, ⟨ho, hR', hF⟩, go⟩ := hr T hT X
  cases ho
  have key := kk y x hx ρ D cI cZ A p l e R s m args below meth c C cells slots Q h1 h2 fin T'.heap (locs ++ L) lsr (by rw [e1]; exact hR') (s_after hS q0 qL e1 hF) hL T' rfl X'
  obtain ⟨t2, a1, b1⟩ := key
  refine ⟨t2, go t2 ?_, b1⟩
  have hlist : (((cvn y).1.toList ++ st).map (rz ρ)) = (((cvn y).1.map (rz ρ)).toList ++ st.map (rz ρ)) := by
    rw [List.map_append]
    congr 1
    cases (cvn y).1 <;> rfl
  rw [hlist] at a1
  exact a1
theorem s_callS (hck : ckS M N idx n j1 j2 j4 j5 = true) (as : List Value) (hst : stk = as.reverse ++ st) (hlen : as.length = n) (hW : (st.map fun v => v.category).sum ≤ 8) (hd : decode (mC M) pc = .ok (.invokestatic idx, 3))
    (hc : CSim N cvn as h ob) (kk : ∀ y, Sim sc M cv (pc + 3) ls ((cvn y).1.toList ++ st) (cvn y).2 (k y)) : Sim sc M cv pc ls stk h (bd ob k) := by
  intro x hx ρ D cI cZ A p l e R s m args below meth c C cells slots Q h1 h2 fin H locs lsr hR hS hL
  obtain ⟨y, hy, hx⟩ := bd_some hx
  obtain ⟨hxc, hb, hml, -, -, hown, hts, hFr, hRm, hK, hi, hA, -⟩ := id C
  have hM := hc y hy l ρ D cI cZ A hi hA
  simp only [ckS, Bool.and_eq_true, decide_eq_true_eq] at hck
  obtain ⟨c1, c2⟩ := hck
  have cb := s_cb (M := M) (N := N) hts hFr hRm c1
  have hr := va_runS (meth := meth) (cells := cells) (slots := slots) (locs := locs) (below := below) (e := e) (g := F0 m pc lsr (stk.map (rz ρ))) (rest := st.map (rz ρ)) (As := as.map (rz ρ)) (H := H) ⟨hxc, hb, hml, hown, hts⟩ hM ⟨cb, hts _ (mem_gd (List.mem_of_getElem? c2) rfl)⟩ ⟨s_blind, fun U hU hWa => ⟨rfl, by rw [hU]; exact hR, va_K.moved hWa.alike hK⟩⟩ rfl (by rw [List.length_map]; exact hlen) hL.2.1 (by rw [hst]; simp) (s_sum hW) hd ⟨by simpa using h1, by simpa using h2⟩
  intro T hT X
  obtain ⟨v, st₀, t, T', L, q0, X', qL, e1, e2, ⟨ho, hR', hF⟩, go⟩ := hr T hT X
  cases ho
  have key := kk y x hx ρ D cI cZ A p l e R s m args below meth c C cells slots Q h1 h2 fin T'.heap (locs ++ L) lsr (by rw [e1]; exact hR') (s_after hS q0 qL e1 hF) hL T' rfl X'
  obtain ⟨t2, a1, b1⟩ := key
  refine ⟨t2, go t2 ?_, b1⟩
  have hlist : (((cvn y).1.toList ++ st).map (rz ρ)) = (((cvn y).1.map (rz ρ)).toList ++ st.map (rz ρ)) := by
    rw [List.map_append]
    congr 1
    cases (cvn y).1 <;> rfl
  rw [hlist] at a1
  exact a1
end CALLS
/-! what a method answers: kinds -/
abbrev cI_ (h : HS) : Int32 → Option Value × HS := fun x => (some (.int x), h)
abbrev cZ_ (h : HS) : Bool → Option Value × HS := fun x => (some (.int (b2i x)), h)
abbrev cA_ (h : HS) : Nat → Option Value × HS := fun x => (some (.ref x), h)
abbrev cIH_ : Int32 × HS → Option Value × HS := fun x => (some (.int x.1), x.2)
abbrev cZH_ : Bool × HS → Option Value × HS := fun x => (some (.int (b2i x.1)), x.2)
abbrev cJH_ : Int64 × HS → Option Value × HS := fun x => (some (.long x.1), x.2)
abbrev cV_ : HS → Option Value × HS := fun x => (none, x)
def bd2 {β γ : Type} (o : Option (β × HS)) (k : β → HS → Option γ) : Option γ := bd o (fun q => k q.1 q.2)
/-! entries -/
def flatL (as : List Value) : List Value := as.flatMap (fun v => if v.category = 2 then [v, .null] else [v])
def entL (as : List Value) (n : Nat) : List Value := flatL as ++ List.replicate (n - (flatL as).length) .null
theorem flatL_cons (v : Value) (as : List Value) : flatL (v :: as) = (if v.category = 2 then [v, .null] else [v]) ++ flatL as := by
  simp [flatL]
theorem flat_len (ρ : Nat → Nat) (as : List Value) : (lg_sl (as.map (rz ρ))).length = (flatL as).length := by
  induction as with
  | nil => rfl
  | cons v as ih =>
    rw [flatL_cons, List.map_cons, show lg_sl (rz ρ v :: as.map (rz ρ)) = (if (rz ρ v).category = 2 then [.val (rz ρ v), .second] else [.val (rz ρ v)]) ++ lg_sl (as.map (rz ρ)) by simp [lg_sl], List.length_append, List.length_append, ih, rz_cat]
    split <;> rfl
theorem flat_mem (ρ : Nat → Nat) (as : List Value) : ∀ (k i : Nat) (v : Value), (flatL as)[i]? = some v → v ≠ .null → (k + i, rz ρ v) ∈ lv_args k (as.map (rz ρ)) := by
  induction as with
  | nil => intro k i v h; simp [flatL] at h
  | cons w as ih =>
    intro k i v h hn
    rw [flatL_cons] at h
    rw [List.map_cons]
    show (k + i, rz ρ v) ∈ (k, rz ρ w) :: lv_args (if (rz ρ w).category = 2 then k + 2 else k + 1) (as.map (rz ρ))
    rw [rz_cat]
    by_cases hc : w.category = 2
    · rw [if_pos hc] at h ⊢
      match i, h with
      | 0, h =>
        simp at h
        subst h
        exact List.mem_cons_self
      | 1, h =>
        simp at h
        exact absurd h.symm hn
      | i + 2, h =>
        have h : (flatL as)[i]? = some v := by simpa using h
        have := ih (k + 2) i v h hn
        rw [show k + (i + 2) = k + 2 + i by omega]
        exact List.mem_cons_of_mem _ this
    · rw [if_neg hc] at h ⊢
      match i, h with
      | 0, h =>
        simp at h
        subst h
        exact List.mem_cons_self
      | i + 1, h =>
        have h : (flatL as)[i]? = some v := by simpa using h
        have := ih (k + 1) i v h hn
        rw [show k + (i + 1) = k + 1 + i by omega]
        exact List.mem_cons_of_mem _ this
theorem ent_LR (ρ : Nat → Nat) (as : List Value) {n : Nat} (hn : (flatL as).length ≤ n) : LR ρ n (entL as n) ((lg_sl (as.map (rz ρ)) ++ List.replicate (n - (lg_sl (as.map (rz ρ))).length) Slot.unset).toArray) := by
  have h := lv_entry (as.map (rz ρ)) (n := n) (by rw [flat_len]; exact hn)
  refine ⟨by unfold entL; rw [List.length_append, List.length_replicate]; omega, h.1, h.2.1, fun i v hv hne => ?_⟩
  unfold entL at hv
  by_cases hl : i < (flatL as).length
  · rw [List.getElem?_append_left hl] at hv
    have := flat_mem ρ as 0 i v hv hne
    rw [Nat.zero_add] at this
    exact h.2.2 _ this
  · rw [List.getElem?_append_right (by omega)] at hv
    have := List.eq_of_mem_replicate (List.mem_of_getElem? hv)
    exact absurd this hne
theorem csim_of {α : Type} {M : MI} {cv : α → Option Value × HS} {as ls : List Value} {h : HS} {o : Option α} (hpl : plainName (mY M).cls = true) (hcl : (mY M).cls = nmC (mO M)) (hn : (flatL as).length ≤ mL M) (hls : entL as (mL M) = ls) (hS : Sim none M cv 0 ls [] h o) : CSim M cv as h o := by
  subst hls
  intro x hx l ρ D cI cZ A hi hA
  refine Met.ofW (cc := mC M) (maxL := mL M) (ret := mT M) hpl rfl ?_
  intro p e s m args below meth c s₁ B hml hv
  obtain ⟨rfl, hR, hK⟩ := hv
  have hts : ∀ w ∈ wsM M, w.before ((as.map (rz ρ)).toArray) s = true := atoms_spec (ws := wsM M) B.pre
  have hown : s.vm.findClass (nmC (mO M)) = some m.cls := by
    rw [← hcl]
    exact findClass_of_methodNamed B.named
  have C : Cx none M ρ D cI cZ A p (headSpec (wsM M) (rmM M)).room s m ((as.map (rz ρ)).toArray) meth c :=
    ⟨B.exec, B.bytes, hml, B.returns, B.notSynchronized, hown, fun w hw => hts w (List.mem_cons_of_mem _ hw), Nat.le_refl _, Nat.le_refl _, hK, hi, hA, fun L xs q => by cases q⟩
  rw [lg_entry_eq]
  refine hS x hx ρ D cI cZ A p l e (headSpec (wsM M) (rmM M)).room s m _ below meth c C 0 0 _ (Nat.zero_le _) (Nat.zero_le _) ?_ s.heap [] _ hR va_S.rf (ent_LR ρ as hn)
  intro H' locs' pc' lsr' hR' hS' hret
  have hb := B.bytes
  have hxc := B.exec
  have hrt := B.returns
  have hlk := B.notSynchronized
  cases hcv : (cv x).1 with
  | none =>
    rw [hcv] at hret
    refine W.vret (free := A) hxc hb (by rw [hrt]; exact hret.2) (fun t ht _ => ⟨rfl, by rw [ht]; exact hR', hS'.F ht⟩) hS'.2.2 hret.1 hlk
  | some v =>
    rw [hcv] at hret
    cases v with
    | int v =>
      obtain ⟨hd, ty, hty, hnar⟩ := hret
      exact W.zret (free := A) hxc hb (by rw [hrt]; exact hty) hnar (fun t ht _ => ⟨rfl, by rw [ht]; exact hR', hS'.F ht⟩) hS'.2.2 hd hlk
    | long v =>
      obtain ⟨hd, hty⟩ := hret
      exact W.lret (free := A) hxc hb (by rw [hrt]; exact hty) (fun t ht _ => ⟨rfl, by rw [ht]; exact hR', hS'.F ht⟩) hS'.2.2 hd hlk
    | ref v =>
      obtain ⟨hd, ty, hty⟩ := hret
      exact W.aret (free := A) hxc hb (by rw [hrt]; exact hty) (Or.inl ⟨_, rfl⟩) (Or.inr ⟨ρ v, rfl⟩) (fun t ht _ => ⟨rfl, by rw [ht]; exact hR', hS'.F ht⟩) hS'.2.2 hd hlk
    | float v => exact hret.elim
    | double v => exact hret.elim
    | null => exact hret.elim
    | retAddr v => exact hret.elim
end
section
section KINDS
variable {α β γ : Type} {sc : Option (Nat × (Nat → Int32))} {M N : MI} {cv : α → Option Value × HS} {pc : Nat} {ls st stk : List Value} {h : HS} {o : Option α} {idx n j1 j2 j3 j4 j5 : Nat}
theorem s_cVI {ob : Option Int32} {k : Int32 → Option α} (hck : ckV M N idx n j1 j2 j3 j4 j5 = true) (as : List Value) (b : Nat) (hst : stk = as.reverse ++ .ref b :: st) (hlen : as.length = n) (hlay : lay b = mO N) (hcl : mO N < 6) (hW : (st.map fun v => v.category).sum ≤ 8) (hd : decode (mC M) pc = .ok (.invokevirtual idx, 3))
    (hc : CSim N (cI_ h) (.ref b :: as) h ob) (kk : ∀ y, Sim sc M cv (pc + 3) ls (.int y :: st) h (k y)) : Sim sc M cv pc ls stk h (bd ob k) := s_callV hck as b hst hlen hlay hcl hW hd hc kk
theorem s_cSI {ob : Option Int32} {k : Int32 → Option α} (hck : ckS M N idx n j1 j2 j4 j5 = true) (as : List Value) (hst : stk = as.reverse ++ st) (hlen : as.length = n) (hW : (st.map fun v => v.category).sum ≤ 8) (hd : decode (mC M) pc = .ok (.invokestatic idx, 3))
    (hc : CSim N (cI_ h) as h ob) (kk : ∀ y, Sim sc M cv (pc + 3) ls (.int y :: st) h (k y)) : Sim sc M cv pc ls stk h (bd ob k) := s_callS hck as hst hlen hW hd hc kk
theorem s_cVZ {ob : Option Bool} {k : Bool → Option α} (hck : ckV M N idx n j1 j2 j3 j4 j5 = true) (as : List Value) (b : Nat) (hst : stk = as.reverse ++ .ref b :: st) (hlen : as.length = n) (hlay : lay b = mO N) (hcl : mO N < 6) (hW : (st.map fun v => v.category).sum ≤ 8) (hd : decode (mC M) pc = .ok (.invokevirtual idx, 3))
    (hc : CSim N (cZ_ h) (.ref b :: as) h ob) (kk : ∀ y, Sim sc M cv (pc + 3) ls (.int (b2i y) :: st) h (k y)) : Sim sc M cv pc ls stk h (bd ob k) := s_callV hck as b hst hlen hlay hcl hW hd hc kk
theorem s_cSZ {ob : Option Bool} {k : Bool → Option α} (hck : ckS M N idx n j1 j2 j4 j5 = true) (as : List Value) (hst : stk = as.reverse ++ st) (hlen : as.length = n) (hW : (st.map fun v => v.category).sum ≤ 8) (hd : decode (mC M) pc = .ok (.invokestatic idx, 3))
    (hc : CSim N (cZ_ h) as h ob) (kk : ∀ y, Sim sc M cv (pc + 3) ls (.int (b2i y) :: st) h (k y)) : Sim sc M cv pc ls stk h (bd ob k) := s_callS hck as hst hlen hW hd hc kk
theorem s_cVA {ob : Option Nat} {k : Nat → Option α} (hck : ckV M N idx n j1 j2 j3 j4 j5 = true) (as : List Value) (b : Nat) (hst : stk = as.reverse ++ .ref b :: st) (hlen : as.length = n) (hlay : lay b = mO N) (hcl : mO N < 6) (hW : (st.map fun v => v.category).sum ≤ 8) (hd : decode (mC M) pc = .ok (.invokevirtual idx, 3))
    (hc : CSim N (cA_ h) (.ref b :: as) h ob) (kk : ∀ y, Sim sc M cv (pc + 3) ls (.ref y :: st) h (k y)) : Sim sc M cv pc ls stk h (bd ob k) := s_callV hck as b hst hlen hlay hcl hW hd hc kk
theorem s_cSA {ob : Option Nat} {k : Nat → Option α} (hck : ckS M N idx n j1 j2 j4 j5 = true) (as : List Value) (hst : stk = as.reverse ++ st) (hlen : as.length = n) (hW : (st.map fun v => v.category).sum ≤ 8) (hd : decode (mC M) pc = .ok (.invokestatic idx, 3))
    (hc : CSim N (cA_ h) as h ob) (kk : ∀ y, Sim sc M cv (pc + 3) ls (.ref y :: st) h (k y)) : Sim sc M cv pc ls stk h (bd ob k) := s_callS hck as hst hlen hW hd hc kk
theorem s_cVV {ob : Option HS} {k : HS → Option α} (hck : ckV M N idx n j1 j2 j3 j4 j5 = true) (as : List Value) (b : Nat) (hst : stk = as.reverse ++ .ref b :: st) (hlen : as.length = n) (hlay : lay b = mO N) (hcl : mO N < 6) (hW : (st.map fun v => v.category).sum ≤ 8) (hd : decode (mC M) pc = .ok (.invokevirtual idx, 3))
    (hc : CSim N (cV_) (.ref b :: as) h ob) (kk : ∀ y, Sim sc M cv (pc + 3) ls st y (k y)) : Sim sc M cv pc ls stk h (bd ob k) := s_callV hck as b hst hlen hlay hcl hW hd hc kk
theorem s_cSV {ob : Option HS} {k : HS → Option α} (hck : ckS M N idx n j1 j2 j4 j5 = true) (as : List Value) (hst : stk = as.reverse ++ st) (hlen : as.length = n) (hW : (st.map fun v => v.category).sum ≤ 8) (hd : decode (mC M) pc = .ok (.invokestatic idx, 3))
    (hc : CSim N (cV_) as h ob) (kk : ∀ y, Sim sc M cv (pc + 3) ls st y (k y)) : Sim sc M cv pc ls stk h (bd ob k) := s_callS hck as hst hlen hW hd hc kk
theorem s_cVIH {ob : Option (Int32 × HS)} {k : Int32 → HS → Option α} (hck : ckV M N idx n j1 j2 j3 j4 j5 = true) (as : List Value) (b : Nat) (hst : stk = as.reverse ++ .ref b :: st) (hlen : as.length = n) (hlay : lay b = mO N) (hcl : mO N < 6) (hW : (st.map fun v => v.category).sum ≤ 8) (hd : decode (mC M) pc = .ok (.invokevirtual idx, 3))
    (hc : CSim N (cIH_) (.ref b :: as) h ob) (kk : ∀ y g, Sim sc M cv (pc + 3) ls (.int y :: st) g (k y g)) : Sim sc M cv pc ls stk h (bd2 ob k) := s_callV hck as b hst hlen hlay hcl hW hd hc (fun q => kk q.1 q.2)
theorem s_cSIH {ob : Option (Int32 × HS)} {k : Int32 → HS → Option α} (hck : ckS M N idx n j1 j2 j4 j5 = true) (as : List Value) (hst : stk = as.reverse ++ st) (hlen : as.length = n) (hW : (st.map fun v => v.category).sum ≤ 8) (hd : decode (mC M) pc = .ok (.invokestatic idx, 3))
    (hc : CSim N (cIH_) as h ob) (kk : ∀ y g, Sim sc M cv (pc + 3) ls (.int y :: st) g (k y g)) : Sim sc M cv pc ls stk h (bd2 ob k) := s_callS hck as hst hlen hW hd hc (fun q => kk q.1 q.2)
theorem s_cVZH {ob : Option (Bool × HS)} {k : Bool → HS → Option α} (hck : ckV M N idx n j1 j2 j3 j4 j5 = true) (as : List Value) (b : Nat) (hst : stk = as.reverse ++ .ref b :: st) (hlen : as.length = n) (hlay : lay b = mO N) (hcl : mO N < 6) (hW : (st.map fun v => v.category).sum ≤ 8) (hd : decode (mC M) pc = .ok (.invokevirtual idx, 3))
    (hc : CSim N (cZH_) (.ref b :: as) h ob) (kk : ∀ y g, Sim sc M cv (pc + 3) ls (.int (b2i y) :: st) g (k y g)) : Sim sc M cv pc ls stk h (bd2 ob k) := s_callV hck as b hst hlen hlay hcl hW hd hc (fun q => kk q.1 q.2)
theorem s_cSZH {ob : Option (Bool × HS)} {k : Bool → HS → Option α} (hck : ckS M N idx n j1 j2 j4 j5 = true) (as : List Value) (hst : stk = as.reverse ++ st) (hlen : as.length = n) (hW : (st.map fun v => v.category).sum ≤ 8) (hd : decode (mC M) pc = .ok (.invokestatic idx, 3))
    (hc : CSim N (cZH_) as h ob) (kk : ∀ y g, Sim sc M cv (pc + 3) ls (.int (b2i y) :: st) g (k y g)) : Sim sc M cv pc ls stk h (bd2 ob k) := s_callS hck as hst hlen hW hd hc (fun q => kk q.1 q.2)
theorem s_cVJH {ob : Option (Int64 × HS)} {k : Int64 → HS → Option α} (hck : ckV M N idx n j1 j2 j3 j4 j5 = true) (as : List Value) (b : Nat) (hst : stk = as.reverse ++ .ref b :: st) (hlen : as.length = n) (hlay : lay b = mO N) (hcl : mO N < 6) (hW : (st.map fun v => v.category).sum ≤ 8) (hd : decode (mC M) pc = .ok (.invokevirtual idx, 3))
    (hc : CSim N (cJH_) (.ref b :: as) h ob) (kk : ∀ y g, Sim sc M cv (pc + 3) ls (.long y :: st) g (k y g)) : Sim sc M cv pc ls stk h (bd2 ob k) := s_callV hck as b hst hlen hlay hcl hW hd hc (fun q => kk q.1 q.2)
theorem s_cSJH {ob : Option (Int64 × HS)} {k : Int64 → HS → Option α} (hck : ckS M N idx n j1 j2 j4 j5 = true) (as : List Value) (hst : stk = as.reverse ++ st) (hlen : as.length = n) (hW : (st.map fun v => v.category).sum ≤ 8) (hd : decode (mC M) pc = .ok (.invokestatic idx, 3))
    (hc : CSim N (cJH_) as h ob) (kk : ∀ y g, Sim sc M cv (pc + 3) ls (.long y :: st) g (k y g)) : Sim sc M cv pc ls stk h (bd2 ob k) := s_callS hck as hst hlen hW hd hc (fun q => kk q.1 q.2)
def retB (e : Int32) : Option Bool := if e = 0 then some false else if e = 1 then some true else none
def retBH (e : Int32) (h : HS) : Option (Bool × HS) := if e = 0 then some (false, h) else if e = 1 then some (true, h) else none
theorem s_retI {v : Int32} (hd : decode (mC M) pc = .ok (.ireturn, 1)) (hT : mT M = some .int) : Sim sc M (cI_ h) pc ls [.int v] h (some v) := s_ret (r := some (.int v)) rfl rfl ⟨hd, _, hT, rfl⟩
theorem s_retZ {v : Bool} (hd : decode (mC M) pc = .ok (.ireturn, 1)) (hT : mT M = some .boolean) : Sim sc M (cZ_ h) pc ls [.int (b2i v)] h (some v) := s_ret (r := some (.int (b2i v))) rfl rfl ⟨hd, _, hT, by cases v <;> rfl⟩
theorem s_retB {e : Int32} (hd : decode (mC M) pc = .ok (.ireturn, 1)) (hT : mT M = some .boolean) : Sim sc M (cZ_ h) pc ls [.int e] h (retB e) := by
  unfold retB
  refine s_ite (fun z => ?_) (fun _ => s_ite (fun z => ?_) (fun _ => s_none))
  · subst z; exact s_retZ (v := false) hd hT
  · subst z; exact s_retZ (v := true) hd hT
theorem s_retA {v : Nat} (hd : decode (mC M) pc = .ok (.areturn, 1)) {q : String} (hT : mT M = some (.object q)) : Sim sc M (cA_ h) pc ls [.ref v] h (some v) := s_ret (r := some (.ref v)) rfl rfl ⟨hd, _, hT⟩
theorem s_retV (hd : decode (mC M) pc = .ok (.return_, 1)) (hT : mT M = none) : Sim sc M (cV_) pc ls [] h (some h) := s_ret (r := none) rfl rfl ⟨hd, hT⟩
theorem s_retIH {v : Int32} (hd : decode (mC M) pc = .ok (.ireturn, 1)) (hT : mT M = some .int) : Sim sc M (cIH_) pc ls [.int v] h (some (v, h)) := s_ret (r := some (.int v)) rfl rfl ⟨hd, _, hT, rfl⟩
theorem s_retZH {v : Bool} (hd : decode (mC M) pc = .ok (.ireturn, 1)) (hT : mT M = some .boolean) : Sim sc M (cZH_) pc ls [.int (b2i v)] h (some (v, h)) := s_ret (r := some (.int (b2i v))) rfl rfl ⟨hd, _, hT, by cases v <;> rfl⟩
theorem s_retBH {e : Int32} (hd : decode (mC M) pc = .ok (.ireturn, 1)) (hT : mT M = some .boolean) : Sim sc M (cZH_) pc ls [.int e] h (retBH e h) := by
  unfold retBH
  refine s_ite (fun z => ?_) (fun _ => s_ite (fun z => ?_) (fun _ => s_none))
  · subst z; exact s_retZH (v := false) hd hT
  · subst z; exact s_retZH (v := true) hd hT
theorem s_retJH {v : Int64} (hd : decode (mC M) pc = .ok (.lreturn, 1)) (hT : mT M = some .long) : Sim sc M (cJH_) pc ls [.long v] h (some (v, h)) := s_ret (r := some (.long v)) rfl rfl ⟨hd, hT⟩
theorem s_lt {τ : Type} (e : τ) (lsf stf : τ → List Value) (hf : τ → HS) {k : τ → Option α} (kk : ∀ x, Sim sc M cv pc (lsf x) (stf x) (hf x) (k x)) : Sim sc M cv pc (lsf e) (stf e) (hf e) (Lt e k) := kk e
def jn {τ γ : Type} (r : τ) (b : τ → Option γ) : Option γ := b r
theorem s_jn {τ : Type} {r : τ} {b : τ → Option α} (P : τ → Prop) (hr : P r) (hb : ∀ j, P j → Sim sc M cv pc ls st h (b j)) : Sim sc M cv pc ls st h (jn r b) := hb r hr
def wk : List Value → List Value → Prop
  | [], [] => True
  | a :: l, b :: l' => (b = .null ∨ a = b) ∧ wk l l'
  | _, _ => False
theorem wk_len : ∀ {l l' : List Value}, wk l l' → l'.length = l.length
  | [], [], _ => rfl
  | _ :: l, _ :: l', h => by simp [wk_len h.2]
  | [], _ :: _, h => h.elim
  | _ :: _, [], h => h.elim
theorem wk_at : ∀ {l l' : List Value}, wk l l' → ∀ (i : Nat) (v : Value), l'[i]? = some v → v ≠ .null → l[i]? = some v
  | [], [], _, i, v, hv, _ => by simp at hv
  | a :: l, b :: l', h, 0, v, hv, hn => by
    simp at hv
    subst hv
    rcases h.1 with z | z
    · exact absurd z hn
    · simp [z]
  | a :: l, b :: l', h, i + 1, v, hv, hn => by
    simp at hv ⊢
    exact wk_at h.2 i v hv hn
  | [], _ :: _, h, _, _, _, _ => h.elim
  | _ :: _, [], h, _, _, _, _ => h.elim
theorem s_wk {ls' : List Value} (hw : wk ls ls') (k : Sim sc M cv pc ls' st h o) : Sim sc M cv pc ls st h o := by
  intro x hx ρ D cI cZ A p l e R s m args below meth c C cells slots Q h1 h2 fin H locs lsr hR hS hL
  exact k x hx ρ D cI cZ A p l e R s m args below meth c C cells slots Q h1 h2 fin H locs lsr hR hS ⟨(wk_len hw).trans hL.1, hL.2.1, hL.2.2.1, fun i v hv hn => hL.2.2.2 i v (wk_at hw i v hv hn) hn⟩
theorem s_mmin {a b : Int32} (j1 j2 j4 j5 : Nat) (h1 : lw_tbl[j1]? = some (Jvm.Cond.methodLink (nmC (mO M)) idx Lib.Math.min.name)) (h2 : lw_tbl[j2]? = some (Jvm.Cond.static Lib.Math.min.name)) (h4 : lw_tbl[j4]? = some (Jvm.Cond.initialized "java/lang/Math")) (h5 : lw_tbl[j5]? = some (Jvm.Cond.code Lib.Math.min.name Lib.Math.min.code 2 (some .int)))
    (hF : 1 ≤ mF M) (hRm : 21 ≤ mR M) (hW : (st.map fun v => v.category).sum ≤ 8) (hd : decode (mC M) pc = .ok (.invokestatic idx, 3)) (k : Sim sc M cv (pc + 3) ls (.int (if b < a then b else a) :: st) h o) : Sim sc M cv pc ls (.int b :: .int a :: st) h o := by
  intro x hx ρ D cI cZ A p l e R s m args below meth c C cells slots Q q1 q2 fin H locs lsr hR hS hL
  obtain ⟨hxc, hb, hml, -, -, hown, hts, hFr, hRm2, -⟩ := id C
  have hsum : ((st.map (rz ρ)).map fun v => v.category).sum ≤ 8 := by
    rw [List.map_map, show ((fun v : Value => v.category) ∘ rz ρ) = fun v => v.category from by funext v; exact rz_cat ρ v]
    exact hW
  exact va_mmin hxc hb (by rw [hml, hL.2.1]) hown (hts _ (mem_gd (List.mem_of_getElem? h1) rfl)) (hts _ (mem_gd (List.mem_of_getElem? h2) rfl)) (hts _ (mem_gd (List.mem_of_getElem? h4) rfl)) (hts _ (mem_gd (List.mem_of_getElem? h5) rfl)) (Nat.le_trans hF hFr) (by omega) q1 q2 hd
    (k x hx ρ D cI cZ A p l e R s m args below meth c C cells slots Q q1 q2 fin H locs lsr hR hS hL)
end KINDS
def loop1 {A0 γ : Type} (body : (A0 → Option γ) → A0 → Option γ) : Nat → A0 → Option γ
  | 0, _ => none
  | f + 1, x0 => body (loop1 body f) x0
theorem s_loop1 {α A0 : Type} {sc : Option (Nat × (Nat → Int32))} {M : MI} {cv : α → Option Value × HS} {pc : Nat} {st : List Value} (ls : A0 → List Value) (hh : A0 → HS) {body : (A0 → Option α) → A0 → Option α}
    (H : ∀ rec : A0 → Option α, (∀ (x0 : A0), Sim sc M cv pc (ls x0) st (hh x0) (rec x0)) → ∀ (x0 : A0), Sim sc M cv pc (ls x0) st (hh x0) (body rec x0)) : ∀ (f : Nat) (x0 : A0), Sim sc M cv pc (ls x0) st (hh x0) (loop1 body f x0)
  | 0, x0 => s_none
  | f + 1, x0 => H (loop1 body f) (s_loop1 ls hh H f) x0
def loop2 {A0 A1 γ : Type} (body : (A0 → A1 → Option γ) → A0 → A1 → Option γ) : Nat → A0 → A1 → Option γ
  | 0, _, _ => none
  | f + 1, x0, x1 => body (loop2 body f) x0 x1
theorem s_loop2 {α A0 A1 : Type} {sc : Option (Nat × (Nat → Int32))} {M : MI} {cv : α → Option Value × HS} {pc : Nat} {st : List Value} (ls : A0 → A1 → List Value) (hh : A0 → A1 → HS) {body : (A0 → A1 → Option α) → A0 → A1 → Option α}
    (H : ∀ rec : A0 → A1 → Option α, (∀ (x0 : A0) (x1 : A1), Sim sc M cv pc (ls x0 x1) st (hh x0 x1) (rec x0 x1)) → ∀ (x0 : A0) (x1 : A1), Sim sc M cv pc (ls x0 x1) st (hh x0 x1) (body rec x0 x1)) : ∀ (f : Nat) (x0 : A0) (x1 : A1), Sim sc M cv pc (ls x0 x1) st (hh x0 x1) (loop2 body f x0 x1)
  | 0, x0, x1 => s_none
  | f + 1, x0, x1 => H (loop2 body f) (s_loop2 ls hh H f) x0 x1
def loop3 {A0 A1 A2 γ : Type} (body : (A0 → A1 → A2 → Option γ) → A0 → A1 → A2 → Option γ) : Nat → A0 → A1 → A2 → Option γ
  | 0, _, _, _ => none
  | f + 1, x0, x1, x2 => body (loop3 body f) x0 x1 x2
theorem s_loop3 {α A0 A1 A2 : Type} {sc : Option (Nat × (Nat → Int32))} {M : MI} {cv : α → Option Value × HS} {pc : Nat} {st : List Value} (ls : A0 → A1 → A2 → List Value) (hh : A0 → A1 → A2 → HS) {body : (A0 → A1 → A2 → Option α) → A0 → A1 → A2 → Option α}
    (H : ∀ rec : A0 → A1 → A2 → Option α, (∀ (x0 : A0) (x1 : A1) (x2 : A2), Sim sc M cv pc (ls x0 x1 x2) st (hh x0 x1 x2) (rec x0 x1 x2)) → ∀ (x0 : A0) (x1 : A1) (x2 : A2), Sim sc M cv pc (ls x0 x1 x2) st (hh x0 x1 x2) (body rec x0 x1 x2)) : ∀ (f : Nat) (x0 : A0) (x1 : A1) (x2 : A2), Sim sc M cv pc (ls x0 x1 x2) st (hh x0 x1 x2) (loop3 body f x0 x1 x2)
  | 0, x0, x1, x2 => s_none
  | f + 1, x0, x1, x2 => H (loop3 body f) (s_loop3 ls hh H f) x0 x1 x2
def loop4 {A0 A1 A2 A3 γ : Type} (body : (A0 → A1 → A2 → A3 → Option γ) → A0 → A1 → A2 → A3 → Option γ) : Nat → A0 → A1 → A2 → A3 → Option γ
  | 0, _, _, _, _ => none
  | f + 1, x0, x1, x2, x3 => body (loop4 body f) x0 x1 x2 x3
theorem s_loop4 {α A0 A1 A2 A3 : Type} {sc : Option (Nat × (Nat → Int32))} {M : MI} {cv : α → Option Value × HS} {pc : Nat} {st : List Value} (ls : A0 → A1 → A2 → A3 → List Value) (hh : A0 → A1 → A2 → A3 → HS) {body : (A0 → A1 → A2 → A3 → Option α) → A0 → A1 → A2 → A3 → Option α}
    (H : ∀ rec : A0 → A1 → A2 → A3 → Option α, (∀ (x0 : A0) (x1 : A1) (x2 : A2) (x3 : A3), Sim sc M cv pc (ls x0 x1 x2 x3) st (hh x0 x1 x2 x3) (rec x0 x1 x2 x3)) → ∀ (x0 : A0) (x1 : A1) (x2 : A2) (x3 : A3), Sim sc M cv pc (ls x0 x1 x2 x3) st (hh x0 x1 x2 x3) (body rec x0 x1 x2 x3)) : ∀ (f : Nat) (x0 : A0) (x1 : A1) (x2 : A2) (x3 : A3), Sim sc M cv pc (ls x0 x1 x2 x3) st (hh x0 x1 x2 x3) (loop4 body f x0 x1 x2 x3)
  | 0, x0, x1, x2, x3 => s_none
  | f + 1, x0, x1, x2, x3 => H (loop4 body f) (s_loop4 ls hh H f) x0 x1 x2 x3
def loop5 {A0 A1 A2 A3 A4 γ : Type} (body : (A0 → A1 → A2 → A3 → A4 → Option γ) → A0 → A1 → A2 → A3 → A4 → Option γ) : Nat → A0 → A1 → A2 → A3 → A4 → Option γ
  | 0, _, _, _, _, _ => none
  | f + 1, x0, x1, x2, x3, x4 => body (loop5 body f) x0 x1 x2 x3 x4
theorem s_loop5 {α A0 A1 A2 A3 A4 : Type} {sc : Option (Nat × (Nat → Int32))} {M : MI} {cv : α → Option Value × HS} {pc : Nat} {st : List Value} (ls : A0 → A1 → A2 → A3 → A4 → List Value) (hh : A0 → A1 → A2 → A3 → A4 → HS) {body : (A0 → A1 → A2 → A3 → A4 → Option α) → A0 → A1 → A2 → A3 → A4 → Option α}
    (H : ∀ rec : A0 → A1 → A2 → A3 → A4 → Option α, (∀ (x0 : A0) (x1 : A1) (x2 : A2) (x3 : A3) (x4 : A4), Sim sc M cv pc (ls x0 x1 x2 x3 x4) st (hh x0 x1 x2 x3 x4) (rec x0 x1 x2 x3 x4)) → ∀ (x0 : A0) (x1 : A1) (x2 : A2) (x3 : A3) (x4 : A4), Sim sc M cv pc (ls x0 x1 x2 x3 x4) st (hh x0 x1 x2 x3 x4) (body rec x0 x1 x2 x3 x4)) : ∀ (f : Nat) (x0 : A0) (x1 : A1) (x2 : A2) (x3 : A3) (x4 : A4), Sim sc M cv pc (ls x0 x1 x2 x3 x4) st (hh x0 x1 x2 x3 x4) (loop5 body f x0 x1 x2 x3 x4)
  | 0, x0, x1, x2, x3, x4 => s_none
  | f + 1, x0, x1, x2, x3, x4 => H (loop5 body f) (s_loop5 ls hh H f) x0 x1 x2 x3 x4
def loop6 {A0 A1 A2 A3 A4 A5 γ : Type} (body : (A0 → A1 → A2 → A3 → A4 → A5 → Option γ) → A0 → A1 → A2 → A3 → A4 → A5 → Option γ) : Nat → A0 → A1 → A2 → A3 → A4 → A5 → Option γ
  | 0, _, _, _, _, _, _ => none
  | f + 1, x0, x1, x2, x3, x4, x5 => body (loop6 body f) x0 x1 x2 x3 x4 x5
theorem s_loop6 {α A0 A1 A2 A3 A4 A5 : Type} {sc : Option (Nat × (Nat → Int32))} {M : MI} {cv : α → Option Value × HS} {pc : Nat} {st : List Value} (ls : A0 → A1 → A2 → A3 → A4 → A5 → List Value) (hh : A0 → A1 → A2 → A3 → A4 → A5 → HS) {body : (A0 → A1 → A2 → A3 → A4 → A5 → Option α) → A0 → A1 → A2 → A3 → A4 → A5 → Option α}
    (H : ∀ rec : A0 → A1 → A2 → A3 → A4 → A5 → Option α, (∀ (x0 : A0) (x1 : A1) (x2 : A2) (x3 : A3) (x4 : A4) (x5 : A5), Sim sc M cv pc (ls x0 x1 x2 x3 x4 x5) st (hh x0 x1 x2 x3 x4 x5) (rec x0 x1 x2 x3 x4 x5)) → ∀ (x0 : A0) (x1 : A1) (x2 : A2) (x3 : A3) (x4 : A4) (x5 : A5), Sim sc M cv pc (ls x0 x1 x2 x3 x4 x5) st (hh x0 x1 x2 x3 x4 x5) (body rec x0 x1 x2 x3 x4 x5)) : ∀ (f : Nat) (x0 : A0) (x1 : A1) (x2 : A2) (x3 : A3) (x4 : A4) (x5 : A5), Sim sc M cv pc (ls x0 x1 x2 x3 x4 x5) st (hh x0 x1 x2 x3 x4 x5) (loop6 body f x0 x1 x2 x3 x4 x5)
  | 0, x0, x1, x2, x3, x4, x5 => s_none
  | f + 1, x0, x1, x2, x3, x4, x5 => H (loop6 body f) (s_loop6 ls hh H f) x0 x1 x2 x3 x4 x5
def loop7 {A0 A1 A2 A3 A4 A5 A6 γ : Type} (body : (A0 → A1 → A2 → A3 → A4 → A5 → A6 → Option γ) → A0 → A1 → A2 → A3 → A4 → A5 → A6 → Option γ) : Nat → A0 → A1 → A2 → A3 → A4 → A5 → A6 → Option γ
  | 0, _, _, _, _, _, _, _ => none
  | f + 1, x0, x1, x2, x3, x4, x5, x6 => body (loop7 body f) x0 x1 x2 x3 x4 x5 x6
theorem s_loop7 {α A0 A1 A2 A3 A4 A5 A6 : Type} {sc : Option (Nat × (Nat → Int32))} {M : MI} {cv : α → Option Value × HS} {pc : Nat} {st : List Value} (ls : A0 → A1 → A2 → A3 → A4 → A5 → A6 → List Value) (hh : A0 → A1 → A2 → A3 → A4 → A5 → A6 → HS) {body : (A0 → A1 → A2 → A3 → A4 → A5 → A6 → Option α) → A0 → A1 → A2 → A3 → A4 → A5 → A6 → Option α}
    (H : ∀ rec : A0 → A1 → A2 → A3 → A4 → A5 → A6 → Option α, (∀ (x0 : A0) (x1 : A1) (x2 : A2) (x3 : A3) (x4 : A4) (x5 : A5) (x6 : A6), Sim sc M cv pc (ls x0 x1 x2 x3 x4 x5 x6) st (hh x0 x1 x2 x3 x4 x5 x6) (rec x0 x1 x2 x3 x4 x5 x6)) → ∀ (x0 : A0) (x1 : A1) (x2 : A2) (x3 : A3) (x4 : A4) (x5 : A5) (x6 : A6), Sim sc M cv pc (ls x0 x1 x2 x3 x4 x5 x6) st (hh x0 x1 x2 x3 x4 x5 x6) (body rec x0 x1 x2 x3 x4 x5 x6)) : ∀ (f : Nat) (x0 : A0) (x1 : A1) (x2 : A2) (x3 : A3) (x4 : A4) (x5 : A5) (x6 : A6), Sim sc M cv pc (ls x0 x1 x2 x3 x4 x5 x6) st (hh x0 x1 x2 x3 x4 x5 x6) (loop7 body f x0 x1 x2 x3 x4 x5 x6)
  | 0, x0, x1, x2, x3, x4, x5, x6 => s_none
  | f + 1, x0, x1, x2, x3, x4, x5, x6 => H (loop7 body f) (s_loop7 ls hh H f) x0 x1 x2 x3 x4 x5 x6
def loop8 {A0 A1 A2 A3 A4 A5 A6 A7 γ : Type} (body : (A0 → A1 → A2 → A3 → A4 → A5 → A6 → A7 → Option γ) → A0 → A1 → A2 → A3 → A4 → A5 → A6 → A7 → Option γ) : Nat → A0 → A1 → A2 → A3 → A4 → A5 → A6 → A7 → Option γ
  | 0, _, _, _, _, _, _, _, _ => none
  | f + 1, x0, x1, x2, x3, x4, x5, x6, x7 => body (loop8 body f) x0 x1 x2 x3 x4 x5 x6 x7
theorem s_loop8 {α A0 A1 A2 A3 A4 A5 A6 A7 : Type} {sc : Option (Nat × (Nat → Int32))} {M : MI} {cv : α → Option Value × HS} {pc : Nat} {st : List Value} (ls : A0 → A1 → A2 → A3 → A4 → A5 → A6 → A7 → List Value) (hh : A0 → A1 → A2 → A3 → A4 → A5 → A6 → A7 → HS) {body : (A0 → A1 → A2 → A3 → A4 → A5 → A6 → A7 → Option α) → A0 → A1 → A2 → A3 → A4 → A5 → A6 → A7 → Option α}
    (H : ∀ rec : A0 → A1 → A2 → A3 → A4 → A5 → A6 → A7 → Option α, (∀ (x0 : A0) (x1 : A1) (x2 : A2) (x3 : A3) (x4 : A4) (x5 : A5) (x6 : A6) (x7 : A7), Sim sc M cv pc (ls x0 x1 x2 x3 x4 x5 x6 x7) st (hh x0 x1 x2 x3 x4 x5 x6 x7) (rec x0 x1 x2 x3 x4 x5 x6 x7)) → ∀ (x0 : A0) (x1 : A1) (x2 : A2) (x3 : A3) (x4 : A4) (x5 : A5) (x6 : A6) (x7 : A7), Sim sc M cv pc (ls x0 x1 x2 x3 x4 x5 x6 x7) st (hh x0 x1 x2 x3 x4 x5 x6 x7) (body rec x0 x1 x2 x3 x4 x5 x6 x7)) : ∀ (f : Nat) (x0 : A0) (x1 : A1) (x2 : A2) (x3 : A3) (x4 : A4) (x5 : A5) (x6 : A6) (x7 : A7), Sim sc M cv pc (ls x0 x1 x2 x3 x4 x5 x6 x7) st (hh x0 x1 x2 x3 x4 x5 x6 x7) (loop8 body f x0 x1 x2 x3 x4 x5 x6 x7)
  | 0, x0, x1, x2, x3, x4, x5, x6, x7 => s_none
  | f + 1, x0, x1, x2, x3, x4, x5, x6, x7 => H (loop8 body f) (s_loop8 ls hh H f) x0 x1 x2 x3 x4 x5 x6 x7
def loop9 {A0 A1 A2 A3 A4 A5 A6 A7 A8 γ : Type} (body : (A0 → A1 → A2 → A3 → A4 → A5 → A6 → A7 → A8 → Option γ) → A0 → A1 → A2 → A3 → A4 → A5 → A6 → A7 → A8 → Option γ) : Nat → A0 → A1 → A2 → A3 → A4 → A5 → A6 → A7 → A8 → Option γ
  | 0, _, _, _, _, _, _, _, _, _ => none
  | f + 1, x0, x1, x2, x3, x4, x5, x6, x7, x8 => body (loop9 body f) x0 x1 x2 x3 x4 x5 x6 x7 x8
theorem s_loop9 {α A0 A1 A2 A3 A4 A5 A6 A7 A8 : Type} {sc : Option (Nat × (Nat → Int32))} {M : MI} {cv : α → Option Value × HS} {pc : Nat} {st : List Value} (ls : A0 → A1 → A2 → A3 → A4 → A5 → A6 → A7 → A8 → List Value) (hh : A0 → A1 → A2 → A3 → A4 → A5 → A6 → A7 → A8 → HS) {body : (A0 → A1 → A2 → A3 → A4 → A5 → A6 → A7 → A8 → Option α) → A0 → A1 → A2 → A3 → A4 → A5 → A6 → A7 → A8 → Option α}
    (H : ∀ rec : A0 → A1 → A2 → A3 → A4 → A5 → A6 → A7 → A8 → Option α, (∀ (x0 : A0) (x1 : A1) (x2 : A2) (x3 : A3) (x4 : A4) (x5 : A5) (x6 : A6) (x7 : A7) (x8 : A8), Sim sc M cv pc (ls x0 x1 x2 x3 x4 x5 x6 x7 x8) st (hh x0 x1 x2 x3 x4 x5 x6 x7 x8) (rec x0 x1 x2 x3 x4 x5 x6 x7 x8)) → ∀ (x0 : A0) (x1 : A1) (x2 : A2) (x3 : A3) (x4 : A4) (x5 : A5) (x6 : A6) (x7 : A7) (x8 : A8), Sim sc M cv pc (ls x0 x1 x2 x3 x4 x5 x6 x7 x8) st (hh x0 x1 x2 x3 x4 x5 x6 x7 x8) (body rec x0 x1 x2 x3 x4 x5 x6 x7 x8)) : ∀ (f : Nat) (x0 : A0) (x1 : A1) (x2 : A2) (x3 : A3) (x4 : A4) (x5 : A5) (x6 : A6) (x7 : A7) (x8 : A8), Sim sc M cv pc (ls x0 x1 x2 x3 x4 x5 x6 x7 x8) st (hh x0 x1 x2 x3 x4 x5 x6 x7 x8) (loop9 body f x0 x1 x2 x3 x4 x5 x6 x7 x8)
  | 0, x0, x1, x2, x3, x4, x5, x6, x7, x8 => s_none
  | f + 1, x0, x1, x2, x3, x4, x5, x6, x7, x8 => H (loop9 body f) (s_loop9 ls hh H f) x0 x1 x2 x3 x4 x5 x6 x7 x8
end
section
/-! the methods as pure functions, by wip/whole/gen.py out of the decode rows -/
def mX3_add : MI := (3, yX3_add, cX3_add, 2, (some .boolean), 0, 0)
def mX4_write : MI := (4, yX4_write, cX4_write, 2, (some .int), 1, 21)
def mX5_in : MI := (5, yX5_in, cX5_in, 6, (some .boolean), 0, 0)
def mX5_write : MI := (5, yX5_write, cX5_write, 2, (some .int), 1, 25)
def mX4_wipe : MI := (4, yX4_wipe, cX4_wipe, 2, (some .int), 0, 0)
def mX5_wipe : MI := (5, yX5_wipe, cX5_wipe, 2, (some .int), 0, 0)
def mX1_clear : MI := (1, yX1_clear, cX1_clear, 1, none, 0, 0)
def mX1_isPerson : MI := (1, yX1_isPerson, cX1_isPerson, 2, (some .boolean), 0, 0)
def mX1_isMatter : MI := (1, yX1_isMatter, cX1_isMatter, 2, (some .boolean), 0, 0)
def mX1_canSee : MI := (1, yX1_canSee, cX1_canSee, 3, (some .boolean), 1, 21)
def mX1_canSeeMore : MI := (1, yX1_canSeeMore, cX1_canSeeMore, 3, (some .boolean), 2, 43)
def mX1_canAnybodySee : MI := (1, yX1_canAnybodySee, cX1_canAnybodySee, 2, (some .boolean), 3, 65)
def mX1_canBegin : MI := (1, yX1_canBegin, cX1_canBegin, 2, (some .boolean), 4, 86)
def mX1_isFigure : MI := (1, yX1_isFigure, cX1_isFigure, 1, (some .boolean), 0, 0)
def mX1_canGoOn : MI := (1, yX1_canGoOn, cX1_canGoOn, 3, (some .boolean), 3, 65)
def mX1_setKind : MI := (1, yX1_setKind, cX1_setKind, 3, none, 0, 0)
def mX1_addPerson : MI := (1, yX1_addPerson, cX1_addPerson, 4, (some .boolean), 1, 22)
def mX1_addMatter : MI := (1, yX1_addMatter, cX1_addMatter, 3, (some .boolean), 0, 0)
def mX1_letSee : MI := (1, yX1_letSee, cX1_letSee, 3, none, 1, 21)
def mX1_takesPart : MI := (1, yX1_takesPart, cX1_takesPart, 4, (some .boolean), 2, 45)
def mX3_readInto : MI := (3, yX3_readInto, cX3_readInto, 7, (some .int), 5, 107)
def mX4_fault : MI := (4, yX4_fault, cX4_fault, 1, (some .int), 6, 133)
def mX5_has : MI := (5, yX5_has, cX5_has, 2, (some .boolean), 0, 0)
def mX5_figureOf : MI := (5, yX5_figureOf, cX5_figureOf, 3, (some .int), 1, 25)
def mX5_left : MI := (5, yX5_left, cX5_left, 2, (some .int), 0, 0)
def mX5_firstsLeft : MI := (5, yX5_firstsLeft, cX5_firstsLeft, 3, (some .int), 1, 21)
def mX5_readPart : MI := (5, yX5_readPart, cX5_readPart, 4, none, 2, 47)
def mX5_readText : MI := (5, yX5_readText, cX5_readText, 2, (some .int), 3, 70)
def mX5_fault : MI := (5, yX5_fault, cX5_fault, 1, (some .int), 4, 91)
def mX1_become : MI := (1, yX1_become, cX1_become, 3, none, 0, 0)
def mX4_court : MI := (4, yX4_court, cX4_court, 1, (some .int), 6, 133)
def mX5_court : MI := (5, yX5_court, cX5_court, 2, (some .int), 4, 91)
def mX1_eyeOf : MI := (1, yX1_eyeOf, cX1_eyeOf, 2, (some .int), 0, 0)
def mX1_kindOf : MI := (1, yX1_kindOf, cX1_kindOf, 3, (some .int), 0, 0)
def mX1_witnessesOf : MI := (1, yX1_witnessesOf, cX1_witnessesOf, 2, (some .int), 1, 21)
def mX1_seenBy : MI := (1, yX1_seenBy, cX1_seenBy, 4, (some .int), 2, 42)
def mX1_finesOf : MI := (1, yX1_finesOf, cX1_finesOf, 2, (some .int), 1, 21)
def mX4_person : MI := (4, yX4_person, cX4_person, 3, (some .int), 3, 65)
def mX5_isPerson : MI := (5, yX5_isPerson, cX5_isPerson, 2, (some .boolean), 1, 25)
def mX5_person : MI := (5, yX5_person, cX5_person, 3, (some .int), 2, 46)
def mX1_halfOf : MI := (1, yX1_halfOf, cX1_halfOf, 3, (some .int), 1, 21)
def mX1_knownAs : MI := (1, yX1_knownAs, cX1_knownAs, 2, (some .int), 1, 21)
def mX1_seersOf : MI := (1, yX1_seersOf, cX1_seersOf, 4, (some .int), 1, 21)
def mX4_matter : MI := (4, yX4_matter, cX4_matter, 3, (some .int), 2, 44)
def mX5_isMatter : MI := (5, yX5_isMatter, cX5_isMatter, 2, (some .boolean), 1, 25)
def mX5_sees : MI := (5, yX5_sees, cX5_sees, 8, (some .boolean), 1, 21)
def mX5_seeing : MI := (5, yX5_seeing, cX5_seeing, 6, (some .int), 2, 48)
def mX5_matter : MI := (5, yX5_matter, cX5_matter, 3, (some .int), 3, 73)
def mX4_isHalf : MI := (4, yX4_isHalf, cX4_isHalf, 1, (some .boolean), 0, 0)
def mX1_saidBy : MI := (1, yX1_saidBy, cX1_saidBy, 5, (some .int), 2, 44)
def mX4_says : MI := (4, yX4_says, cX4_says, 4, (some .int), 3, 68)
def mX5_saysOn : MI := (5, yX5_saysOn, cX5_saysOn, 6, (some .int), 0, 0)
def mX5_says : MI := (5, yX5_says, cX5_says, 4, (some .int), 2, 48)
def mX0_forgetFirst : MI := (0, yX0_forgetFirst, cX0_forgetFirst, 2, none, 0, 0)
def mX0_add : MI := (0, yX0_add, cX0_add, 4, none, 1, 21)
def mJ6_bitCount_0f7a4 : MI := (7, yJ6_bitCount_0f7a4, cJ6_bitCount_0f7a4, 1, (some .int), 0, 0)
def mX4_show : MI := (4, yX4_show, cX4_show, 3, (some .int), 2, 44)
def mX5_canShow : MI := (5, yX5_canShow, cX5_canShow, 4, (some .boolean), 2, 46)
def mX5_keepAct : MI := (5, yX5_keepAct, cX5_keepAct, 2, none, 0, 0)
def mX5_show : MI := (5, yX5_show, cX5_show, 5, (some .int), 3, 69)
def mX1_isCouple : MI := (1, yX1_isCouple, cX1_isCouple, 4, (some .boolean), 2, 44)
def mX1_canLearn : MI := (1, yX1_canLearn, cX1_canLearn, 4, (some .boolean), 3, 67)
def mX1_toldBy : MI := (1, yX1_toldBy, cX1_toldBy, 4, (some .int), 3, 68)
def mX1_setKnown : MI := (1, yX1_setKnown, cX1_setKnown, 3, none, 1, 21)
def mX4_swear : MI := (4, yX4_swear, cX4_swear, 4, (some .int), 4, 91)
def mX5_isCouple : MI := (5, yX5_isCouple, cX5_isCouple, 5, (some .boolean), 2, 48)
def mX5_canSwear : MI := (5, yX5_canSwear, cX5_canSwear, 5, (some .boolean), 3, 72)
def mX5_sworn : MI := (5, yX5_sworn, cX5_sworn, 5, (some .int), 1, 25)
def mX5_swear : MI := (5, yX5_swear, cX5_swear, 4, (some .int), 4, 96)
def mX4_deny : MI := (4, yX4_deny, cX4_deny, 3, (some .int), 2, 44)
def mX5_deny : MI := (5, yX5_deny, cX5_deny, 3, (some .int), 2, 46)
def mX1_canLoseGlass : MI := (1, yX1_canLoseGlass, cX1_canLoseGlass, 2, (some .boolean), 1, 22)
def mX1_fine : MI := (1, yX1_fine, cX1_fine, 3, none, 1, 21)
def mX1_loseGlass : MI := (1, yX1_loseGlass, cX1_loseGlass, 3, none, 2, 43)
def mX4_drop : MI := (4, yX4_drop, cX4_drop, 2, (some .int), 3, 65)
def mX5_canDrop : MI := (5, yX5_canDrop, cX5_canDrop, 3, (some .boolean), 2, 46)
def mX5_dropOn : MI := (5, yX5_dropOn, cX5_dropOn, 4, none, 0, 0)
def mX5_drop : MI := (5, yX5_drop, cX5_drop, 2, (some .int), 3, 68)
def mX1_letUnsee : MI := (1, yX1_letUnsee, cX1_letUnsee, 3, none, 1, 21)
def mX1_regainGlass : MI := (1, yX1_regainGlass, cX1_regainGlass, 4, none, 2, 43)
def mX0_takeBackLast : MI := (0, yX0_takeBackLast, cX0_takeBackLast, 4, none, 3, 66)
def mX4_undo : MI := (4, yX4_undo, cX4_undo, 1, (some .int), 4, 89)
def mX5_undo : MI := (5, yX5_undo, cX5_undo, 2, (some .int), 0, 0)
def mX1_asItIs : MI := (1, yX1_asItIs, cX1_asItIs, 2, (some .int), 2, 43)
def mX1_couplesOf : MI := (1, yX1_couplesOf, cX1_couplesOf, 6, (some .int), 4, 91)
def mX1_firstCoupleOf : MI := (1, yX1_firstCoupleOf, cX1_firstCoupleOf, 4, (some .int), 3, 67)
def mX4_couples : MI := (4, yX4_couples, cX4_couples, 3, (some .int), 5, 116)
def mX5_couples : MI := (5, yX5_couples, cX5_couples, 9, (some .int), 3, 72)
def mX1_everybody : MI := (1, yX1_everybody, cX1_everybody, 1, (some .int), 0, 0)
def mX1_hasCoupleAmong : MI := (1, yX1_hasCoupleAmong, cX1_hasCoupleAmong, 5, (some .boolean), 2, 44)
def mX1_knowableAmong : MI := (1, yX1_knowableAmong, cX1_knowableAmong, 4, (some .int), 3, 68)
def mX4_isFewer : MI := (4, yX4_isFewer, cX4_isFewer, 4, (some .boolean), 1, 20)
def mX4_cover : MI := (4, yX4_cover, cX4_cover, 5, (some .int), 4, 91)
def mX5_every : MI := (5, yX5_every, cX5_every, 1, (some .int), 0, 0)
def mX5_ones : MI := (5, yX5_ones, cX5_ones, 3, (some .int), 0, 0)
def mX5_isBy : MI := (5, yX5_isBy, cX5_isBy, 6, (some .boolean), 3, 73)
def mX5_canBe : MI := (5, yX5_canBe, cX5_canBe, 5, (some .int), 4, 98)
def mX5_cover : MI := (5, yX5_cover, cX5_cover, 5, (some .int), 5, 122)
def mX4_silence : MI := (4, yX4_silence, cX4_silence, 5, (some .int), 3, 68)
def mX5_silence : MI := (5, yX5_silence, cX5_silence, 5, (some .int), 4, 98)
def mX4_leastIn : MI := (4, yX4_leastIn, cX4_leastIn, 2, (some .int), 0, 0)
def mX4_standingRow : MI := (4, yX4_standingRow, cX4_standingRow, 2, (some .int), 0, 0)
def mX1_areCoupleForSome : MI := (1, yX1_areCoupleForSome, cX1_areCoupleForSome, 4, (some .boolean), 3, 67)
def mX4_pairsIn : MI := (4, yX4_pairsIn, cX4_pairsIn, 1, (some .int), 0, 0)
def mX4_power : MI := (4, yX4_power, cX4_power, 4, (some .int), 0, 0)
def mX4_betterRow : MI := (4, yX4_betterRow, cX4_betterRow, 4, (some .int), 1, 21)
def mX4_bestRowIn : MI := (4, yX4_bestRowIn, cX4_bestRowIn, 8, (some .int), 4, 90)
def mX4_bestRow : MI := (4, yX4_bestRow, cX4_bestRow, 4, (some .int), 5, 117)
def mX4_match : MI := (4, yX4_match, cX4_match, 3, (some .int), 6, 140)
def mX5_layEdges : MI := (5, yX5_layEdges, cX5_layEdges, 4, (some .int), 5, 122)
def mX5_toldOf : MI := (5, yX5_toldOf, cX5_toldOf, 4, (some .int), 1, 21)
def mX5_rowOf : MI := (5, yX5_rowOf, cX5_rowOf, 8, (some .int), 2, 44)
def mX5_match : MI := (5, yX5_match, cX5_match, 5, (some .int), 6, 145)
def mX4_withoutDoings : MI := (4, yX4_withoutDoings, cX4_withoutDoings, 4, (some .int), 0, 0)
def mX1_seesNow : MI := (1, yX1_seesNow, cX1_seesNow, 4, (some .boolean), 2, 43)
def mX1_isForgotten : MI := (1, yX1_isForgotten, cX1_isForgotten, 3, (some .boolean), 2, 43)
def mX1_losesGlass : MI := (1, yX1_losesGlass, cX1_losesGlass, 3, (some .boolean), 3, 65)
def mX1_isLearnt : MI := (1, yX1_isLearnt, cX1_isLearnt, 5, (some .boolean), 4, 91)
def mX1_doneAsTold : MI := (1, yX1_doneAsTold, cX1_doneAsTold, 5, (some .boolean), 5, 115)
def mX4_judge : MI := (4, yX4_judge, cX4_judge, 4, (some .int), 6, 139)
def mX5_power : MI := (5, yX5_power, cX5_power, 4, (some .int), 0, 0)
def mX5_layTrial : MI := (5, yX5_layTrial, cX5_layTrial, 2, none, 0, 0)
def mX5_tryThing : MI := (5, yX5_tryThing, cX5_tryThing, 5, (some .boolean), 4, 96)
def mX5_judge : MI := (5, yX5_judge, cX5_judge, 5, (some .int), 5, 120)
def mX2_add : MI := (2, yX2_add, cX2_add, 4, (some .boolean), 0, 0)
def mX4_hear : MI := (4, yX4_hear, cX4_hear, 4, (some .int), 1, 23)
def mX5_hear : MI := (5, yX5_hear, cX5_hear, 4, (some .int), 2, 46)
def mX4_unhear : MI := (4, yX4_unhear, cX4_unhear, 2, (some .int), 0, 0)
def mX5_unhear : MI := (5, yX5_unhear, cX5_unhear, 2, (some .int), 0, 0)
def mX2_allows : MI := (2, yX2_allows, cX2_allows, 7, (some .boolean), 0, 0)
def mX4_values : MI := (4, yX4_values, cX4_values, 6, (some .int), 1, 26)
def mX5_mayBe : MI := (5, yX5_mayBe, cX5_mayBe, 8, (some .boolean), 0, 0)
def mX5_values : MI := (5, yX5_values, cX5_values, 6, (some .int), 2, 46)
def mX4_factorial : MI := (4, yX4_factorial, cX4_factorial, 3, (some .int), 0, 0)
def mX4_ordersWithAhead : MI := (4, yX4_ordersWithAhead, cX4_ordersWithAhead, 3, (some .int), 1, 22)
def mX4_inLeastTerms : MI := (4, yX4_inLeastTerms, cX4_inLeastTerms, 7, (some .int), 0, 0)
def mX4_share : MI := (4, yX4_share, cX4_share, 8, (some .int), 4, 91)
def mX5_factorial : MI := (5, yX5_factorial, cX5_factorial, 3, (some .int), 0, 0)
def mX5_common : MI := (5, yX5_common, cX5_common, 5, (some .int), 0, 0)
def mX5_share : MI := (5, yX5_share, cX5_share, 6, (some .int), 5, 122)
def mX1_areCouple : MI := (1, yX1_areCouple, cX1_areCouple, 4, (some .boolean), 3, 67)
def mX4_gainOf : MI := (4, yX4_gainOf, cX4_gainOf, 6, (some .int), 4, 90)
def mX4_isContent : MI := (4, yX4_isContent, cX4_isContent, 6, (some .boolean), 5, 115)
def mX4_rests : MI := (4, yX4_rests, cX4_rests, 10, (some .int), 6, 140)
def mX5_gain : MI := (5, yX5_gain, cX5_gain, 5, (some .int), 0, 0)
def mX5_rests : MI := (5, yX5_rests, cX5_rests, 12, (some .int), 4, 98)
def mX4_come : MI := (4, yX4_come, cX4_come, 8, (some .int), 3, 68)
def mX5_come : MI := (5, yX5_come, cX5_come, 8, (some .int), 4, 98)
def mX4_seed : MI := (4, yX4_seed, cX4_seed, 5, (some .long), 0, 0)
def mX5_seed : MI := (5, yX5_seed, cX5_seed, 5, (some .long), 0, 0)
def mX1_passYear : MI := (1, yX1_passYear, cX1_passYear, 2, none, 4, 87)
def mX4_years : MI := (4, yX4_years, cX4_years, 4, (some .int), 5, 108)
def mX5_years : MI := (5, yX5_years, cX5_years, 5, (some .int), 5, 122)
def mX4_isSlot : MI := (4, yX4_isSlot, cX4_isSlot, 1, (some .boolean), 0, 0)
def mX4_keptIn : MI := (4, yX4_keptIn, cX4_keptIn, 2, (some (.object "HalfTruths$Court")), 0, 0)
def mX1_knownMatters : MI := (1, yX1_knownMatters, cX1_knownMatters, 3, (some .int), 2, 42)
def mX4_keep : MI := (4, yX4_keep, cX4_keep, 2, (some .int), 3, 64)
def mX5_known : MI := (5, yX5_known, cX5_known, 5, (some .int), 0, 0)
def mX5_keep : MI := (5, yX5_keep, cX5_keep, 3, (some .int), 1, 25)
def mX4_again : MI := (4, yX4_again, cX4_again, 2, (some .int), 3, 64)
def mX5_again : MI := (5, yX5_again, cX5_again, 3, (some .int), 1, 25)
def mX1_rightlyKnownMatters : MI := (1, yX1_rightlyKnownMatters, cX1_rightlyKnownMatters, 3, (some .int), 3, 64)
def mX1_allFines : MI := (1, yX1_allFines, cX1_allFines, 3, (some .int), 2, 42)
def mX4_count : MI := (4, yX4_count, cX4_count, 2, (some .int), 4, 91)
def mX5_count : MI := (5, yX5_count, cX5_count, 4, (some .int), 5, 122)
set_option maxRecDepth 20000 in
def f_X3_add (h : HS) (p1 : Int32) : Option (Bool × HS) :=
  if (h.1 1 1) < 0 then (some (false, h)) else (if (h.1 1 1) < 48 then (bd (wr h 2 48 (h.1 1 1) p1) fun h1 => Lt (hset h1 1 1 ((h1.1 1 1) + 1)) fun h2 => some (true, h2)) else (some (false, h)))
set_option maxRecDepth 20000 in
def f_X4_write (h : HS) (p1 : Int32) : Option (Int32 × HS) :=
  if p1 < 0 then (some ((-2), h)) else (if (255 : Int32) < p1 then (some ((-2), h)) else (bd2 (f_X3_add h p1) fun r1 h2 => if r1 = true then (some ((h2.1 1 1), h2)) else (some ((-4), h2))))
set_option maxRecDepth 20000 in
def f_X5_in (h : HS) (p0 : Int64) (p2 : Int64) (p4 : Int64) : Option Bool :=
  if (lg_cmp p0 p2) < 0 then (some false) else (if (0 : Int32) < (lg_cmp p0 p4) then (some false) else (some true))
set_option maxRecDepth 20000 in
def f_X5_write (h : HS) (p1 : Int32) : Option (Int32 × HS) :=
  bd (f_X5_in h (Int32.toInt64 p1) 0 255) fun r1 => if r1 = true then (if (h.1 36 10) = 48 then (some ((-4), h)) else (bd (wr h 42 48 (h.1 36 10) p1) fun h2 => Lt (hset h2 36 10 ((h2.1 36 10) + 1)) fun h3 => some ((h3.1 36 10), h3))) else (some ((-2), h))
set_option maxRecDepth 20000 in
def f_X4_wipe (h : HS) : Option (Int32 × HS) :=
  Lt (h.1 1 1) fun v1 => Lt (hset h 1 1 0) fun h2 => some (v1, h2)
set_option maxRecDepth 20000 in
def f_X5_wipe (h : HS) : Option (Int32 × HS) :=
  Lt (h.1 36 10) fun v1 => Lt (hset h 36 10 0) fun h2 => some (v1, h2)
set_option maxRecDepth 20000 in
def f_X1_clear (h : HS) (a : Nat) : Option HS :=
  Lt (hset h a 0 0) fun h1 => Lt (hset h1 a 1 0) fun h2 => Lt (hset h2 a 2 0) fun h3 => Lt (hset h3 a 3 0) fun h4 => Lt (hset h4 a 4 0) fun h5 => Lt (hset h5 a 5 0) fun h6 => some h6
set_option maxRecDepth 20000 in
def f_X1_isPerson (h : HS) (a : Nat) (p1 : Int32) : Option Bool :=
  if p1 < 0 then (some false) else (if p1 < (h.1 a 0) then (if p1 < 6 then (some true) else (some false)) else (some false))
set_option maxRecDepth 20000 in
def f_X1_isMatter (h : HS) (a : Nat) (p1 : Int32) : Option Bool :=
  if p1 < 0 then (some false) else (if p1 < (h.1 a 1) then (if p1 < 4 then (some true) else (some false)) else (some false))
set_option maxRecDepth 20000 in
def f_X1_canSee (h : HS) (a : Nat) (p1 : Int32) (p2 : Int32) : Option Bool :=
  bd (f_X1_isPerson h a p1) fun r1 => if r1 = true then (bd (f_X1_isMatter h a p2) fun r2 => if r2 = true then (bd (rd h (a + 1) 4 p2) fun r3 => if ((r3 >>> (p1 &&& 31)) &&& 1) = 0 then (some true) else (some false)) else (some false)) else (some false)
set_option maxRecDepth 20000 in
def f_X1_canSeeMore (h : HS) (a : Nat) (p1 : Int32) : Option Bool :=
  loop1 (fun rec2 (i1 : Int32) => if i1 < (h.1 a 1) then (bd (f_X1_canSee h a p1 i1) fun r4 => if r4 = true then (some true) else (rec2 (i1 + 1))) else (some false)) 400 0
set_option maxRecDepth 20000 in
def f_X1_canAnybodySee (h : HS) (a : Nat) : Option Bool :=
  loop1 (fun rec2 (i1 : Int32) => if i1 < (h.1 a 0) then (bd (f_X1_canSeeMore h a i1) fun r4 => if r4 = true then (some true) else (rec2 (i1 + 1))) else (some false)) 400 0
set_option maxRecDepth 20000 in
def f_X1_canBegin (h : HS) (a : Nat) (p1 : Int32) : Option Bool :=
  if p1 = 77 then (if (h.1 a 1) < 4 then (some true) else (some false)) else (if p1 = 80 then (if (h.1 a 0) < 6 then (some true) else (some false)) else (if p1 = 83 then (bd (f_X1_canAnybodySee h a) fun r1 => some r1) else (some false)))
set_option maxRecDepth 20000 in
def f_X1_isFigure (h : HS) (p0 : Int32) : Option Bool :=
  if p0 < 0 then (some false) else (if (9 : Int32) < p0 then (some false) else (some true))
set_option maxRecDepth 20000 in
def f_X1_canGoOn (h : HS) (a : Nat) (p1 : Int32) (p2 : Int32) : Option Bool :=
  if p1 = 77 then (bd (f_X1_isFigure h p2) fun r2 => some r2) else (if p1 = 80 then (if p2 = 0 then (some true) else (if p2 = 1 then (some true) else (some false))) else (if p1 = 83 then (bd (f_X1_canSeeMore h a p2) fun r1 => some r1) else (some false)))
set_option maxRecDepth 20000 in
def f_X1_setKind (h : HS) (a : Nat) (p1 : Int32) (p2 : Int32) : Option HS :=
  jn (fun (t1 : Int32) => Lt (hset h a 3 t1) fun h4 => jn (fun (t5 : Int32) => Lt (hset h4 a 4 t5) fun h8 => jn (fun (t9 : Int32) => Lt (hset h8 a 5 t9) fun h12 => some h12) (fun j10 => if p2 = 3 then (j10 ((h8.1 a 5) ||| p1)) else (j10 ((h8.1 a 5) &&& (p1 ^^^ (-1)))))) (fun j6 => if p2 = 2 then (j6 ((h4.1 a 4) ||| p1)) else (j6 ((h4.1 a 4) &&& (p1 ^^^ (-1)))))) (fun j2 => if p2 = 1 then (j2 ((h.1 a 3) ||| p1)) else (j2 ((h.1 a 3) &&& (p1 ^^^ (-1)))))
set_option maxRecDepth 20000 in
def f_X1_addPerson (h : HS) (a : Nat) (p1 : Int32) (p2 : Int32) : Option (Bool × HS) :=
  if (h.1 a 0) < 0 then (some (false, h)) else (if (h.1 a 0) < 6 then (Lt (1 <<< ((h.1 a 0) &&& 31)) fun v1 => jn (fun (h2 : HS) => bd (f_X1_setKind h2 a v1 p2) fun h6 => bd (wr h6 (a + 5) 6 (h6.1 a 0) 0) fun h7 => Lt (hset h7 a 0 ((h7.1 a 0) + 1)) fun h8 => some (true, h8)) (fun j3 => if p1 = 1 then (Lt (hset h a 2 ((h.1 a 2) ||| v1)) fun h9 => j3 h9) else (j3 h))) else (some (false, h)))
set_option maxRecDepth 20000 in
def f_X1_addMatter (h : HS) (a : Nat) (p1 : Int32) (p2 : Int32) : Option (Bool × HS) :=
  if (h.1 a 1) < 0 then (some (false, h)) else (if (h.1 a 1) < 4 then (bd (wr h (a + 1) 4 (h.1 a 1) 0) fun h1 => bd (wr h1 (a + 2) 4 (h1.1 a 1) p1) fun h2 => bd (wr h2 (a + 3) 4 (h2.1 a 1) p2) fun h3 => bd (wr h3 (a + 4) 4 (h3.1 a 1) (-9)) fun h4 => Lt (hset h4 a 1 ((h4.1 a 1) + 1)) fun h5 => some (true, h5)) else (some (false, h)))
set_option maxRecDepth 20000 in
def f_X1_letSee (h : HS) (a : Nat) (p1 : Int32) (p2 : Int32) : Option HS :=
  bd (f_X1_isMatter h a p2) fun r1 => if r1 = true then (bd (rd h (a + 1) 4 p2) fun r2 => bd (wr h (a + 1) 4 p2 (r2 ||| (1 <<< (p1 &&& 31)))) fun h3 => some h3) else (some h)
set_option maxRecDepth 20000 in
def f_X1_takesPart (h : HS) (a : Nat) (p1 : Int32) (p2 : Int32) (p3 : Int32) : Option (Bool × HS) :=
  if p1 = 77 then (bd (f_X1_isFigure h p3) fun r6 => if r6 = true then (bd2 (f_X1_addMatter h a p2 p3) fun r7 h8 => if r7 = true then (some (true, h8)) else (some (false, h8))) else (some (false, h))) else (if p1 = 80 then (if p3 < 0 then (some (false, h)) else (if (3 : Int32) < p3 then (some (false, h)) else (bd2 (f_X1_addPerson h a p2 p3) fun r4 h5 => if r4 = true then (some (true, h5)) else (some (false, h5))))) else (if p1 = 83 then (bd (f_X1_canSee h a p2 p3) fun r1 => if r1 = true then (bd (f_X1_letSee h a p2 p3) fun h3 => some (true, h3)) else (some (false, h))) else (some (false, h))))
set_option maxRecDepth 20000 in
def f_X3_readInto (h : HS) (p1 : Nat) : Option (Int32 × HS) :=
  bd (f_X1_clear h p1) fun h2 => if (h2.1 1 1) < 1 then (some (0, h2)) else (bd (rd h2 2 48 0) fun r3 => if r3 = 79 then (loop4 (fun rec8 (i4 : Int32) (i5 : Int32) (i6 : Int32) (h7 : HS) => jn (bd (rm (h7.1 1 1) 3) fun r12 => if r12 = 1 then (some ((-9), h7)) else (some ((h7.1 1 1), h7))) (fun j10 => if i6 < (h7.1 1 1) then (if i6 < 48 then (bd (rd h7 2 48 i6) fun r13 => bd (rm (i6 - 1) 3) fun r14 => jn (fun (w15 : Int32) (w16 : Int32) (h17 : HS) => rec8 w15 w16 (i6 + 1) h17) (fun j18 => if r14 = 0 then (bd (f_X1_canBegin h7 p1 r13) fun r24 => if r24 = true then (j18 r13 i5 h7) else (some (i6, h7))) else (if r14 = 1 then (Lt (r13 - 48) fun v22 => bd (f_X1_canGoOn h7 p1 i4 v22) fun r23 => if r23 = true then (j18 i4 v22 h7) else (some (i6, h7))) else (bd2 (f_X1_takesPart h7 p1 i4 i5 (r13 - 48)) fun r20 h21 => if r20 = true then (j18 i4 i5 h21) else (some (i6, h21)))))) else (j10)) else (j10))) 400 0 0 1 h2) else (some (0, h2)))
set_option maxRecDepth 20000 in
def f_X4_fault (h : HS) : Option (Int32 × HS) :=
  bd2 (f_X3_readInto h 9) fun r1 h2 => some (r1, h2)
set_option maxRecDepth 20000 in
def f_X5_has (h : HS) (p0 : Int32) (p1 : Int32) : Option Bool :=
  if ((p0 >>> (p1 &&& 31)) &&& 1) = 1 then (some true) else (some false)
set_option maxRecDepth 20000 in
def f_X5_figureOf (h : HS) (p1 : Int32) : Option (Int32 × HS) :=
  jn (fun (t1 : Int32) => bd (f_X5_in h (Int32.toInt64 t1) 0 9) fun r4 => jn (jn (fun (t7 : Int32) => Lt (hset h 36 12 t7) fun h10 => some (0, h10)) (fun j8 => if (h.1 36 12) = (-9) then (j8 (h.1 36 11)) else (j8 (h.1 36 12)))) (fun j5 => if r4 = true then (bd (f_X5_has h p1 t1) fun r11 => if r11 = true then (Lt (hset h 36 11 ((h.1 36 11) + 1)) fun h12 => some (t1, h12)) else (j5)) else (j5))) (fun j2 => jn (j2 (-9)) (fun j13 => if (h.1 36 12) = (-9) then (if (h.1 36 11) < (h.1 36 10) then (bd (rd h 42 48 (h.1 36 11)) fun r15 => j2 (r15 - 48)) else (j13)) else (j13)))
set_option maxRecDepth 20000 in
def f_X5_left (h : HS) (p1 : Int32) : Option Int32 :=
  bd (rd h 41 6 p1) fun r1 => some (((1 <<< ((h.1 36 8) &&& 31)) - 1) &&& (r1 ^^^ (-1)))
set_option maxRecDepth 20000 in
def f_X5_firstsLeft (h : HS) : Option Int32 :=
  loop2 (fun rec3 (i1 : Int32) (i2 : Int32) => if i2 < (h.1 36 7) then (bd (f_X5_left h i2) fun r5 => jn (fun (t6 : Int32) => Lt (i1 ||| t6) fun v9 => rec3 v9 (i2 + 1)) (fun j7 => if r5 = 0 then (j7 0) else (j7 (1 <<< (i2 &&& 31))))) else (some i1)) 400 0 0
set_option maxRecDepth 20000 in
def f_X5_readPart (h : HS) (p1 : Int32) : Option HS :=
  jn (jn (jn (Lt (hset h 36 12 (h.1 36 11)) fun h7 => some h7) (fun j5 => if p1 = 83 then (bd (f_X5_firstsLeft h) fun r8 => if r8 = 0 then (j5) else (Lt (hset h 36 11 ((h.1 36 11) + 1)) fun h9 => bd (f_X5_firstsLeft h9) fun r10 => bd2 (f_X5_figureOf h9 r10) fun r11 h12 => bd (f_X5_left h12 r11) fun r13 => bd2 (f_X5_figureOf h12 r13) fun r14 h15 => bd (rd h15 41 6 r11) fun r16 => jn (fun (t17 : Int32) => bd (wr h15 41 6 r11 (r16 ||| t17)) fun h20 => some h20) (fun j18 => if (h15.1 36 12) = (-9) then (j18 (1 <<< (r14 &&& 31))) else (j18 0)))) else (j5))) (fun j3 => if p1 = 77 then (if (h.1 36 8) < 4 then (Lt (hset h 36 11 ((h.1 36 11) + 1)) fun h21 => bd2 (f_X5_figureOf h21 1023) fun r22 h23 => bd (wr h23 40 8 (h21.1 36 8) r22) fun h24 => bd2 (f_X5_figureOf h24 1023) fun r25 h26 => bd (wr h26 40 8 (4 + (h24.1 36 8)) r25) fun h27 => Lt (hset h27 36 8 ((h27.1 36 8) + 1)) fun h28 => some h28) else (j3)) else (j3))) (fun j1 => if p1 = 80 then (if (h.1 36 7) < 6 then (Lt (hset h 36 11 ((h.1 36 11) + 1)) fun h29 => bd2 (f_X5_figureOf h29 3) fun r30 h31 => bd (wr h31 39 12 (2 * (h29.1 36 7)) r30) fun h32 => bd2 (f_X5_figureOf h32 15) fun r33 h34 => bd (wr h34 39 12 ((2 * (h32.1 36 7)) + 1) r33) fun h35 => Lt (hset h35 36 7 ((h35.1 36 7) + 1)) fun h36 => some h36) else (j1)) else (j1))
set_option maxRecDepth 20000 in
def f_X5_readText (h : HS) : Option (Int32 × HS) :=
  Lt (hset h 36 11 0) fun h1 => Lt (hset h1 36 12 (-9)) fun h2 => Lt (hset h2 36 7 0) fun h3 => Lt (hset h3 36 8 0) fun h4 => loop2 (fun rec7 (i5 : Int32) (h6 : HS) => if i5 < 6 then (bd (wr h6 41 6 i5 0) fun h17 => rec7 (i5 + 1) h17) else (if (h6.1 36 10) = 0 then (some (0, h6)) else (bd (rd h6 42 48 0) fun r9 => if r9 = 79 then (Lt (hset h6 36 11 1) fun h10 => loop1 (fun rec12 (h11 : HS) => if (h11.1 36 12) = (-9) then (if (h11.1 36 11) < (h11.1 36 10) then (bd (rd h11 42 48 (h11.1 36 11)) fun r14 => bd (f_X5_readPart h11 r14) fun h16 => rec12 h16) else (some ((h11.1 36 12), h11))) else (some ((h11.1 36 12), h11))) 400 h10) else (some (0, h6))))) 400 0 h4
set_option maxRecDepth 20000 in
def f_X5_fault (h : HS) : Option (Int32 × HS) :=
  bd2 (f_X5_readText h) fun r1 h2 => some (r1, h2)
set_option maxRecDepth 20000 in
def f_X1_become (h : HS) (a : Nat) (p1 : Nat) : Option HS :=
  Lt (hset h a 0 (h.1 p1 0)) fun h1 => Lt (hset h1 a 1 (h1.1 p1 1)) fun h2 => Lt (hset h2 a 2 (h2.1 p1 2)) fun h3 => Lt (hset h3 a 3 (h3.1 p1 3)) fun h4 => Lt (hset h4 a 4 (h4.1 p1 4)) fun h5 => Lt (hset h5 a 5 (h5.1 p1 5)) fun h6 => loop2 (fun rec9 (i7 : Int32) (h8 : HS) => if i7 < 4 then (bd (rd h8 (p1 + 1) 4 i7) fun r17 => bd (wr h8 (a + 1) 4 i7 r17) fun h18 => bd (rd h18 (p1 + 2) 4 i7) fun r19 => bd (wr h18 (a + 2) 4 i7 r19) fun h20 => bd (rd h20 (p1 + 3) 4 i7) fun r21 => bd (wr h20 (a + 3) 4 i7 r21) fun h22 => bd (rd h22 (p1 + 4) 4 i7) fun r23 => bd (wr h22 (a + 4) 4 i7 r23) fun h24 => rec9 (i7 + 1) h24) else (loop2 (fun rec13 (i11 : Int32) (h12 : HS) => if i11 < 6 then (bd (rd h12 (p1 + 5) 6 i11) fun r15 => bd (wr h12 (a + 5) 6 i11 r15) fun h16 => rec13 (i11 + 1) h16) else (some h12)) 400 0 h8)) 400 0 h6
set_option maxRecDepth 20000 in
def f_X4_court (h : HS) : Option (Int32 × HS) :=
  bd2 (f_X3_readInto h 9) fun r1 h2 => if r1 = (-9) then (bd (f_X1_become h2 3 9) fun h4 => Lt (hset h4 27 3 0) fun h5 => Lt (hset h5 0 5 0) fun h6 => some (((10 * (h6.1 3 0)) + (h6.1 3 1)), h6)) else (some ((-3), h2))
set_option maxRecDepth 20000 in
def f_X5_court (h : HS) : Option (Int32 × HS) :=
  bd2 (f_X5_readText h) fun r1 h2 => if r1 = (-9) then (Lt (hset h2 36 0 (h2.1 36 7)) fun h3 => Lt (hset h3 36 1 (h3.1 36 8)) fun h4 => loop2 (fun rec7 (i5 : Int32) (h6 : HS) => if i5 < 23 then (bd (f_X5_in h6 (Int32.toInt64 i5) 13 16) fun r29 => jn (fun (t30 : Int32) => bd (wr h6 38 46 i5 t30) fun h33 => rec7 (i5 + 1) h33) (fun j31 => if r29 = true then (j31 (-9)) else (j31 0))) else (loop2 (fun rec11 (i9 : Int32) (h10 : HS) => if i9 < (h10.1 36 0) then (bd (rd h10 38 46 0) fun r22 => bd (rd h10 39 12 (2 * i9)) fun r23 => bd (wr h10 38 46 0 (r22 ||| (r23 <<< (i9 &&& 31)))) fun h24 => bd (rd h24 39 12 ((2 * i9) + 1)) fun r25 => bd (wr h24 38 46 (1 + i9) r25) fun h26 => bd (rd h26 41 6 i9) fun r27 => bd (wr h26 38 46 (7 + i9) r27) fun h28 => rec11 (i9 + 1) h28) else (loop2 (fun rec15 (i13 : Int32) (h14 : HS) => if i13 < 8 then (bd (rd h14 40 8 i13) fun r20 => bd (wr h14 37 8 i13 r20) fun h21 => rec15 (i13 + 1) h21) else (Lt (hset h14 36 13 0) fun h17 => bd (wr h17 48 2 0 0) fun h18 => bd (wr h18 48 2 1 0) fun h19 => some (((10 * (h19.1 36 0)) + (h19.1 36 1)), h19))) 400 0 h10)) 400 0 h6)) 400 0 h4) else (some ((-3), h2))
set_option maxRecDepth 20000 in
def f_X1_eyeOf (h : HS) (a : Nat) (p1 : Int32) : Option Int32 :=
  some (((h.1 a 2) >>> (p1 &&& 31)) &&& 1)
set_option maxRecDepth 20000 in
def f_X1_kindOf (h : HS) (a : Nat) (p1 : Int32) : Option Int32 :=
  Lt (1 <<< (p1 &&& 31)) fun v1 => if ((h.1 a 3) &&& v1) = 0 then (if ((h.1 a 4) &&& v1) = 0 then (if ((h.1 a 5) &&& v1) = 0 then (some 0) else (some 3)) else (some 2)) else (some 1)
set_option maxRecDepth 20000 in
def f_X1_witnessesOf (h : HS) (a : Nat) (p1 : Int32) : Option Int32 :=
  bd (f_X1_isMatter h a p1) fun r1 => if r1 = true then (bd (rd h (a + 1) 4 p1) fun r2 => some r2) else (some 0)
set_option maxRecDepth 20000 in
def f_X1_seenBy (h : HS) (a : Nat) (p1 : Int32) : Option Int32 :=
  loop2 (fun rec3 (i1 : Int32) (i2 : Int32) => if i2 < (h.1 a 1) then (bd (f_X1_witnessesOf h a i2) fun r5 => Lt (i1 ||| (((r5 >>> (p1 &&& 31)) &&& 1) <<< (i2 &&& 31))) fun v6 => rec3 v6 (i2 + 1)) else (some i1)) 400 0 0
set_option maxRecDepth 20000 in
def f_X1_finesOf (h : HS) (a : Nat) (p1 : Int32) : Option Int32 :=
  bd (f_X1_isPerson h a p1) fun r1 => if r1 = true then (bd (rd h (a + 5) 6 p1) fun r2 => some r2) else (some 0)
set_option maxRecDepth 20000 in
def f_X4_person (h : HS) (p1 : Int32) (p2 : Int32) : Option Int32 :=
  bd (f_X1_isPerson h 3 p1) fun r1 => if r1 = true then (if p2 = 0 then (bd (f_X1_eyeOf h 3 p1) fun r6 => some r6) else (if p2 = 1 then (bd (f_X1_kindOf h 3 p1) fun r5 => some r5) else (if p2 = 2 then (bd (f_X1_seenBy h 3 p1) fun r4 => some r4) else (if p2 = 3 then (bd (f_X1_finesOf h 3 p1) fun r3 => some r3) else (some (-2)))))) else (some (-1))
set_option maxRecDepth 20000 in
def f_X5_isPerson (h : HS) (p1 : Int32) : Option Bool :=
  bd (f_X5_in h (Int32.toInt64 p1) 0 (Int32.toInt64 ((h.1 36 0) - 1))) fun r1 => some r1
set_option maxRecDepth 20000 in
def f_X5_person (h : HS) (p1 : Int32) (p2 : Int32) : Option Int32 :=
  bd (f_X5_isPerson h p1) fun r1 => if r1 = true then (if p2 = 0 then (bd (rd h 38 46 0) fun r6 => some ((r6 >>> (p1 &&& 31)) &&& 1)) else (if p2 = 1 then (bd (rd h 38 46 (1 + p1)) fun r5 => some r5) else (if p2 = 2 then (bd (rd h 38 46 (7 + p1)) fun r4 => some r4) else (if p2 = 3 then (bd (rd h 38 46 (17 + p1)) fun r3 => some r3) else (some (-2)))))) else (some (-1))
set_option maxRecDepth 20000 in
def f_X1_halfOf (h : HS) (a : Nat) (p1 : Int32) (p2 : Int32) : Option Int32 :=
  bd (f_X1_isMatter h a p1) fun r1 => if r1 = true then (if p2 = 0 then (bd (rd h (a + 2) 4 p1) fun r3 => some r3) else (bd (rd h (a + 3) 4 p1) fun r2 => some r2)) else (some (-9))
set_option maxRecDepth 20000 in
def f_X1_knownAs (h : HS) (a : Nat) (p1 : Int32) : Option Int32 :=
  bd (f_X1_isMatter h a p1) fun r1 => if r1 = true then (bd (rd h (a + 4) 4 p1) fun r2 => some r2) else (some (-9))
set_option maxRecDepth 20000 in
def f_X1_seersOf (h : HS) (a : Nat) (p1 : Int32) (p2 : Int32) : Option Int32 :=
  bd (f_X1_isMatter h a p1) fun r1 => if r1 = true then (jn (fun (t2 : Int32) => bd (rd h (a + 1) 4 p1) fun r5 => some ((r5 &&& (t2 ||| (h.1 a 4))) &&& ((h.1 a 5) ^^^ (-1)))) (fun j3 => if p2 = 0 then (j3 ((h.1 a 2) ^^^ (-1))) else (j3 (h.1 a 2)))) else (some 0)
set_option maxRecDepth 20000 in
def f_X4_matter (h : HS) (p1 : Int32) (p2 : Int32) : Option Int32 :=
  bd (f_X1_isMatter h 3 p1) fun r1 => if r1 = true then (if p2 = 0 then (bd (f_X1_halfOf h 3 p1 0) fun r7 => some r7) else (if p2 = 1 then (bd (f_X1_halfOf h 3 p1 1) fun r6 => some r6) else (if p2 = 2 then (bd (f_X1_knownAs h 3 p1) fun r5 => some r5) else (if p2 = 3 then (bd (f_X1_seersOf h 3 p1 0) fun r4 => some r4) else (if p2 = 4 then (bd (f_X1_seersOf h 3 p1 1) fun r3 => some r3) else (some (-2))))))) else (some (-1))
set_option maxRecDepth 20000 in
def f_X5_isMatter (h : HS) (p1 : Int32) : Option Bool :=
  bd (f_X5_in h (Int32.toInt64 p1) 0 (Int32.toInt64 ((h.1 36 1) - 1))) fun r1 => some r1
set_option maxRecDepth 20000 in
def f_X5_sees (h : HS) (p1 : Int32) (p2 : Int32) (p3 : Int32) (p4 : Int32) : Option Bool :=
  Lt (23 * p1) fun v1 => bd (rd h 38 46 ((v1 + 1) + p2)) fun r2 => jn (fun (t3 : Int32) => if t3 = 0 then (some false) else (bd (rd h 38 46 ((v1 + 7) + p2)) fun r6 => bd (f_X5_has h r6 p3) fun r7 => if r7 = true then (some true) else (some false))) (fun j4 => jn (j4 1) (fun j8 => if r2 = 2 then (j8) else (jn (j4 0) (fun j10 => if r2 = 3 then (j10) else (bd (rd h 38 46 v1) fun r12 => if ((r12 >>> (p2 &&& 31)) &&& 1) = p4 then (j8) else (j10))))))
set_option maxRecDepth 20000 in
def f_X5_seeing (h : HS) (p1 : Int32) (p2 : Int32) (p3 : Int32) : Option Int32 :=
  loop2 (fun rec3 (i1 : Int32) (i2 : Int32) => if i2 < (h.1 36 0) then (bd (f_X5_sees h p1 i2 p2 p3) fun r5 => jn (fun (t6 : Int32) => Lt (i1 ||| t6) fun v9 => rec3 v9 (i2 + 1)) (fun j7 => if r5 = true then (j7 (1 <<< (i2 &&& 31))) else (j7 0))) else (some i1)) 400 0 0
set_option maxRecDepth 20000 in
def f_X5_matter (h : HS) (p1 : Int32) (p2 : Int32) : Option Int32 :=
  bd (f_X5_isMatter h p1) fun r1 => if r1 = true then (if p2 = 0 then (bd (rd h 37 8 p1) fun r7 => some r7) else (if p2 = 1 then (bd (rd h 37 8 (4 + p1)) fun r6 => some r6) else (if p2 = 2 then (bd (rd h 38 46 (13 + p1)) fun r5 => some r5) else (if p2 = 3 then (bd (f_X5_seeing h 0 p1 0) fun r4 => some r4) else (if p2 = 4 then (bd (f_X5_seeing h 0 p1 1) fun r3 => some r3) else (some (-2))))))) else (some (-1))
set_option maxRecDepth 20000 in
def f_X4_isHalf (h : HS) (p0 : Int32) : Option Bool :=
  if p0 = 0 then (some true) else (if p0 = 1 then (some true) else (some false))
set_option maxRecDepth 20000 in
def f_X1_saidBy (h : HS) (a : Nat) (p1 : Int32) (p2 : Int32) (p3 : Int32) : Option Int32 :=
  bd (f_X1_seersOf h a p2 p3) fun r1 => if ((r1 >>> (p1 &&& 31)) &&& 1) = 0 then (some (-9)) else (bd (f_X1_halfOf h a p2 p3) fun r2 => bd (f_X1_kindOf h a p1) fun r3 => if r3 = 1 then (some (9 - r2)) else (some r2))
set_option maxRecDepth 20000 in
def f_X4_says (h : HS) (p1 : Int32) (p2 : Int32) (p3 : Int32) : Option Int32 :=
  bd (f_X1_isPerson h 3 p1) fun r1 => if r1 = true then (bd (f_X1_isMatter h 3 p2) fun r2 => if r2 = true then (bd (f_X4_isHalf h p3) fun r3 => if r3 = true then (bd (f_X1_saidBy h 3 p1 p2 p3) fun r4 => some r4) else (some (-2))) else (some (-1))) else (some (-1))
set_option maxRecDepth 20000 in
def f_X5_saysOn (h : HS) (p1 : Int32) (p2 : Int32) (p3 : Int32) (p4 : Int32) : Option Int32 :=
  bd (rd h 37 8 ((4 * p4) + p3)) fun r1 => bd (rd h 38 46 (((23 * p1) + 1) + p2)) fun r2 => if r2 = 1 then (some (9 - r1)) else (some r1)
set_option maxRecDepth 20000 in
def f_X5_says (h : HS) (p1 : Int32) (p2 : Int32) (p3 : Int32) : Option Int32 :=
  bd (f_X5_isPerson h p1) fun r1 => if r1 = true then (bd (f_X5_isMatter h p2) fun r2 => if r2 = true then (bd (f_X5_in h (Int32.toInt64 p3) 0 1) fun r3 => if r3 = true then (bd (f_X5_sees h 0 p1 p2 p3) fun r4 => if r4 = true then (bd (f_X5_saysOn h 0 p1 p2 p3) fun r5 => some r5) else (some (-9))) else (some (-2))) else (some (-1))) else (some (-1))
set_option maxRecDepth 20000 in
def f_X0_forgetFirst (h : HS) : Option HS :=
  loop2 (fun rec3 (i1 : Int32) (h2 : HS) => if i1 < 14 then (bd (rd h2 28 14 i1) fun r6 => bd (wr h2 28 14 (i1 - 1) r6) fun h7 => bd (rd h7 29 14 i1) fun r8 => bd (wr h7 29 14 (i1 - 1) r8) fun h9 => bd (rd h9 30 14 i1) fun r10 => bd (wr h9 30 14 (i1 - 1) r10) fun h11 => rec3 (i1 + 1) h11) else (Lt (hset h2 27 3 13) fun h5 => some h5)) 400 1 h
set_option maxRecDepth 20000 in
def f_X0_add (h : HS) (p1 : Int32) (p2 : Int32) (p3 : Int32) : Option HS :=
  jn (fun (h1 : HS) => if (h1.1 27 3) < 0 then (some h1) else (if (h1.1 27 3) < 14 then (bd (wr h1 28 14 (h1.1 27 3) p1) fun h4 => bd (wr h4 29 14 (h4.1 27 3) p2) fun h5 => bd (wr h5 30 14 (h5.1 27 3) p3) fun h6 => Lt (hset h6 27 3 ((h6.1 27 3) + 1)) fun h7 => some h7) else (some h1))) (fun j2 => if (h.1 27 3) < 14 then (j2 h) else (bd (f_X0_forgetFirst h) fun h9 => j2 h9))
set_option maxRecDepth 20000 in
def f_J6_bitCount_0f7a4 (h : HS) (p0 : Int32) : Option Int32 :=
  Lt (p0 - ((((p0).toUInt32 >>> ((1 : Int32).toUInt32 &&& Int32.toUInt32 31)).toInt32) &&& 1431655765)) fun v1 => Lt ((v1 &&& 858993459) + ((((v1).toUInt32 >>> ((2 : Int32).toUInt32 &&& Int32.toUInt32 31)).toInt32) &&& 858993459)) fun v2 => Lt ((v2 + (((v2).toUInt32 >>> ((4 : Int32).toUInt32 &&& Int32.toUInt32 31)).toInt32)) &&& 252645135) fun v3 => Lt (v3 + (((v3).toUInt32 >>> ((8 : Int32).toUInt32 &&& Int32.toUInt32 31)).toInt32)) fun v4 => Lt (v4 + (((v4).toUInt32 >>> ((16 : Int32).toUInt32 &&& Int32.toUInt32 31)).toInt32)) fun v5 => some (v5 &&& 63)
set_option maxRecDepth 20000 in
def f_X4_show (h : HS) (p1 : Int32) (p2 : Int32) : Option (Int32 × HS) :=
  bd (f_X1_isPerson h 3 p1) fun r1 => if r1 = true then (bd (f_X1_isMatter h 3 p2) fun r2 => if r2 = true then (bd (f_X1_canSee h 3 p1 p2) fun r3 => if r3 = true then (bd (f_X1_letSee h 3 p1 p2) fun h5 => bd (f_X0_add h5 1 p1 p2) fun h7 => bd (f_X1_witnessesOf h7 3 p2) fun r8 => bd (f_J6_bitCount_0f7a4 h7 r8) fun r9 => some (r9, h7)) else (some ((-3), h))) else (some ((-1), h))) else (some ((-1), h))
set_option maxRecDepth 20000 in
def f_X5_canShow (h : HS) (p1 : Int32) (p2 : Int32) (p3 : Int32) : Option Bool :=
  bd (f_X5_isPerson h p2) fun r1 => if r1 = true then (bd (f_X5_isMatter h p3) fun r2 => if r2 = true then (bd (rd h 38 46 (((23 * p1) + 7) + p2)) fun r3 => bd (f_X5_has h r3 p3) fun r4 => if r4 = true then (some false) else (some true)) else (some false)) else (some false)
set_option maxRecDepth 20000 in
def f_X5_keepAct (h : HS) : Option HS :=
  loop2 (fun rec3 (i1 : Int32) (h2 : HS) => if i1 < 23 then (bd (rd h2 38 46 i1) fun r11 => bd (wr h2 43 322 ((23 * (h2.1 36 14)) + i1) r11) fun h12 => rec3 (i1 + 1) h12) else (bd (rm ((h2.1 36 14) + 1) 14) fun r5 => Lt (hset h2 36 14 r5) fun h6 => jn (fun (t7 : Int32) => Lt (hset h6 36 13 t7) fun h10 => some h10) (fun j8 => if (h6.1 36 13) < 14 then (j8 ((h6.1 36 13) + 1)) else (j8 14)))) 400 0 h
set_option maxRecDepth 20000 in
def f_X5_show (h : HS) (p1 : Int32) (p2 : Int32) : Option (Int32 × HS) :=
  bd (f_X5_isPerson h p1) fun r1 => if r1 = true then (bd (f_X5_isMatter h p2) fun r2 => if r2 = true then (bd (f_X5_canShow h 0 p1 p2) fun r3 => if r3 = true then (bd (f_X5_keepAct h) fun h5 => bd (rd h5 38 46 (7 + p1)) fun r6 => bd (wr h5 38 46 (7 + p1) (r6 ||| (1 <<< (p2 &&& 31)))) fun h7 => loop2 (fun rec10 (i8 : Int32) (i9 : Int32) => if i9 < (h7.1 36 0) then (bd (rd h7 38 46 (7 + i9)) fun r12 => Lt (i8 + ((r12 >>> (p2 &&& 31)) &&& 1)) fun v13 => rec10 v13 (i9 + 1)) else (some (i8, h7))) 400 0 0) else (some ((-3), h))) else (some ((-1), h))) else (some ((-1), h))
set_option maxRecDepth 20000 in
def f_X1_isCouple (h : HS) (a : Nat) (p1 : Int32) (p2 : Int32) (p3 : Int32) : Option Bool :=
  if p1 = p2 then (some false) else (bd (f_X1_isPerson h a p1) fun r1 => if r1 = true then (bd (f_X1_isPerson h a p2) fun r2 => if r2 = true then (bd (f_X1_seersOf h a p3 0) fun r3 => if ((r3 >>> (p1 &&& 31)) &&& 1) = 1 then (bd (f_X1_seersOf h a p3 1) fun r4 => if ((r4 >>> (p2 &&& 31)) &&& 1) = 1 then (some true) else (some false)) else (some false)) else (some false)) else (some false))
set_option maxRecDepth 20000 in
def f_X1_canLearn (h : HS) (a : Nat) (p1 : Int32) (p2 : Int32) (p3 : Int32) : Option Bool :=
  bd (f_X1_isMatter h a p3) fun r1 => if r1 = true then (bd (f_X1_knownAs h a p3) fun r2 => if r2 = (-9) then (bd (f_X1_isCouple h a p1 p2 p3) fun r3 => if r3 = true then (some true) else (some false)) else (some false)) else (some false)
set_option maxRecDepth 20000 in
def f_X1_toldBy (h : HS) (a : Nat) (p1 : Int32) (p2 : Int32) (p3 : Int32) : Option Int32 :=
  bd (f_X1_saidBy h a p1 p3 0) fun r1 => bd (f_X1_saidBy h a p2 p3 1) fun r2 => some ((10 * r1) + r2)
set_option maxRecDepth 20000 in
def f_X1_setKnown (h : HS) (a : Nat) (p1 : Int32) (p2 : Int32) : Option HS :=
  bd (f_X1_isMatter h a p1) fun r1 => if r1 = true then (bd (wr h (a + 4) 4 p1 p2) fun h2 => some h2) else (some h)
set_option maxRecDepth 20000 in
def f_X4_swear (h : HS) (p1 : Int32) (p2 : Int32) (p3 : Int32) : Option (Int32 × HS) :=
  bd (f_X1_isPerson h 3 p1) fun r1 => if r1 = true then (bd (f_X1_isPerson h 3 p2) fun r2 => if r2 = true then (bd (f_X1_isMatter h 3 p3) fun r3 => if r3 = true then (bd (f_X1_canLearn h 3 p1 p2 p3) fun r4 => if r4 = true then (bd (f_X1_toldBy h 3 p1 p2 p3) fun r5 => bd (f_X1_setKnown h 3 p3 r5) fun h7 => bd (f_X0_add h7 4 p3 (-9)) fun h9 => bd (f_X1_knownAs h9 3 p3) fun r10 => some (r10, h9)) else (some ((-3), h))) else (some ((-1), h))) else (some ((-1), h))) else (some ((-1), h))
set_option maxRecDepth 20000 in
def f_X5_isCouple (h : HS) (p1 : Int32) (p2 : Int32) (p3 : Int32) (p4 : Int32) : Option Bool :=
  if p2 = p3 then (some false) else (bd (f_X5_sees h p1 p2 p4 0) fun r1 => if r1 = true then (bd (f_X5_sees h p1 p3 p4 1) fun r2 => if r2 = true then (some true) else (some false)) else (some false))
set_option maxRecDepth 20000 in
def f_X5_canSwear (h : HS) (p1 : Int32) (p2 : Int32) (p3 : Int32) (p4 : Int32) : Option Bool :=
  bd (f_X5_isPerson h p2) fun r1 => if r1 = true then (bd (f_X5_isPerson h p3) fun r2 => if r2 = true then (bd (f_X5_isMatter h p4) fun r3 => if r3 = true then (bd (rd h 38 46 (((23 * p1) + 13) + p4)) fun r4 => if r4 = (-9) then (bd (f_X5_isCouple h p1 p2 p3 p4) fun r5 => if r5 = true then (some true) else (some false)) else (some false)) else (some false)) else (some false)) else (some false)
set_option maxRecDepth 20000 in
def f_X5_sworn (h : HS) (p1 : Int32) (p2 : Int32) (p3 : Int32) (p4 : Int32) : Option Int32 :=
  bd (f_X5_saysOn h p1 p2 p4 0) fun r1 => bd (f_X5_saysOn h p1 p3 p4 1) fun r2 => some ((10 * r1) + r2)
set_option maxRecDepth 20000 in
def f_X5_swear (h : HS) (p1 : Int32) (p2 : Int32) (p3 : Int32) : Option (Int32 × HS) :=
  bd (f_X5_isPerson h p1) fun r1 => if r1 = true then (bd (f_X5_isPerson h p2) fun r2 => if r2 = true then (bd (f_X5_isMatter h p3) fun r3 => if r3 = true then (bd (f_X5_canSwear h 0 p1 p2 p3) fun r4 => if r4 = true then (bd (f_X5_keepAct h) fun h6 => bd (f_X5_sworn h6 0 p1 p2 p3) fun r7 => bd (wr h6 38 46 (13 + p3) r7) fun h8 => bd (rd h8 38 46 (13 + p3)) fun r9 => some (r9, h8)) else (some ((-3), h))) else (some ((-1), h))) else (some ((-1), h))) else (some ((-1), h))
set_option maxRecDepth 20000 in
def f_X4_deny (h : HS) (p1 : Int32) : Option (Int32 × HS) :=
  bd (f_X1_isMatter h 3 p1) fun r1 => if r1 = true then (bd (f_X1_knownAs h 3 p1) fun r2 => if r2 = (-9) then (some ((-3), h)) else (bd (f_X1_setKnown h 3 p1 (-9)) fun h4 => bd (f_X0_add h4 2 p1 r2) fun h6 => some (r2, h6))) else (some ((-1), h))
set_option maxRecDepth 20000 in
def f_X5_deny (h : HS) (p1 : Int32) : Option (Int32 × HS) :=
  bd (f_X5_isMatter h p1) fun r1 => if r1 = true then (bd (rd h 38 46 (13 + p1)) fun r2 => if r2 = (-9) then (some ((-3), h)) else (bd (f_X5_keepAct h) fun h4 => bd (wr h4 38 46 (13 + p1) (-9)) fun h5 => some (r2, h5))) else (some ((-1), h))
set_option maxRecDepth 20000 in
def f_X1_canLoseGlass (h : HS) (a : Nat) (p1 : Int32) : Option Bool :=
  bd (f_X1_isPerson h a p1) fun r1 => if r1 = true then (bd (f_X1_kindOf h a p1) fun r2 => if r2 = 3 then (some false) else (some true)) else (some false)
set_option maxRecDepth 20000 in
def f_X1_fine (h : HS) (a : Nat) (p1 : Int32) (p2 : Int32) : Option HS :=
  bd (f_X1_isPerson h a p1) fun r1 => if r1 = true then (bd (rd h (a + 5) 6 p1) fun r2 => bd (wr h (a + 5) 6 p1 (r2 + p2)) fun h3 => some h3) else (some h)
set_option maxRecDepth 20000 in
def f_X1_loseGlass (h : HS) (a : Nat) (p1 : Int32) : Option HS :=
  Lt (1 <<< (p1 &&& 31)) fun v1 => bd (f_X1_kindOf h a p1) fun r2 => jn (fun (h3 : HS) => bd (f_X1_fine h3 a p1 1) fun h7 => some h7) (fun j4 => if r2 = 2 then (bd (f_X1_setKind h a v1 0) fun h10 => j4 h10) else (Lt (hset h a 2 ((h.1 a 2) ^^^ v1)) fun h8 => j4 h8))
set_option maxRecDepth 20000 in
def f_X4_drop (h : HS) (p1 : Int32) : Option (Int32 × HS) :=
  bd (f_X1_isPerson h 3 p1) fun r1 => if r1 = true then (bd (f_X1_canLoseGlass h 3 p1) fun r2 => if r2 = true then (bd (f_X1_kindOf h 3 p1) fun r3 => bd (f_X0_add h 3 p1 r3) fun h5 => bd (f_X1_loseGlass h5 3 p1) fun h7 => bd (f_X1_eyeOf h7 3 p1) fun r8 => some (r8, h7)) else (some ((-3), h))) else (some ((-1), h))
set_option maxRecDepth 20000 in
def f_X5_canDrop (h : HS) (p1 : Int32) (p2 : Int32) : Option Bool :=
  bd (f_X5_isPerson h p2) fun r1 => if r1 = true then (bd (rd h 38 46 (((23 * p1) + 1) + p2)) fun r2 => if r2 = 3 then (some false) else (some true)) else (some false)
set_option maxRecDepth 20000 in
def f_X5_dropOn (h : HS) (p1 : Int32) (p2 : Int32) : Option HS :=
  Lt (23 * p1) fun v1 => bd (rd h 38 46 ((v1 + 1) + p2)) fun r2 => jn (fun (h3 : HS) => bd (rd h3 38 46 ((v1 + 17) + p2)) fun r6 => bd (wr h3 38 46 ((v1 + 17) + p2) (r6 + 1)) fun h7 => some h7) (fun j4 => if r2 = 2 then (bd (wr h 38 46 ((v1 + 1) + p2) 0) fun h10 => j4 h10) else (bd (rd h 38 46 v1) fun r8 => bd (wr h 38 46 v1 (r8 ^^^ (1 <<< (p2 &&& 31)))) fun h9 => j4 h9))
set_option maxRecDepth 20000 in
def f_X5_drop (h : HS) (p1 : Int32) : Option (Int32 × HS) :=
  bd (f_X5_isPerson h p1) fun r1 => if r1 = true then (bd (f_X5_canDrop h 0 p1) fun r2 => if r2 = true then (bd (f_X5_keepAct h) fun h4 => bd (f_X5_dropOn h4 0 p1) fun h6 => bd (rd h6 38 46 0) fun r7 => some (((r7 >>> (p1 &&& 31)) &&& 1), h6)) else (some ((-3), h))) else (some ((-1), h))
set_option maxRecDepth 20000 in
def f_X1_letUnsee (h : HS) (a : Nat) (p1 : Int32) (p2 : Int32) : Option HS :=
  bd (f_X1_isMatter h a p2) fun r1 => if r1 = true then (bd (rd h (a + 1) 4 p2) fun r2 => bd (wr h (a + 1) 4 p2 (r2 &&& ((1 <<< (p1 &&& 31)) ^^^ (-1)))) fun h3 => some h3) else (some h)
set_option maxRecDepth 20000 in
def f_X1_regainGlass (h : HS) (a : Nat) (p1 : Int32) (p2 : Int32) : Option HS :=
  Lt (1 <<< (p1 &&& 31)) fun v1 => jn (fun (h2 : HS) => bd (f_X1_fine h2 a p1 (-1)) fun h6 => some h6) (fun j3 => if p2 = 2 then (bd (f_X1_setKind h a v1 2) fun h9 => j3 h9) else (Lt (hset h a 2 ((h.1 a 2) ^^^ v1)) fun h7 => j3 h7))
set_option maxRecDepth 20000 in
def f_X0_takeBackLast (h : HS) (p1 : Nat) : Option HS :=
  if (h.1 27 3) < 1 then (some h) else (if (14 : Int32) < (h.1 27 3) then (some h) else (Lt (hset h 27 3 ((h.1 27 3) - 1)) fun h1 => bd (rd h1 29 14 (h1.1 27 3)) fun r2 => bd (rd h1 30 14 (h1.1 27 3)) fun r3 => bd (rd h1 28 14 (h1.1 27 3)) fun r4 => if r4 = 1 then (bd (f_X1_letUnsee h1 p1 r2 r3) fun h11 => some h11) else (bd (rd h1 28 14 (h1.1 27 3)) fun r5 => if r5 = 3 then (bd (f_X1_regainGlass h1 p1 r2 r3) fun h9 => some h9) else (bd (f_X1_setKnown h1 p1 r2 r3) fun h7 => some h7))))
set_option maxRecDepth 20000 in
def f_X4_undo (h : HS) : Option (Int32 × HS) :=
  if (h.1 27 3) = 0 then (some ((-3), h)) else (bd (f_X0_takeBackLast h 3) fun h2 => some ((h2.1 27 3), h2))
set_option maxRecDepth 20000 in
def f_X5_undo (h : HS) : Option (Int32 × HS) :=
  if (h.1 36 13) = 0 then (some ((-3), h)) else (Lt (hset h 36 13 ((h.1 36 13) - 1)) fun h1 => bd (rm ((h1.1 36 14) + 13) 14) fun r2 => Lt (hset h1 36 14 r2) fun h3 => loop2 (fun rec6 (i4 : Int32) (h5 : HS) => if i4 < 23 then (bd (rd h5 43 322 ((23 * (h5.1 36 14)) + i4)) fun r8 => bd (wr h5 38 46 i4 r8) fun h9 => rec6 (i4 + 1) h9) else (some ((h5.1 36 13), h5))) 400 0 h3)
set_option maxRecDepth 20000 in
def f_X1_asItIs (h : HS) (a : Nat) (p1 : Int32) : Option Int32 :=
  bd (f_X1_halfOf h a p1 0) fun r1 => bd (f_X1_halfOf h a p1 1) fun r2 => some ((10 * r1) + r2)
set_option maxRecDepth 20000 in
def f_X1_couplesOf (h : HS) (a : Nat) (p1 : Int32) (p2 : Int32) : Option Int32 :=
  loop2 (fun rec3 (i1 : Int32) (i2 : Int32) => if i2 < (h.1 a 0) then (loop2 (fun rec7 (i5 : Int32) (i6 : Int32) => if i6 < (h.1 a 0) then (bd (f_X1_isCouple h a i2 i6 p1) fun r9 => jn (fun (w10 : Int32) => rec7 w10 (i6 + 1)) (fun j11 => if r9 = true then (jn (j11 (i5 + 1)) (fun j13 => if p2 = 0 then (j13) else (bd (f_X1_toldBy h a i2 i6 p1) fun r15 => bd (f_X1_asItIs h a p1) fun r16 => if r15 = r16 then (j13) else (j11 i5)))) else (j11 i5))) else (rec3 i5 (i2 + 1))) 400 i1 0) else (some i1)) 400 0 0
set_option maxRecDepth 20000 in
def f_X1_firstCoupleOf (h : HS) (a : Nat) (p1 : Int32) : Option Int32 :=
  loop1 (fun rec2 (i1 : Int32) => if i1 < (h.1 a 0) then (loop1 (fun rec5 (i4 : Int32) => if i4 < (h.1 a 0) then (bd (f_X1_isCouple h a i1 i4 p1) fun r7 => if r7 = true then (some ((10 * i1) + i4)) else (rec5 (i4 + 1))) else (rec2 (i1 + 1))) 400 0) else (some (-9))) 400 0
set_option maxRecDepth 20000 in
def f_X4_couples (h : HS) (p1 : Int32) (p2 : Int32) : Option Int32 :=
  bd (f_X1_isMatter h 3 p1) fun r1 => if r1 = true then (if p2 = 0 then (bd (f_X1_couplesOf h 3 p1 0) fun r5 => some r5) else (if p2 = 1 then (bd (f_X1_couplesOf h 3 p1 1) fun r4 => some r4) else (if p2 = 2 then (bd (f_X1_firstCoupleOf h 3 p1) fun r3 => some r3) else (some (-2))))) else (some (-1))
set_option maxRecDepth 20000 in
def f_X5_couples (h : HS) (p1 : Int32) (p2 : Int32) : Option Int32 :=
  bd (f_X5_isMatter h p1) fun r1 => if r1 = true then (bd (f_X5_in h (Int32.toInt64 p2) 0 2) fun r2 => if r2 = true then (loop4 (fun rec7 (i3 : Int32) (i4 : Int32) (i5 : Int32) (i6 : Int32) => if i6 < ((h.1 36 0) * (h.1 36 0)) then (bd (dv i6 (h.1 36 0)) fun r9 => bd (rm i6 (h.1 36 0)) fun r10 => bd (f_X5_isCouple h 0 r9 r10 p1) fun r11 => jn (fun (w12 : Int32) (w13 : Int32) (w14 : Int32) => rec7 w12 w13 w14 (i6 + 1)) (fun j15 => if r11 = true then (jn (fun (t17 : Int32) => bd (f_X5_sworn h 0 r9 r10 p1) fun r20 => bd (rd h 37 8 p1) fun r21 => bd (rd h 37 8 (4 + p1)) fun r22 => jn (fun (t23 : Int32) => Lt (i4 + t23) fun v26 => j15 (i3 + 1) v26 t17) (fun j24 => if r20 = ((10 * r21) + r22) then (j24 1) else (j24 0))) (fun j18 => if i3 = 0 then (j18 ((10 * r9) + r10)) else (j18 i5))) else (j15 i3 i4 i5))) else (if p2 = 0 then (some i3) else (if p2 = 1 then (some i4) else (some i5)))) 400 0 0 (-9) 0) else (some (-2))) else (some (-1))
set_option maxRecDepth 20000 in
def f_X1_everybody (h : HS) (a : Nat) : Option Int32 :=
  some ((1 <<< ((h.1 a 0) &&& 31)) - 1)
set_option maxRecDepth 20000 in
def f_X1_hasCoupleAmong (h : HS) (a : Nat) (p1 : Int32) (p2 : Int32) : Option Bool :=
  bd (f_X1_seersOf h a p1 0) fun r1 => Lt (r1 &&& p2) fun v2 => bd (f_X1_seersOf h a p1 1) fun r3 => Lt (r3 &&& p2) fun v4 => if v2 = 0 then (some false) else (if v4 = 0 then (some false) else (bd (f_J6_bitCount_0f7a4 h (v2 ||| v4)) fun r5 => if (1 : Int32) < r5 then (some true) else (some false)))
set_option maxRecDepth 20000 in
def f_X1_knowableAmong (h : HS) (a : Nat) (p1 : Int32) : Option Int32 :=
  loop2 (fun rec3 (i1 : Int32) (i2 : Int32) => if i2 < (h.1 a 1) then (bd (f_X1_hasCoupleAmong h a i2 p1) fun r5 => jn (fun (w6 : Int32) => rec3 w6 (i2 + 1)) (fun j7 => if r5 = true then (Lt (i1 ||| (1 <<< (i2 &&& 31))) fun v9 => j7 v9) else (j7 i1))) else (some i1)) 400 0 0
set_option maxRecDepth 20000 in
def f_X4_isFewer (h : HS) (p0 : Int32) (p1 : Int32) : Option Bool :=
  bd (f_J6_bitCount_0f7a4 h p0) fun r1 => bd (f_J6_bitCount_0f7a4 h p1) fun r2 => if r1 < r2 then (some true) else (if r1 = r2 then (if p0 < p1 then (some true) else (some false)) else (some false))
set_option maxRecDepth 20000 in
def f_X4_cover (h : HS) : Option Int32 :=
  bd (f_X1_everybody h 3) fun r1 => bd (f_X1_knowableAmong h 3 r1) fun r2 => loop2 (fun rec5 (i3 : Int32) (i4 : Int32) => if r1 < i4 then (some i3) else (bd (f_X1_knowableAmong h 3 i4) fun r7 => jn (fun (w8 : Int32) => rec5 w8 (i4 + 1)) (fun j9 => if r7 = r2 then (bd (f_X4_isFewer h i4 i3) fun r11 => if r11 = true then (j9 i4) else (j9 i3)) else (j9 i3)))) 400 r1 0
set_option maxRecDepth 20000 in
def f_X5_every (h : HS) : Option Int32 :=
  some ((1 <<< ((h.1 36 0) &&& 31)) - 1)
set_option maxRecDepth 20000 in
def f_X5_ones (h : HS) (p0 : Int32) : Option Int32 :=
  loop2 (fun rec3 (i1 : Int32) (i2 : Int32) => if i2 < 6 then (Lt (i1 + ((p0 >>> (i2 &&& 31)) &&& 1)) fun v5 => rec3 v5 (i2 + 1)) else (some i1)) 400 0 0
set_option maxRecDepth 20000 in
def f_X5_isBy (h : HS) (p1 : Int32) (p2 : Int32) (p3 : Int32) : Option Bool :=
  bd (f_X5_seeing h p1 p2 0) fun r1 => Lt (r1 &&& p3) fun v2 => bd (f_X5_seeing h p1 p2 1) fun r3 => Lt (r3 &&& p3) fun v4 => if v2 = 0 then (some false) else (if v4 = 0 then (some false) else (bd (f_X5_ones h (v2 ||| v4)) fun r5 => if (1 : Int32) < r5 then (some true) else (some false)))
set_option maxRecDepth 20000 in
def f_X5_canBe (h : HS) (p1 : Int32) (p2 : Int32) : Option Int32 :=
  loop2 (fun rec3 (i1 : Int32) (i2 : Int32) => if i2 < (h.1 36 1) then (bd (f_X5_isBy h p1 i2 p2) fun r5 => jn (fun (t6 : Int32) => Lt (i1 ||| t6) fun v9 => rec3 v9 (i2 + 1)) (fun j7 => if r5 = true then (j7 (1 <<< (i2 &&& 31))) else (j7 0))) else (some i1)) 400 0 0
set_option maxRecDepth 20000 in
def f_X5_cover (h : HS) : Option Int32 :=
  bd (f_X5_every h) fun r1 => bd (f_X5_canBe h 0 r1) fun r2 => loop2 (fun rec5 (i3 : Int32) (i4 : Int32) => bd (f_X5_every h) fun r7 => if r7 < i4 then (some i3) else (jn (fun (t8 : Int32) => jn (fun (t11 : Int32) => rec5 t11 (i4 + 1)) (fun j12 => jn (j12 i3) (fun j14 => if t8 = 0 then (j14) else (bd (f_X5_canBe h 0 i4) fun r16 => if r16 = r2 then (j12 i4) else (j14))))) (fun j9 => jn (j9 1) (fun j17 => if i3 = (-9) then (j17) else (bd (f_X5_ones h i4) fun r19 => bd (f_X5_ones h i3) fun r20 => if r19 < r20 then (j17) else (j9 0)))))) 400 (-9) 0
set_option maxRecDepth 20000 in
def f_X4_silence (h : HS) (p1 : Int32) : Option Int32 :=
  bd (f_X1_isMatter h 3 p1) fun r1 => if r1 = true then (bd (f_X1_everybody h 3) fun r2 => loop2 (fun rec5 (i3 : Int32) (i4 : Int32) => if r2 < i4 then (some i3) else (bd (f_X1_hasCoupleAmong h 3 p1 (r2 &&& (i4 ^^^ (-1)))) fun r7 => jn (fun (w8 : Int32) => rec5 w8 (i4 + 1)) (fun j9 => if r7 = true then (j9 i3) else (bd (f_X4_isFewer h i4 i3) fun r11 => if r11 = true then (j9 i4) else (j9 i3))))) 400 r2 0) else (some (-1))
set_option maxRecDepth 20000 in
def f_X5_silence (h : HS) (p1 : Int32) : Option Int32 :=
  bd (f_X5_isMatter h p1) fun r1 => if r1 = true then (loop2 (fun rec4 (i2 : Int32) (i3 : Int32) => bd (f_X5_every h) fun r6 => if r6 < i3 then (some i2) else (jn (fun (t7 : Int32) => jn (fun (t10 : Int32) => rec4 t10 (i3 + 1)) (fun j11 => jn (j11 i2) (fun j13 => if t7 = 0 then (j13) else (bd (f_X5_every h) fun r15 => bd (f_X5_isBy h 0 p1 (r15 &&& (i3 ^^^ (-1)))) fun r16 => if r16 = true then (j13) else (j11 i3))))) (fun j8 => jn (j8 1) (fun j17 => if i2 = (-9) then (j17) else (bd (f_X5_ones h i3) fun r19 => bd (f_X5_ones h i2) fun r20 => if r19 < r20 then (j17) else (j8 0)))))) 400 (-9) 0) else (some (-1))
set_option maxRecDepth 20000 in
def f_X4_leastIn (h : HS) (p0 : Int32) : Option Int32 :=
  loop1 (fun rec2 (i1 : Int32) => if i1 < 6 then (if ((p0 >>> (i1 &&& 31)) &&& 1) = 1 then (some i1) else (rec2 (i1 + 1))) else (some (-9))) 400 0
set_option maxRecDepth 20000 in
def f_X4_standingRow (h : HS) (p1 : Int32) : Option Int32 :=
  if p1 < 0 then (some 0) else (if p1 < 64 then (bd (rd h 35 64 p1) fun r1 => some r1) else (some 0))
set_option maxRecDepth 20000 in
def f_X1_areCoupleForSome (h : HS) (a : Nat) (p1 : Int32) (p2 : Int32) : Option Bool :=
  loop1 (fun rec2 (i1 : Int32) => if i1 < (h.1 a 1) then (bd (f_X1_isCouple h a p1 p2 i1) fun r4 => if r4 = true then (some true) else (bd (f_X1_isCouple h a p2 p1 i1) fun r5 => if r5 = true then (some true) else (rec2 (i1 + 1)))) else (some false)) 400 0
set_option maxRecDepth 20000 in
def f_X4_pairsIn (h : HS) (p0 : Int32) : Option Int32 :=
  if p0 = 0 then (some 0) else (if p0 < 100 then (some 1) else (if p0 < 10000 then (some 2) else (some 3)))
set_option maxRecDepth 20000 in
def f_X4_power (h : HS) (p0 : Int32) (p1 : Int32) : Option Int32 :=
  loop2 (fun rec3 (i1 : Int32) (i2 : Int32) => if i2 < p1 then (Lt (i1 * p0) fun v5 => rec3 v5 (i2 + 1)) else (some i1)) 400 1 0
set_option maxRecDepth 20000 in
def f_X4_betterRow (h : HS) (p0 : Int32) (p1 : Int32) : Option Int32 :=
  bd (f_X4_pairsIn h p0) fun r1 => bd (f_X4_pairsIn h p1) fun r2 => if r1 = r2 then (some (if p1 < p0 then p1 else p0)) else (if r2 < r1 then (some p0) else (some p1))
set_option maxRecDepth 20000 in
def f_X4_bestRowIn (h : HS) (p1 : Int32) : Option Int32 :=
  bd (f_X4_leastIn h p1) fun r1 => if r1 = (-9) then (some 0) else (Lt (p1 &&& ((1 <<< (r1 &&& 31)) ^^^ (-1))) fun v2 => bd (f_X4_standingRow h v2) fun r3 => Lt (r1 + 1) fun v4 => loop2 (fun rec7 (i5 : Int32) (i6 : Int32) => if i6 < 6 then (jn (fun (w9 : Int32) => rec7 w9 (i6 + 1)) (fun j10 => if ((v2 >>> (i6 &&& 31)) &&& 1) = 1 then (bd (f_X1_areCoupleForSome h 3 r1 i6) fun r12 => if r12 = true then (bd (f_X4_standingRow h (v2 &&& ((1 <<< (i6 &&& 31)) ^^^ (-1)))) fun r13 => Lt (((10 * (r1 + 1)) + i6) + 1) fun v14 => bd (f_X4_pairsIn h r13) fun r15 => bd (f_X4_power h 100 r15) fun r16 => bd (f_X4_betterRow h i5 ((v14 * r16) + r13)) fun r17 => j10 r17) else (j10 i5)) else (j10 i5))) else (some i5)) 400 r3 v4)
set_option maxRecDepth 20000 in
def f_X4_bestRow (h : HS) : Option (Int32 × HS) :=
  bd (f_X1_everybody h 3) fun r1 => loop3 (fun rec5 (i2 : Int32) (i3 : Int32) (h4 : HS) => if r1 < i3 then (some (i2, h4)) else (if i3 < 64 then (bd (f_X4_bestRowIn h4 i3) fun r7 => bd (wr h4 35 64 i3 r7) fun h8 => rec5 r7 (i3 + 1) h8) else (some (i2, h4)))) 400 0 0 h
set_option maxRecDepth 20000 in
def f_X4_match (h : HS) (p1 : Int32) : Option (Int32 × HS) :=
  bd2 (f_X4_bestRow h) fun r1 h2 => if p1 = 0 then (bd (f_X4_pairsIn h2 r1) fun r3 => some (r3, h2)) else (some (r1, h2))
set_option maxRecDepth 20000 in
def f_X5_layEdges (h : HS) : Option (Int32 × HS) :=
  loop3 (fun rec4 (i1 : Int32) (i2 : Int32) (h3 : HS) => if i2 < (h3.1 36 0) then (Lt (i2 + 1) fun v6 => loop3 (fun rec10 (i7 : Int32) (i8 : Int32) (h9 : HS) => if i8 < (h9.1 36 0) then (bd (f_X5_canBe h9 0 ((1 <<< (i2 &&& 31)) ||| (1 <<< (i8 &&& 31)))) fun r12 => jn (fun (w13 : Int32) (h14 : HS) => rec10 w13 (i8 + 1) h14) (fun j15 => if r12 = 0 then (j15 i7 h9) else (bd (wr h9 44 15 i7 ((1 <<< (i2 &&& 31)) ||| (1 <<< (i8 &&& 31)))) fun h17 => j15 (i7 + 1) h17))) else (rec4 i7 (i2 + 1) h9)) 400 i1 v6 h3) else (some (i1, h3))) 400 0 0 h
set_option maxRecDepth 20000 in
def f_X5_toldOf (h : HS) (p1 : Int32) : Option Int32 :=
  loop2 (fun rec3 (i1 : Int32) (i2 : Int32) => if i2 < (h.1 36 0) then (bd (f_X5_has h p1 i2) fun r5 => jn (fun (t6 : Int32) => rec3 t6 (i2 + 1)) (fun j7 => if r5 = true then (j7 (((10 * i1) + i2) + 1)) else (j7 i1))) else (some i1)) 400 0 0
set_option maxRecDepth 20000 in
def f_X5_rowOf (h : HS) (p1 : Int32) (p2 : Int32) : Option Int32 :=
  loop1 (fun rec2 (i1 : Int32) => if i1 < p2 then (jn (fun (t4 : Int32) => loop1 (fun rec8 (i7 : Int32) => jn (fun (t10 : Int32) => if i7 < t10 then (jn (fun (t13 : Int32) => jn (fun (t16 : Int32) => loop1 (fun rec20 (i19 : Int32) => jn (rec8 (i7 + 1)) (fun j22 => if t13 = 0 then (j22) else (jn (fun (t24 : Int32) => if i19 < t24 then (jn (fun (t27 : Int32) => if t27 = 0 then (rec20 (i19 + 1)) else (if p1 = 1 then (bd (rd h 44 15 i1) fun r40 => bd (f_X5_toldOf h r40) fun r41 => some r41) else (if p1 = 2 then (bd (rd h 44 15 i1) fun r36 => bd (f_X5_toldOf h r36) fun r37 => bd (rd h 44 15 i7) fun r38 => bd (f_X5_toldOf h r38) fun r39 => some ((100 * r37) + r39)) else (bd (rd h 44 15 i1) fun r30 => bd (f_X5_toldOf h r30) fun r31 => bd (rd h 44 15 i7) fun r32 => bd (f_X5_toldOf h r32) fun r33 => bd (rd h 44 15 i19) fun r34 => bd (f_X5_toldOf h r34) fun r35 => some (((10000 * r31) + (100 * r33)) + r35))))) (fun j28 => jn (j28 1) (fun j42 => if p1 < 3 then (j42) else (bd (rd h 44 15 i1) fun r44 => bd (rd h 44 15 i7) fun r45 => bd (rd h 44 15 i19) fun r46 => if ((r44 ||| r45) &&& r46) = 0 then (j42) else (j28 0))))) else (j22)) (fun j25 => if (2 : Int32) < p1 then (j25 p2) else (j25 (i7 + 1)))))) 400 t16) (fun j17 => if (2 : Int32) < p1 then (j17 (i7 + 1)) else (j17 i7))) (fun j14 => jn (j14 1) (fun j47 => if p1 < 2 then (j47) else (bd (rd h 44 15 i1) fun r49 => bd (rd h 44 15 i7) fun r50 => if (r49 &&& r50) = 0 then (j47) else (j14 0))))) else (rec2 (i1 + 1))) (fun j11 => if (1 : Int32) < p1 then (j11 p2) else (j11 (i1 + 1)))) 400 t4) (fun j5 => if (1 : Int32) < p1 then (j5 (i1 + 1)) else (j5 i1))) else (some (-9))) 400 0
set_option maxRecDepth 20000 in
def f_X5_match (h : HS) (p1 : Int32) : Option (Int32 × HS) :=
  bd2 (f_X5_layEdges h) fun r1 h2 => loop1 (fun rec4 (i3 : Int32) => if (0 : Int32) < i3 then (bd (f_X5_rowOf h2 i3 r1) fun r6 => if r6 = (-9) then (rec4 (i3 + (-1))) else (if p1 = 0 then (some (i3, h2)) else (some (r6, h2)))) else (some (0, h2))) 400 3
set_option maxRecDepth 20000 in
def f_X4_withoutDoings (h : HS) (p0 : Int32) (p1 : Int32) : Option Int32 :=
  loop2 (fun rec3 (i1 : Int32) (i2 : Int32) => if i2 < p1 then (bd (dv i1 1000) fun r5 => rec3 r5 (i2 + 1)) else (some i1)) 400 p0 0
set_option maxRecDepth 20000 in
def f_X1_seesNow (h : HS) (a : Nat) (p1 : Int32) (p2 : Int32) : Option (Bool × HS) :=
  bd (f_X1_canSee h a p1 p2) fun r1 => if r1 = true then (bd (f_X1_letSee h a p1 p2) fun h3 => some (r1, h3)) else (some (r1, h))
set_option maxRecDepth 20000 in
def f_X1_isForgotten (h : HS) (a : Nat) (p1 : Int32) : Option (Bool × HS) :=
  bd (f_X1_knownAs h a p1) fun r1 => jn (fun (t2 : Int32) => if t2 = 0 then (retBH t2 h) else (bd (f_X1_setKnown h a p1 (-9)) fun h6 => retBH t2 h6)) (fun j3 => if r1 = (-9) then (j3 0) else (j3 1))
set_option maxRecDepth 20000 in
def f_X1_losesGlass (h : HS) (a : Nat) (p1 : Int32) : Option (Bool × HS) :=
  bd (f_X1_canLoseGlass h a p1) fun r1 => if r1 = true then (bd (f_X1_loseGlass h a p1) fun h3 => some (r1, h3)) else (some (r1, h))
set_option maxRecDepth 20000 in
def f_X1_isLearnt (h : HS) (a : Nat) (p1 : Int32) (p2 : Int32) (p3 : Int32) : Option (Bool × HS) :=
  bd (f_X1_canLearn h a p1 p2 p3) fun r1 => if r1 = true then (bd (f_X1_toldBy h a p1 p2 p3) fun r2 => bd (f_X1_setKnown h a p3 r2) fun h4 => some (r1, h4)) else (some (r1, h))
set_option maxRecDepth 20000 in
def f_X1_doneAsTold (h : HS) (a : Nat) (p1 : Int32) : Option (Bool × HS) :=
  bd (dv p1 100) fun r1 => bd (dv p1 10) fun r2 => bd (rm r2 10) fun r3 => bd (rm p1 10) fun r4 => if r1 = 1 then (bd2 (f_X1_seesNow h a r3 r4) fun r11 h12 => some (r11, h12)) else (if r1 = 2 then (if r3 = 0 then (bd2 (f_X1_isForgotten h a r4) fun r9 h10 => if r9 = true then (some (true, h10)) else (some (false, h10))) else (some (false, h))) else (if r1 = 3 then (if r3 = 0 then (bd2 (f_X1_losesGlass h a r4) fun r7 h8 => if r7 = true then (some (true, h8)) else (some (false, h8))) else (some (false, h))) else (bd2 (f_X1_isLearnt h a r3 r4 (r1 - 4)) fun r5 h6 => some (r5, h6))))
set_option maxRecDepth 20000 in
def f_X4_judge (h : HS) (p1 : Int32) (p2 : Int32) : Option (Int32 × HS) :=
  if p1 < 1 then (some ((-2), h)) else (if (3 : Int32) < p1 then (some ((-2), h)) else (if p2 < 0 then (some ((-2), h)) else (bd (f_X4_withoutDoings h p2 p1) fun r1 => if r1 = 0 then (bd (f_X1_become h 9 3) fun h3 => loop2 (fun rec6 (i4 : Int32) (h5 : HS) => if i4 < p1 then (bd (f_X4_withoutDoings h5 p2 ((p1 - 1) - i4)) fun r8 => bd (rm r8 1000) fun r9 => bd2 (f_X1_doneAsTold h5 9 r9) fun r10 h11 => if r10 = true then (rec6 (i4 + 1) h11) else (some (i4, h11))) else (some ((-9), h5))) 400 0 h3) else (some ((-2), h)))))
set_option maxRecDepth 20000 in
def f_X5_power (h : HS) (p0 : Int32) (p1 : Int32) : Option Int32 :=
  loop2 (fun rec3 (i1 : Int32) (i2 : Int32) => if i2 < p1 then (Lt (i1 * p0) fun v5 => rec3 v5 (i2 + 1)) else (some i1)) 400 1 0
set_option maxRecDepth 20000 in
def f_X5_layTrial (h : HS) : Option HS :=
  loop2 (fun rec3 (i1 : Int32) (h2 : HS) => if i1 < 23 then (bd (rd h2 38 46 i1) fun r5 => bd (wr h2 38 46 (23 + i1) r5) fun h6 => rec3 (i1 + 1) h6) else (some h2)) 400 0 h
set_option maxRecDepth 20000 in
def f_X5_tryThing (h : HS) (p1 : Int32) (p2 : Int32) (p3 : Int32) : Option (Bool × HS) :=
  jn (fun (t1 : Int32) => jn (jn (jn (if t1 = 0 then (retBH t1 h) else (bd (f_X5_sworn h 1 p2 p3 (p1 - 4)) fun r10 => bd (wr h 38 46 ((36 + p1) - 4) r10) fun h11 => retBH t1 h11)) (fun j8 => if t1 = 0 then (j8) else (if p1 = 3 then (bd (f_X5_dropOn h 1 p3) fun h13 => retBH t1 h13) else (j8)))) (fun j6 => if t1 = 0 then (j6) else (if p1 = 2 then (bd (wr h 38 46 (36 + p3) (-9)) fun h14 => retBH t1 h14) else (j6)))) (fun j4 => if t1 = 0 then (j4) else (if p1 = 1 then (bd (rd h 38 46 (30 + p2)) fun r15 => bd (wr h 38 46 (30 + p2) (r15 ||| (1 <<< (p3 &&& 31)))) fun h16 => retBH t1 h16) else (j4)))) (fun j2 => if p1 = 1 then (bd (f_X5_canShow h 1 p2 p3) fun r28 => j2 (b2i r28)) else (if p1 = 2 then (jn (j2 0) (fun j24 => if p2 = 0 then (bd (f_X5_isMatter h p3) fun r26 => if r26 = true then (bd (rd h 38 46 (36 + p3)) fun r27 => if r27 = (-9) then (j24) else (j2 1)) else (j24)) else (j24))) else (if p1 = 3 then (jn (j2 0) (fun j21 => if p2 = 0 then (bd (f_X5_canDrop h 1 p3) fun r23 => if r23 = true then (j2 1) else (j21)) else (j21))) else (bd (f_X5_in h (Int32.toInt64 p1) 4 7) fun r17 => jn (j2 0) (fun j18 => if r17 = true then (bd (f_X5_canSwear h 1 p2 p3 (p1 - 4)) fun r20 => if r20 = true then (j2 1) else (j18)) else (j18))))))
set_option maxRecDepth 20000 in
def f_X5_judge (h : HS) (p1 : Int32) (p2 : Int32) : Option (Int32 × HS) :=
  bd (f_X5_in h (Int32.toInt64 p1) 1 3) fun r1 => if r1 = true then (bd (f_X5_power h 1000 p1) fun r2 => bd (f_X5_in h (Int32.toInt64 p2) 0 (Int32.toInt64 (r2 - 1))) fun r3 => if r3 = true then (bd (f_X5_layTrial h) fun h5 => loop2 (fun rec8 (i6 : Int32) (h7 : HS) => if i6 < p1 then (bd (f_X5_power h7 1000 ((p1 - 1) - i6)) fun r10 => bd (dv p2 r10) fun r11 => bd (rm r11 1000) fun r12 => bd (dv r12 100) fun r13 => bd (dv r12 10) fun r14 => bd (rm r14 10) fun r15 => bd (rm r12 10) fun r16 => bd2 (f_X5_tryThing h7 r13 r15 r16) fun r17 h18 => if r17 = true then (rec8 (i6 + 1) h18) else (some (i6, h18))) else (some ((-9), h7))) 400 0 h5) else (some ((-2), h))) else (some ((-2), h))
set_option maxRecDepth 20000 in
def f_X2_add (h : HS) (p1 : Int32) (p2 : Int32) (p3 : Int32) : Option (Bool × HS) :=
  if (h.1 31 3) < 0 then (some (false, h)) else (if (h.1 31 3) < 6 then (bd (wr h 32 6 (h.1 31 3) p1) fun h1 => bd (wr h1 33 6 (h1.1 31 3) p2) fun h2 => bd (wr h2 34 6 (h2.1 31 3) p3) fun h3 => Lt (hset h3 31 3 ((h3.1 31 3) + 1)) fun h4 => some (true, h4)) else (some (false, h)))
set_option maxRecDepth 20000 in
def f_X4_hear (h : HS) (p1 : Int32) (p2 : Int32) (p3 : Int32) : Option (Int32 × HS) :=
  bd (f_X1_isMatter h 3 p1) fun r1 => if r1 = true then (bd (f_X4_isHalf h p2) fun r2 => if r2 = true then (if p3 < 0 then (some ((-2), h)) else (if (9 : Int32) < p3 then (some ((-2), h)) else (bd2 (f_X2_add h p1 p2 p3) fun r3 h4 => if r3 = true then (some ((h4.1 31 3), h4)) else (some ((-4), h4))))) else (some ((-2), h))) else (some ((-1), h))
set_option maxRecDepth 20000 in
def f_X5_hear (h : HS) (p1 : Int32) (p2 : Int32) (p3 : Int32) : Option (Int32 × HS) :=
  bd (f_X5_isMatter h p1) fun r1 => if r1 = true then (bd (f_X5_in h (Int32.toInt64 p2) 0 1) fun r2 => if r2 = true then (bd (f_X5_in h (Int32.toInt64 p3) 0 9) fun r3 => if r3 = true then (if (h.1 36 17) = 6 then (some ((-4), h)) else (bd (wr h 45 6 (h.1 36 17) p1) fun h4 => bd (wr h4 46 6 (h4.1 36 17) p2) fun h5 => bd (wr h5 47 6 (h5.1 36 17) p3) fun h6 => Lt (hset h6 36 17 ((h6.1 36 17) + 1)) fun h7 => some ((h7.1 36 17), h7))) else (some ((-2), h))) else (some ((-2), h))) else (some ((-1), h))
set_option maxRecDepth 20000 in
def f_X4_unhear (h : HS) : Option (Int32 × HS) :=
  Lt (h.1 31 3) fun v1 => Lt (hset h 31 3 0) fun h2 => some (v1, h2)
set_option maxRecDepth 20000 in
def f_X5_unhear (h : HS) : Option (Int32 × HS) :=
  Lt (h.1 36 17) fun v1 => Lt (hset h 36 17 0) fun h2 => some (v1, h2)
set_option maxRecDepth 20000 in
def f_X2_allows (h : HS) (p1 : Int32) (p2 : Int32) (p3 : Int32) (p4 : Int32) : Option Bool :=
  loop2 (fun rec3 (i1 : Int32) (i2 : Int32) => jn (if p4 < i1 then (some false) else (some true)) (fun j5 => if i2 < (h.1 31 3) then (if i2 < 6 then (bd (rd h 32 6 i2) fun r7 => jn (fun (w8 : Int32) => rec3 w8 (i2 + 1)) (fun j9 => if r7 = p1 then (bd (rd h 33 6 i2) fun r11 => if r11 = p2 then (bd (rd h 34 6 i2) fun r12 => if r12 = p3 then (j9 i1) else (bd (rd h 34 6 i2) fun r13 => if r13 = (9 - p3) then (j9 (i1 + 1)) else (some false))) else (j9 i1)) else (j9 i1))) else (j5)) else (j5))) 400 0 0
set_option maxRecDepth 20000 in
def f_X4_values (h : HS) (p1 : Int32) (p2 : Int32) (p3 : Int32) : Option Int32 :=
  bd (f_X1_isMatter h 3 p1) fun r1 => if r1 = true then (bd (f_X4_isHalf h p2) fun r2 => if r2 = true then (if p3 < 0 then (some (-2)) else (if (6 : Int32) < p3 then (some (-2)) else (loop2 (fun rec5 (i3 : Int32) (i4 : Int32) => if (9 : Int32) < i4 then (some i3) else (bd (f_X2_allows h p1 p2 i4 p3) fun r7 => jn (fun (w8 : Int32) => rec5 w8 (i4 + 1)) (fun j9 => if r7 = true then (Lt (i3 ||| (1 <<< (i4 &&& 31))) fun v11 => j9 v11) else (j9 i3)))) 400 0 0))) else (some (-2))) else (some (-1))
set_option maxRecDepth 20000 in
def f_X5_mayBe (h : HS) (p1 : Int32) (p2 : Int32) (p3 : Int32) (p4 : Int32) : Option Bool :=
  loop3 (fun rec4 (i1 : Int32) (i2 : Int32) (i3 : Int32) => if i3 < (h.1 36 17) then (bd (rd h 45 6 i3) fun r6 => jn (fun (w7 : Int32) (w8 : Int32) => rec4 w7 w8 (i3 + 1)) (fun j9 => if r6 = p1 then (bd (rd h 46 6 i3) fun r11 => if r11 = p2 then (bd (rd h 47 6 i3) fun r12 => jn (fun (t13 : Int32) => Lt (i1 + t13) fun v16 => jn (fun (t17 : Int32) => j9 v16 t17) (fun j18 => jn (j18 0) (fun j20 => if i2 = 0 then (j20) else (bd (rd h 47 6 i3) fun r22 => jn (j18 1) (fun j23 => if r22 = p3 then (j23) else (bd (rd h 47 6 i3) fun r25 => if r25 = (9 - p3) then (j23) else (j20))))))) (fun j14 => if r12 = (9 - p3) then (j14 1) else (j14 0))) else (j9 i1 i2)) else (j9 i1 i2))) else (if i2 = 0 then (some false) else (if p4 < i1 then (some false) else (some true)))) 400 0 1 0
set_option maxRecDepth 20000 in
def f_X5_values (h : HS) (p1 : Int32) (p2 : Int32) (p3 : Int32) : Option Int32 :=
  bd (f_X5_isMatter h p1) fun r1 => if r1 = true then (bd (f_X5_in h (Int32.toInt64 p2) 0 1) fun r2 => if r2 = true then (bd (f_X5_in h (Int32.toInt64 p3) 0 6) fun r3 => if r3 = true then (loop2 (fun rec6 (i4 : Int32) (i5 : Int32) => if i5 < 10 then (bd (f_X5_mayBe h p1 p2 i5 p3) fun r8 => jn (fun (t9 : Int32) => Lt (i4 ||| t9) fun v12 => rec6 v12 (i5 + 1)) (fun j10 => if r8 = true then (j10 (1 <<< (i5 &&& 31))) else (j10 0))) else (some i4)) 400 0 0) else (some (-2))) else (some (-2))) else (some (-1))
set_option maxRecDepth 20000 in
def f_X4_factorial (h : HS) (p0 : Int32) : Option Int32 :=
  loop2 (fun rec3 (i1 : Int32) (i2 : Int32) => if p0 < i2 then (some i1) else (Lt (i1 * i2) fun v5 => rec3 v5 (i2 + 1))) 400 1 2
set_option maxRecDepth 20000 in
def f_X4_ordersWithAhead (h : HS) (p1 : Int32) : Option Int32 :=
  bd (f_J6_bitCount_0f7a4 h p1) fun r1 => bd (f_X4_factorial h r1) fun r2 => bd (f_X4_factorial h (((h.1 3 0) - 1) - r1)) fun r3 => some (r2 * r3)
set_option maxRecDepth 20000 in
def f_X4_inLeastTerms (h : HS) (p0 : Int32) (p1 : Int32) (p2 : Int32) : Option Int32 :=
  loop3 (fun rec4 (i1 : Int32) (i2 : Int32) (i3 : Int32) => jn (jn (fun (t8 : Int32) => if i1 = 0 then (some t8) else (bd (dv t8 i1) fun r11 => some r11)) (fun j9 => if p2 = 0 then (j9 p1) else (j9 p0))) (fun j6 => if i3 < 100 then (if i2 = 0 then (j6) else (bd (rm i1 i2) fun r12 => rec4 i2 r12 (i3 + 1))) else (j6))) 400 p1 p0 0
set_option maxRecDepth 20000 in
def f_X4_share (h : HS) (p1 : Int32) (p2 : Int32) : Option Int32 :=
  bd (f_X1_isPerson h 3 p1) fun r1 => if r1 = true then (bd (f_X1_everybody h 3) fun r2 => Lt (1 <<< (p1 &&& 31)) fun v3 => loop2 (fun rec6 (i4 : Int32) (i5 : Int32) => if r2 < i5 then (bd (f_X4_factorial h (h.1 3 0)) fun r8 => bd (f_X4_inLeastTerms h i4 r8 p2) fun r9 => some r9) else (jn (fun (w10 : Int32) => rec6 w10 (i5 + 1)) (fun j11 => if (i5 &&& v3) = 0 then (bd (f_X1_knowableAmong h 3 (i5 ||| v3)) fun r13 => bd (f_J6_bitCount_0f7a4 h r13) fun r14 => bd (f_X1_knowableAmong h 3 i5) fun r15 => bd (f_J6_bitCount_0f7a4 h r15) fun r16 => Lt (r14 - r16) fun v17 => bd (f_X4_ordersWithAhead h i5) fun r18 => Lt (i4 + (v17 * r18)) fun v19 => j11 v19) else (j11 i4)))) 400 0 0) else (some (-1))
set_option maxRecDepth 20000 in
def f_X5_factorial (h : HS) (p0 : Int32) : Option Int32 :=
  loop2 (fun rec3 (i1 : Int32) (i2 : Int32) => if p0 < i2 then (some i1) else (Lt (i1 * i2) fun v5 => rec3 v5 (i2 + 1))) 400 1 2
set_option maxRecDepth 20000 in
def f_X5_common (h : HS) (p0 : Int32) (p1 : Int32) : Option Int32 :=
  jn (fun (t1 : Int32) => loop2 (fun rec6 (i4 : Int32) (i5 : Int32) => if i5 = 0 then (some i4) else (bd (rm i4 i5) fun r8 => rec6 i5 r8)) 400 t1 p1) (fun j2 => if p0 < 0 then (j2 (-p0)) else (j2 p0))
set_option maxRecDepth 20000 in
def f_X5_share (h : HS) (p1 : Int32) (p2 : Int32) : Option Int32 :=
  bd (f_X5_isPerson h p1) fun r1 => if r1 = true then (loop2 (fun rec4 (i2 : Int32) (i3 : Int32) => bd (f_X5_every h) fun r6 => if r6 < i3 then (bd (f_X5_factorial h (h.1 36 0)) fun r7 => bd (f_X5_common h i2 r7) fun r8 => if p2 = 0 then (bd (f_X5_factorial h (h.1 36 0)) fun r9 => bd (dv r9 r8) fun r10 => some r10) else (bd (dv i2 r8) fun r11 => some r11)) else (bd (f_X5_has h i3 p1) fun r12 => jn (fun (w13 : Int32) => rec4 w13 (i3 + 1)) (fun j14 => if r12 = true then (j14 i2) else (bd (f_X5_ones h i3) fun r16 => bd (f_X5_factorial h r16) fun r17 => bd (f_X5_ones h i3) fun r18 => bd (f_X5_factorial h (((h.1 36 0) - 1) - r18)) fun r19 => Lt (r17 * r19) fun v20 => bd (f_X5_canBe h 0 (i3 ||| (1 <<< (p1 &&& 31)))) fun r21 => bd (f_X5_ones h r21) fun r22 => bd (f_X5_canBe h 0 i3) fun r23 => bd (f_X5_ones h r23) fun r24 => Lt (i2 + (v20 * (r22 - r24))) fun v25 => j14 v25)))) 400 0 0) else (some (-1))
set_option maxRecDepth 20000 in
def f_X1_areCouple (h : HS) (a : Nat) (p1 : Int32) (p2 : Int32) (p3 : Int32) : Option Bool :=
  bd (f_X1_isCouple h a p1 p2 p3) fun r1 => if r1 = true then (some true) else (bd (f_X1_isCouple h a p2 p1 p3) fun r2 => if r2 = true then (some true) else (some false))
set_option maxRecDepth 20000 in
def f_X4_gainOf (h : HS) (p1 : Int32) (p2 : Int32) (p3 : Int32) (p4 : Int32) (p5 : Int32) : Option Int32 :=
  if p4 = 0 then (some 0) else (if p5 = 0 then (some (-1)) else (bd (f_X1_areCouple h 3 p1 p2 p3) fun r1 => if r1 = true then (bd (f_X1_kindOf h 3 p1) fun r2 => if r2 = 1 then (some 4) else (some 3)) else (some (-2))))
set_option maxRecDepth 20000 in
def f_X4_isContent (h : HS) (p1 : Int32) (p2 : Int32) (p3 : Int32) (p4 : Int32) (p5 : Int32) : Option Bool :=
  bd (f_X4_gainOf h p1 p2 p3 p4 p5) fun r1 => bd (f_X4_gainOf h p1 p2 p3 (1 - p4) p5) fun r2 => if r1 < r2 then (some false) else (some true)
set_option maxRecDepth 20000 in
def f_X4_rests (h : HS) (p1 : Int32) (p2 : Int32) (p3 : Int32) (p4 : Int32) : Option Int32 :=
  bd (f_X1_isPerson h 3 p1) fun r1 => if r1 = true then (bd (f_X1_isPerson h 3 p2) fun r2 => if r2 = true then (bd (f_X1_isMatter h 3 p3) fun r3 => if r3 = true then (if p1 = p2 then (some (-2)) else (if p4 < 0 then (some (-2)) else (if (1 : Int32) < p4 then (some (-2)) else (loop3 (fun rec7 (i4 : Int32) (i5 : Int32) (i6 : Int32) => if i6 < 4 then (bd (dv i6 2) fun r9 => bd (rm i6 2) fun r10 => bd (f_X4_isContent h p1 p2 p3 r9 r10) fun r11 => jn (fun (w12 : Int32) (w13 : Int32) => rec7 w12 w13 (i6 + 1)) (fun j14 => if r11 = true then (bd (f_X4_isContent h p2 p1 p3 r10 r9) fun r16 => if r16 = true then (jn (fun (t17 : Int32) => j14 (i4 + 1) t17) (fun j18 => if i4 = 0 then (j18 ((10 * r9) + r10)) else (j18 i5))) else (j14 i4 i5)) else (j14 i4 i5))) else (if p4 = 0 then (some i4) else (some i5))) 400 0 (-9) 0)))) else (some (-1))) else (some (-1))) else (some (-1))
set_option maxRecDepth 20000 in
def f_X5_gain (h : HS) (p1 : Int32) (p2 : Int32) (p3 : Int32) (p4 : Int32) : Option Int32 :=
  if p3 = 0 then (some 0) else (if p4 = 0 then (some (-1)) else (if p2 = 0 then (some (-2)) else (bd (rd h 38 46 (1 + p1)) fun r1 => if r1 = 1 then (some 4) else (some 3))))
set_option maxRecDepth 20000 in
def f_X5_rests (h : HS) (p1 : Int32) (p2 : Int32) (p3 : Int32) (p4 : Int32) : Option Int32 :=
  bd (f_X5_isPerson h p1) fun r1 => if r1 = true then (bd (f_X5_isPerson h p2) fun r2 => if r2 = true then (bd (f_X5_isMatter h p3) fun r3 => if r3 = true then (if p1 = p2 then (some (-2)) else (bd (f_X5_in h (Int32.toInt64 p4) 0 1) fun r4 => if r4 = true then (bd (f_X5_isBy h 0 p3 ((1 <<< (p1 &&& 31)) ||| (1 <<< (p2 &&& 31)))) fun r5 => loop3 (fun rec9 (i6 : Int32) (i7 : Int32) (i8 : Int32) => if i8 < 4 then (bd (dv i8 2) fun r11 => bd (rm i8 2) fun r12 => bd (f_X5_gain h p1 (b2i r5) (1 - r11) r12) fun r13 => bd (f_X5_gain h p1 (b2i r5) r11 r12) fun r14 => jn (fun (t15 : Int32) => jn (fun (t18 : Int32) => jn (fun (t21 : Int32) => Lt (i6 + t21) fun v24 => rec9 v24 t18 (i8 + 1)) (fun j22 => if t15 = 0 then (j22 0) else (j22 1))) (fun j19 => jn (j19 i7) (fun j25 => if t15 = 0 then (j25) else (if i6 = 0 then (j19 ((10 * r11) + r12)) else (j25))))) (fun j16 => jn (j16 0) (fun j27 => if r14 < r13 then (j27) else (bd (f_X5_gain h p2 (b2i r5) (1 - r12) r11) fun r29 => bd (f_X5_gain h p2 (b2i r5) r12 r11) fun r30 => if r30 < r29 then (j27) else (j16 1))))) else (if p4 = 0 then (some i6) else (some i7))) 400 0 (-9) 0) else (some (-2)))) else (some (-1))) else (some (-1))) else (some (-1))
set_option maxRecDepth 20000 in
def f_X4_come (h : HS) (p1 : Int32) (p2 : Int32) (p3 : Int32) : Option Int32 :=
  bd (f_X1_isMatter h 3 p1) fun r1 => if r1 = true then (if p2 < 0 then (some (-2)) else (if (10 : Int32) < p2 then (some (-2)) else (bd (f_X1_everybody h 3) fun r2 => loop2 (fun rec5 (i3 : Int32) (i4 : Int32) => if r2 < i4 then (bd (f_X4_power h 10 (h.1 3 0)) fun r7 => bd (f_X4_inLeastTerms h i3 r7 p3) fun r8 => some r8) else (bd (f_X1_hasCoupleAmong h 3 p1 i4) fun r9 => jn (fun (w10 : Int32) => rec5 w10 (i4 + 1)) (fun j11 => if r9 = true then (bd (f_J6_bitCount_0f7a4 h i4) fun r13 => bd (f_X4_power h p2 r13) fun r14 => bd (f_X4_power h (10 - p2) ((h.1 3 0) - r13)) fun r15 => Lt (i3 + (r14 * r15)) fun v16 => j11 v16) else (j11 i3)))) 400 0 0))) else (some (-1))
set_option maxRecDepth 20000 in
def f_X5_come (h : HS) (p1 : Int32) (p2 : Int32) (p3 : Int32) : Option Int32 :=
  bd (f_X5_isMatter h p1) fun r1 => if r1 = true then (bd (f_X5_in h (Int32.toInt64 p2) 0 10) fun r2 => if r2 = true then (loop3 (fun rec6 (i3 : Int32) (i4 : Int32) (i5 : Int32) => bd (f_X5_every h) fun r8 => if r8 < i5 then (bd (f_X5_common h i3 i4) fun r9 => if p3 = 0 then (bd (dv i4 r9) fun r10 => some r10) else (bd (dv i3 r9) fun r11 => some r11)) else (bd (f_X5_ones h i5) fun r12 => bd (f_X5_power h p2 r12) fun r13 => bd (f_X5_ones h i5) fun r14 => bd (f_X5_power h (10 - p2) ((h.1 36 0) - r14)) fun r15 => Lt (r13 * r15) fun v16 => Lt (i4 + v16) fun v17 => bd (f_X5_isBy h 0 p1 i5) fun r18 => jn (fun (t19 : Int32) => Lt (i3 + t19) fun v22 => rec6 v22 v17 (i5 + 1)) (fun j20 => if r18 = true then (j20 v16) else (j20 0)))) 400 0 0 0) else (some (-2))) else (some (-1))
set_option maxRecDepth 20000 in
def f_X4_seed (h : HS) (p1 : Int64) : Option (Int64 × HS) :=
  Lt (h.2 0) fun v1 => Lt (hlng h 0 p1) fun h2 => some (v1, h2)
set_option maxRecDepth 20000 in
def f_X5_seed (h : HS) (p1 : Int64) : Option (Int64 × HS) :=
  Lt (h.2 36) fun v1 => Lt (hlng h 36 p1) fun h2 => some (v1, h2)
set_option maxRecDepth 20000 in
def f_X1_passYear (h : HS) (a : Nat) (p1 : Int32) : Option HS :=
  if p1 < 24 then (bd (dv p1 4) fun r3 => bd (rm p1 4) fun r4 => bd2 (f_X1_seesNow h a r3 r4) fun r5 h6 => some h6) else (bd2 (f_X1_losesGlass h a (p1 - 24)) fun r1 h2 => some h2)
set_option maxRecDepth 20000 in
def f_X4_years (h : HS) (p1 : Int32) : Option (Int32 × HS) :=
  if p1 < 1 then (some ((-2), h)) else (if (30 : Int32) < p1 then (some ((-2), h)) else (bd (f_X1_become h 9 3) fun h2 => loop3 (fun rec6 (i3 : Int32) (i4 : Int32) (h5 : HS) => if i4 < p1 then (Lt (hlng h5 0 (((h5.2 0) * 6364136223846793005) + 1442695040888963407)) fun h8 => bd (lrm ((((h8.2 0)).toUInt64 >>> ((33 : Int32).toInt64.toUInt64 &&& Int64.toUInt64 63)).toInt64) 30) fun r9 => bd (f_X1_passYear h8 9 (Int64.toInt32 r9)) fun h11 => bd (f_X1_everybody h11 9) fun r12 => bd (f_X1_knowableAmong h11 9 r12) fun r13 => bd (f_J6_bitCount_0f7a4 h11 r13) fun r14 => Lt (i3 + r14) fun v15 => rec6 v15 (i4 + 1) h11) else (some (i3, h5))) 400 0 0 h2))
set_option maxRecDepth 20000 in
def f_X5_years (h : HS) (p1 : Int32) : Option (Int32 × HS) :=
  bd (f_X5_in h (Int32.toInt64 p1) 1 30) fun r1 => if r1 = true then (bd (f_X5_layTrial h) fun h3 => loop3 (fun rec7 (i4 : Int32) (i5 : Int32) (h6 : HS) => if i5 < p1 then (Lt (hlng h6 36 (((h6.2 36) * 6364136223846793005) + 1442695040888963407)) fun h9 => bd (lrm ((((h9.2 36)).toUInt64 >>> ((33 : Int32).toInt64.toUInt64 &&& Int64.toUInt64 63)).toInt64) 30) fun r10 => Lt (Int64.toInt32 r10) fun v11 => jn (fun (h12 : HS) => bd (f_X5_every h12) fun r15 => bd (f_X5_canBe h12 1 r15) fun r16 => bd (f_X5_ones h12 r16) fun r17 => Lt (i4 + r17) fun v18 => rec7 v18 (i5 + 1) h12) (fun j13 => jn (if v11 < 24 then (j13 h9) else (bd (f_X5_canDrop h9 1 (v11 - 24)) fun r21 => if r21 = true then (bd (f_X5_dropOn h9 1 (v11 - 24)) fun h23 => j13 h23) else (j13 h9))) (fun j19 => if v11 < 24 then (bd (dv v11 4) fun r24 => bd (rm v11 4) fun r25 => bd (f_X5_canShow h9 1 r24 r25) fun r26 => if r26 = true then (bd (dv v11 4) fun r27 => bd (rd h9 38 46 (30 + r27)) fun r28 => bd (rm v11 4) fun r29 => bd (wr h9 38 46 (30 + r27) (r28 ||| (1 <<< (r29 &&& 31)))) fun h30 => j13 h30) else (j19)) else (j19)))) else (some (i4, h6))) 400 0 0 h3) else (some ((-2), h))
set_option maxRecDepth 20000 in
def f_X4_isSlot (h : HS) (p0 : Int32) : Option Bool :=
  if p0 < 0 then (some false) else (if p0 < 2 then (some true) else (some false))
set_option maxRecDepth 20000 in
def f_X4_keptIn (h : HS) (p1 : Int32) : Option Nat :=
  if p1 = 0 then (some 15) else (some 21)
set_option maxRecDepth 20000 in
def f_X1_knownMatters (h : HS) (a : Nat) : Option Int32 :=
  loop2 (fun rec3 (i1 : Int32) (i2 : Int32) => if i2 < (h.1 a 1) then (bd (f_X1_knownAs h a i2) fun r5 => jn (fun (w6 : Int32) => rec3 w6 (i2 + 1)) (fun j7 => if r5 = (-9) then (j7 i1) else (Lt (i1 ||| (1 <<< (i2 &&& 31))) fun v9 => j7 v9))) else (some i1)) 400 0 0
set_option maxRecDepth 20000 in
def f_X4_keep (h : HS) (p1 : Int32) : Option (Int32 × HS) :=
  bd (f_X4_isSlot h p1) fun r1 => if r1 = true then (bd (f_X4_keptIn h p1) fun r2 => if r2 = 15 then (bd (f_X1_become h 15 3) fun h4 => Lt (hset h4 0 5 ((h4.1 0 5) ||| (1 <<< (p1 &&& 31)))) fun h5 => bd (f_X1_knownMatters h5 3) fun r6 => bd (f_J6_bitCount_0f7a4 h5 r6) fun r7 => some (r7, h5)) else if r2 = 21 then (bd (f_X1_become h 21 3) fun h9 => Lt (hset h9 0 5 ((h9.1 0 5) ||| (1 <<< (p1 &&& 31)))) fun h10 => bd (f_X1_knownMatters h10 3) fun r11 => bd (f_J6_bitCount_0f7a4 h10 r11) fun r12 => some (r12, h10)) else none) else (some ((-1), h))
set_option maxRecDepth 20000 in
def f_X5_known (h : HS) (p1 : Int32) : Option Int32 :=
  loop2 (fun rec3 (i1 : Int32) (i2 : Int32) => if i2 < (h.1 36 1) then (jn (fun (t5 : Int32) => jn (fun (t8 : Int32) => Lt (i1 ||| t8) fun v11 => rec3 v11 (i2 + 1)) (fun j9 => if t5 = 0 then (j9 0) else (j9 (1 <<< (i2 &&& 31))))) (fun j6 => if p1 = 0 then (bd (rd h 38 46 (13 + i2)) fun r12 => if r12 = (-9) then (j6 0) else (j6 1)) else (bd (rd h 38 46 (13 + i2)) fun r13 => bd (rd h 37 8 i2) fun r14 => bd (rd h 37 8 (4 + i2)) fun r15 => if r13 = ((10 * r14) + r15) then (j6 1) else (j6 0)))) else (some i1)) 400 0 0
set_option maxRecDepth 20000 in
def f_X5_keep (h : HS) (p1 : Int32) : Option (Int32 × HS) :=
  bd (f_X5_in h (Int32.toInt64 p1) 0 1) fun r1 => if r1 = true then (bd (wr h 48 2 p1 1) fun h2 => loop2 (fun rec5 (i3 : Int32) (h4 : HS) => if i3 < 23 then (bd (rd h4 38 46 i3) fun r9 => bd (wr h4 49 46 ((23 * p1) + i3) r9) fun h10 => rec5 (i3 + 1) h10) else (bd (f_X5_known h4 0) fun r7 => bd (f_X5_ones h4 r7) fun r8 => some (r8, h4))) 400 0 h2) else (some ((-1), h))
set_option maxRecDepth 20000 in
def f_X4_again (h : HS) (p1 : Int32) : Option (Int32 × HS) :=
  bd (f_X4_isSlot h p1) fun r1 => if r1 = true then (if (((h.1 0 5) >>> (p1 &&& 31)) &&& 1) = 0 then (some ((-3), h)) else (bd (f_X4_keptIn h p1) fun r2 => if r2 = 15 then (bd (f_X1_become h 3 15) fun h4 => Lt (hset h4 27 3 0) fun h5 => bd (f_X1_knownMatters h5 3) fun r6 => bd (f_J6_bitCount_0f7a4 h5 r6) fun r7 => some (r7, h5)) else if r2 = 21 then (bd (f_X1_become h 3 21) fun h9 => Lt (hset h9 27 3 0) fun h10 => bd (f_X1_knownMatters h10 3) fun r11 => bd (f_J6_bitCount_0f7a4 h10 r11) fun r12 => some (r12, h10)) else none)) else (some ((-1), h))
set_option maxRecDepth 20000 in
def f_X5_again (h : HS) (p1 : Int32) : Option (Int32 × HS) :=
  bd (f_X5_in h (Int32.toInt64 p1) 0 1) fun r1 => if r1 = true then (bd (rd h 48 2 p1) fun r2 => if r2 = 0 then (some ((-3), h)) else (loop2 (fun rec5 (i3 : Int32) (h4 : HS) => if i3 < 23 then (bd (rd h4 49 46 ((23 * p1) + i3)) fun r10 => bd (wr h4 38 46 i3 r10) fun h11 => rec5 (i3 + 1) h11) else (Lt (hset h4 36 13 0) fun h7 => bd (f_X5_known h7 0) fun r8 => bd (f_X5_ones h7 r8) fun r9 => some (r9, h7))) 400 0 h)) else (some ((-1), h))
set_option maxRecDepth 20000 in
def f_X1_rightlyKnownMatters (h : HS) (a : Nat) : Option Int32 :=
  loop2 (fun rec3 (i1 : Int32) (i2 : Int32) => if i2 < (h.1 a 1) then (bd (f_X1_knownAs h a i2) fun r5 => bd (f_X1_asItIs h a i2) fun r6 => jn (fun (w7 : Int32) => rec3 w7 (i2 + 1)) (fun j8 => if r5 = r6 then (Lt (i1 ||| (1 <<< (i2 &&& 31))) fun v10 => j8 v10) else (j8 i1))) else (some i1)) 400 0 0
set_option maxRecDepth 20000 in
def f_X1_allFines (h : HS) (a : Nat) : Option Int32 :=
  loop2 (fun rec3 (i1 : Int32) (i2 : Int32) => if i2 < (h.1 a 0) then (bd (f_X1_finesOf h a i2) fun r5 => Lt (i1 + r5) fun v6 => rec3 v6 (i2 + 1)) else (some i1)) 400 0 0
set_option maxRecDepth 20000 in
def f_X4_count (h : HS) (p1 : Int32) : Option Int32 :=
  if p1 = 0 then (some (h.1 1 1)) else (if p1 = 1 then (some (h.1 3 0)) else (if p1 = 2 then (some (h.1 3 1)) else (if p1 = 3 then (bd (f_X1_everybody h 3) fun r5 => bd (f_X1_knowableAmong h 3 r5) fun r6 => some r6) else (if p1 = 4 then (bd (f_X1_knownMatters h 3) fun r4 => some r4) else (if p1 = 5 then (bd (f_X1_rightlyKnownMatters h 3) fun r3 => some r3) else (if p1 = 6 then (bd (f_X1_allFines h 3) fun r2 => some r2) else (if p1 = 7 then (some (h.1 27 3)) else (if p1 = 8 then (some (h.1 31 3)) else (some (-2))))))))))
set_option maxRecDepth 20000 in
def f_X5_count (h : HS) (p1 : Int32) : Option Int32 :=
  loop2 (fun rec3 (i1 : Int32) (i2 : Int32) => if i2 < (h.1 36 0) then (bd (rd h 38 46 (17 + i2)) fun r10 => Lt (i1 + r10) fun v11 => rec3 v11 (i2 + 1)) else (if p1 = 0 then (some (h.1 36 10)) else (if p1 = 1 then (some (h.1 36 0)) else (if p1 = 2 then (some (h.1 36 1)) else (if p1 = 3 then (bd (f_X5_every h) fun r8 => bd (f_X5_canBe h 0 r8) fun r9 => some r9) else (if p1 = 4 then (bd (f_X5_known h 0) fun r7 => some r7) else (if p1 = 5 then (bd (f_X5_known h 1) fun r6 => some r6) else (if p1 = 6 then (some i1) else (if p1 = 7 then (some (h.1 36 13)) else (if p1 = 8 then (some (h.1 36 17)) else (some (-2)))))))))))) 400 0 0
end
section
set_option maxRecDepth 20000 in
set_option maxHeartbeats 4000000 in
theorem c_X1_clear_9 (h : HS) : CSim mX1_clear cV_ [.ref 9] h (f_X1_clear h 9) :=
  csim_of (by decide +kernel) rfl (Nat.le_of_ble_eq_true rfl) (ls := [.ref 9]) rfl (by
    unfold f_X1_clear
    exact s_run (M := mX1_clear) [(.aload_n 0, 1, (0, 0), 0), (.iconst 0, 1, (0, 0), 0), (.putfield 27, 3, (1, 0), 0)] (ls' := [.ref 9]) (st' := []) (h' := (hset h 9 0 0)) (by decide +kernel) rfl (pc' := 5) rfl (s_lt ((hset h 9 0 0)) (fun _ => [.ref 9]) (fun _ => []) (fun h1 => h1) (fun h1 => s_run (M := mX1_clear) [(.aload_n 0, 1, (0, 0), 0), (.iconst 0, 1, (0, 0), 0), (.putfield 31, 3, (1, 1), 0)] (ls' := [.ref 9]) (st' := []) (h' := (hset h1 9 1 0)) (by decide +kernel) rfl (pc' := 10) rfl (s_lt ((hset h1 9 1 0)) (fun _ => [.ref 9]) (fun _ => []) (fun h2 => h2) (fun h2 => s_run (M := mX1_clear) [(.aload_n 0, 1, (0, 0), 0), (.iconst 0, 1, (0, 0), 0), (.putfield 34, 3, (1, 2), 0)] (ls' := [.ref 9]) (st' := []) (h' := (hset h2 9 2 0)) (by decide +kernel) rfl (pc' := 15) rfl (s_lt ((hset h2 9 2 0)) (fun _ => [.ref 9]) (fun _ => []) (fun h3 => h3) (fun h3 => s_run (M := mX1_clear) [(.aload_n 0, 1, (0, 0), 0), (.iconst 0, 1, (0, 0), 0), (.putfield 37, 3, (1, 3), 0)] (ls' := [.ref 9]) (st' := []) (h' := (hset h3 9 3 0)) (by decide +kernel) rfl (pc' := 20) rfl (s_lt ((hset h3 9 3 0)) (fun _ => [.ref 9]) (fun _ => []) (fun h4 => h4) (fun h4 => s_run (M := mX1_clear) [(.aload_n 0, 1, (0, 0), 0), (.iconst 0, 1, (0, 0), 0), (.putfield 40, 3, (1, 4), 0)] (ls' := [.ref 9]) (st' := []) (h' := (hset h4 9 4 0)) (by decide +kernel) rfl (pc' := 25) rfl (s_lt ((hset h4 9 4 0)) (fun _ => [.ref 9]) (fun _ => []) (fun h5 => h5) (fun h5 => s_run (M := mX1_clear) [(.aload_n 0, 1, (0, 0), 0), (.iconst 0, 1, (0, 0), 0), (.putfield 43, 3, (1, 5), 0)] (ls' := [.ref 9]) (st' := []) (h' := (hset h5 9 5 0)) (by decide +kernel) rfl (pc' := 30) rfl (s_lt ((hset h5 9 5 0)) (fun _ => [.ref 9]) (fun _ => []) (fun h6 => h6) (fun h6 => s_retV (M := mX1_clear) (by decide +kernel) rfl)))))))))))))
set_option maxRecDepth 20000 in
set_option maxHeartbeats 4000000 in
theorem c_X1_isPerson_9 (h : HS) (p1 : Int32) : CSim mX1_isPerson (cZ_ h) [.ref 9, .int p1] h (f_X1_isPerson h 9 p1) :=
  csim_of (by decide +kernel) rfl (Nat.le_of_ble_eq_true rfl) (ls := [.ref 9, .int p1]) rfl (by
    unfold f_X1_isPerson
    exact s_run (M := mX1_isPerson) [(.iload_n 1, 1, (0, 0), 0)] (ls' := [.ref 9, .int p1]) (st' := [.int p1]) (h' := h) (by decide +kernel) rfl (pc' := 1) rfl (s_if_lt (M := mX1_isPerson) (off := 21) (tgt := 22) (by decide +kernel) (by decide +kernel) (fun _ => s_run (M := mX1_isPerson) [(.iconst 0, 1, (0, 0), 0)] (ls' := [.ref 9, .int p1]) (st' := [.int 0]) (h' := h) (by decide +kernel) rfl (pc' := 23) rfl (s_retZ (M := mX1_isPerson) (v := false) (by decide +kernel) rfl)) (fun _ => s_run (M := mX1_isPerson) [(.iload_n 1, 1, (0, 0), 0), (.aload_n 0, 1, (0, 0), 0), (.getfield 27, 3, (1, 0), 0)] (ls' := [.ref 9, .int p1]) (st' := [.int (h.1 9 0), .int p1]) (h' := h) (by decide +kernel) rfl (pc' := 9) rfl (s_icmp_ge (M := mX1_isPerson) (off := 13) (tgt := 22) (by decide +kernel) (by decide +kernel) (fun _ => s_run (M := mX1_isPerson) [(.iload_n 1, 1, (0, 0), 0), (.bipush 6, 2, (0, 0), 6)] (ls' := [.ref 9, .int p1]) (st' := [.int 6, .int p1]) (h' := h) (by decide +kernel) rfl (pc' := 15) rfl (s_icmp_ge (M := mX1_isPerson) (off := 7) (tgt := 22) (by decide +kernel) (by decide +kernel) (fun _ => s_run (M := mX1_isPerson) [(.iconst 1, 1, (0, 0), 1), (.goto 4, 3, (23, 0), 0)] (ls' := [.ref 9, .int p1]) (st' := [.int 1]) (h' := h) (by decide +kernel) rfl (pc' := 23) rfl (s_retZ (M := mX1_isPerson) (v := true) (by decide +kernel) rfl)) (fun _ => s_run (M := mX1_isPerson) [(.iconst 0, 1, (0, 0), 0)] (ls' := [.ref 9, .int p1]) (st' := [.int 0]) (h' := h) (by decide +kernel) rfl (pc' := 23) rfl (s_retZ (M := mX1_isPerson) (v := false) (by decide +kernel) rfl)))) (fun _ => s_run (M := mX1_isPerson) [(.iconst 0, 1, (0, 0), 0)] (ls' := [.ref 9, .int p1]) (st' := [.int 0]) (h' := h) (by decide +kernel) rfl (pc' := 23) rfl (s_retZ (M := mX1_isPerson) (v := false) (by decide +kernel) rfl))))))
set_option maxRecDepth 20000 in
set_option maxHeartbeats 4000000 in
theorem c_X1_isMatter_9 (h : HS) (p1 : Int32) : CSim mX1_isMatter (cZ_ h) [.ref 9, .int p1] h (f_X1_isMatter h 9 p1) :=
  csim_of (by decide +kernel) rfl (Nat.le_of_ble_eq_true rfl) (ls := [.ref 9, .int p1]) rfl (by
    unfold f_X1_isMatter
    exact s_run (M := mX1_isMatter) [(.iload_n 1, 1, (0, 0), 0)] (ls' := [.ref 9, .int p1]) (st' := [.int p1]) (h' := h) (by decide +kernel) rfl (pc' := 1) rfl (s_if_lt (M := mX1_isMatter) (off := 20) (tgt := 21) (by decide +kernel) (by decide +kernel) (fun _ => s_run (M := mX1_isMatter) [(.iconst 0, 1, (0, 0), 0)] (ls' := [.ref 9, .int p1]) (st' := [.int 0]) (h' := h) (by decide +kernel) rfl (pc' := 22) rfl (s_retZ (M := mX1_isMatter) (v := false) (by decide +kernel) rfl)) (fun _ => s_run (M := mX1_isMatter) [(.iload_n 1, 1, (0, 0), 0), (.aload_n 0, 1, (0, 0), 0), (.getfield 31, 3, (1, 1), 0)] (ls' := [.ref 9, .int p1]) (st' := [.int (h.1 9 1), .int p1]) (h' := h) (by decide +kernel) rfl (pc' := 9) rfl (s_icmp_ge (M := mX1_isMatter) (off := 12) (tgt := 21) (by decide +kernel) (by decide +kernel) (fun _ => s_run (M := mX1_isMatter) [(.iload_n 1, 1, (0, 0), 0), (.iconst 4, 1, (0, 0), 4)] (ls' := [.ref 9, .int p1]) (st' := [.int 4, .int p1]) (h' := h) (by decide +kernel) rfl (pc' := 14) rfl (s_icmp_ge (M := mX1_isMatter) (off := 7) (tgt := 21) (by decide +kernel) (by decide +kernel) (fun _ => s_run (M := mX1_isMatter) [(.iconst 1, 1, (0, 0), 1), (.goto 4, 3, (22, 0), 0)] (ls' := [.ref 9, .int p1]) (st' := [.int 1]) (h' := h) (by decide +kernel) rfl (pc' := 22) rfl (s_retZ (M := mX1_isMatter) (v := true) (by decide +kernel) rfl)) (fun _ => s_run (M := mX1_isMatter) [(.iconst 0, 1, (0, 0), 0)] (ls' := [.ref 9, .int p1]) (st' := [.int 0]) (h' := h) (by decide +kernel) rfl (pc' := 22) rfl (s_retZ (M := mX1_isMatter) (v := false) (by decide +kernel) rfl)))) (fun _ => s_run (M := mX1_isMatter) [(.iconst 0, 1, (0, 0), 0)] (ls' := [.ref 9, .int p1]) (st' := [.int 0]) (h' := h) (by decide +kernel) rfl (pc' := 22) rfl (s_retZ (M := mX1_isMatter) (v := false) (by decide +kernel) rfl))))))
theorem ckX1_canSee_78 : ckV mX1_canSee mX1_isPerson 78 1 220 221 222 38 223 = true := by decide +kernel
theorem ckX1_canSee_84 : ckV mX1_canSee mX1_isMatter 84 1 224 225 226 38 227 = true := by decide +kernel
set_option maxRecDepth 20000 in
set_option maxHeartbeats 4000000 in
theorem c_X1_canSee_9 (h : HS) (p1 : Int32) (p2 : Int32) : CSim mX1_canSee (cZ_ h) [.ref 9, .int p1, .int p2] h (f_X1_canSee h 9 p1 p2) :=
  csim_of (by decide +kernel) rfl (Nat.le_of_ble_eq_true rfl) (ls := [.ref 9, .int p1, .int p2]) rfl (by
    unfold f_X1_canSee
    exact s_run (M := mX1_canSee) [(.aload_n 0, 1, (0, 0), 0), (.iload_n 1, 1, (0, 0), 0)] (ls' := [.ref 9, .int p1, .int p2]) (st' := [.int p1, .ref 9]) (h' := h) (by decide +kernel) rfl (pc' := 2) rfl (s_cVZ ckX1_canSee_78 [.int p1] 9 (st := []) rfl rfl rfl (by decide) (Nat.le_of_ble_eq_true rfl) (by decide +kernel) (c_X1_isPerson_9 _ _) (fun r1 => s_bif_eq (M := mX1_canSee) (off := 28) (tgt := 33) (by decide +kernel) (by decide +kernel) (fun _ => s_run (M := mX1_canSee) [(.aload_n 0, 1, (0, 0), 0), (.iload_n 2, 1, (0, 0), 0)] (ls' := [.ref 9, .int p1, .int p2]) (st' := [.int p2, .ref 9]) (h' := h) (by decide +kernel) rfl (pc' := 10) rfl (s_cVZ ckX1_canSee_84 [.int p2] 9 (st := []) rfl rfl rfl (by decide) (Nat.le_of_ble_eq_true rfl) (by decide +kernel) (c_X1_isMatter_9 _ _) (fun r2 => s_bif_eq (M := mX1_canSee) (off := 20) (tgt := 33) (by decide +kernel) (by decide +kernel) (fun _ => s_run (M := mX1_canSee) [(.aload_n 0, 1, (0, 0), 0), (.getfield 9, 3, (1, 6), 0), (.iload_n 2, 1, (0, 0), 0)] (ls' := [.ref 9, .int p1, .int p2]) (st' := [.int p2, .ref 10]) (h' := h) (by decide +kernel) rfl (pc' := 21) rfl (s_iald (M := mX1_canSee) (n := 4) (by decide +kernel) (by decide) (fun r3 => s_run (M := mX1_canSee) [(.iload_n 1, 1, (0, 0), 0), (.ishr, 1, (0, 0), 0), (.iconst 1, 1, (0, 0), 1), (.iand, 1, (0, 0), 0)] (ls' := [.ref 9, .int p1, .int p2]) (st' := [.int ((r3 >>> (p1 &&& 31)) &&& 1)]) (h' := h) (by decide +kernel) rfl (pc' := 26) rfl (s_if_ne (M := mX1_canSee) (off := 7) (tgt := 33) (by decide +kernel) (by decide +kernel) (fun _ => s_run (M := mX1_canSee) [(.iconst 1, 1, (0, 0), 1), (.goto 4, 3, (34, 0), 0)] (ls' := [.ref 9, .int p1, .int p2]) (st' := [.int 1]) (h' := h) (by decide +kernel) rfl (pc' := 34) rfl (s_retZ (M := mX1_canSee) (v := true) (by decide +kernel) rfl)) (fun _ => s_run (M := mX1_canSee) [(.iconst 0, 1, (0, 0), 0)] (ls' := [.ref 9, .int p1, .int p2]) (st' := [.int 0]) (h' := h) (by decide +kernel) rfl (pc' := 34) rfl (s_retZ (M := mX1_canSee) (v := false) (by decide +kernel) rfl)))))) (fun _ => s_run (M := mX1_canSee) [(.iconst 0, 1, (0, 0), 0)] (ls' := [.ref 9, .int p1, .int p2]) (st' := [.int 0]) (h' := h) (by decide +kernel) rfl (pc' := 34) rfl (s_retZ (M := mX1_canSee) (v := false) (by decide +kernel) rfl))))) (fun _ => s_run (M := mX1_canSee) [(.iconst 0, 1, (0, 0), 0)] (ls' := [.ref 9, .int p1, .int p2]) (st' := [.int 0]) (h' := h) (by decide +kernel) rfl (pc' := 34) rfl (s_retZ (M := mX1_canSee) (v := false) (by decide +kernel) rfl)))))
theorem ckX1_letSee_84 : ckV mX1_letSee mX1_isMatter 84 1 224 225 226 38 227 = true := by decide +kernel
set_option maxRecDepth 20000 in
set_option maxHeartbeats 4000000 in
theorem c_X1_letSee_9 (h : HS) (p1 : Int32) (p2 : Int32) : CSim mX1_letSee cV_ [.ref 9, .int p1, .int p2] h (f_X1_letSee h 9 p1 p2) :=
  csim_of (by decide +kernel) rfl (Nat.le_of_ble_eq_true rfl) (ls := [.ref 9, .int p1, .int p2]) rfl (by
    unfold f_X1_letSee
    exact s_run (M := mX1_letSee) [(.aload_n 0, 1, (0, 0), 0), (.iload_n 2, 1, (0, 0), 0)] (ls' := [.ref 9, .int p1, .int p2]) (st' := [.int p2, .ref 9]) (h' := h) (by decide +kernel) rfl (pc' := 2) rfl (s_cVZ ckX1_letSee_84 [.int p2] 9 (st := []) rfl rfl rfl (by decide) (Nat.le_of_ble_eq_true rfl) (by decide +kernel) (c_X1_isMatter_9 _ _) (fun r1 => s_bif_eq (M := mX1_letSee) (off := 15) (tgt := 20) (by decide +kernel) (by decide +kernel) (fun _ => s_run (M := mX1_letSee) [(.aload_n 0, 1, (0, 0), 0), (.getfield 9, 3, (1, 6), 0), (.iload_n 2, 1, (0, 0), 0), (.dup2, 1, (0, 0), 0)] (ls' := [.ref 9, .int p1, .int p2]) (st' := [.int p2, .ref 10, .int p2, .ref 10]) (h' := h) (by decide +kernel) rfl (pc' := 14) rfl (s_iald (M := mX1_letSee) (n := 4) (by decide +kernel) (by decide) (fun r2 => s_run (M := mX1_letSee) [(.iconst 1, 1, (0, 0), 1), (.iload_n 1, 1, (0, 0), 0), (.ishl, 1, (0, 0), 0), (.ior, 1, (0, 0), 0)] (ls' := [.ref 9, .int p1, .int p2]) (st' := [.int (r2 ||| (1 <<< (p1 &&& 31))), .int p2, .ref 10]) (h' := h) (by decide +kernel) rfl (pc' := 19) rfl (s_iast (M := mX1_letSee) (n := 4) (by decide +kernel) (by decide) (fun h3 => s_retV (M := mX1_letSee) (by decide +kernel) rfl))))) (fun _ => s_retV (M := mX1_letSee) (by decide +kernel) rfl))))
set_option maxRecDepth 20000 in
set_option maxHeartbeats 4000000 in
theorem c_X1_setKind_9 (h : HS) (p1 : Int32) (p2 : Int32) : CSim mX1_setKind cV_ [.ref 9, .int p1, .int p2] h (f_X1_setKind h 9 p1 p2) :=
  csim_of (by decide +kernel) rfl (Nat.le_of_ble_eq_true rfl) (ls := [.ref 9, .int p1, .int p2]) rfl (by
    unfold f_X1_setKind
    exact s_run (M := mX1_setKind) [(.aload_n 0, 1, (0, 0), 0), (.iload_n 2, 1, (0, 0), 0), (.iconst 1, 1, (0, 0), 1)] (ls' := [.ref 9, .int p1, .int p2]) (st' := [.int 1, .int p2, .ref 9]) (h' := h) (by decide +kernel) rfl (pc' := 3) rfl (s_jn (fun (j2 : Int32 → Option HS) => ∀ (t1 : Int32), Sim none mX1_setKind cV_ 23 [.ref 9, .int p1, .int p2] [.int t1, .ref 9] h (j2 t1)) (fun t1 => s_run (M := mX1_setKind) [(.putfield 37, 3, (1, 3), 0)] (ls' := [.ref 9, .int p1, .int p2]) (st' := []) (h' := (hset h 9 3 t1)) (by decide +kernel) rfl (pc' := 26) rfl (s_lt ((hset h 9 3 t1)) (fun _ => [.ref 9, .int p1, .int p2]) (fun _ => []) (fun h4 => h4) (fun h4 => s_run (M := mX1_setKind) [(.aload_n 0, 1, (0, 0), 0), (.iload_n 2, 1, (0, 0), 0), (.iconst 2, 1, (0, 0), 2)] (ls' := [.ref 9, .int p1, .int p2]) (st' := [.int 2, .int p2, .ref 9]) (h' := h4) (by decide +kernel) rfl (pc' := 29) rfl (s_jn (fun (j6 : Int32 → Option HS) => ∀ (t5 : Int32), Sim none mX1_setKind cV_ 49 [.ref 9, .int p1, .int p2] [.int t5, .ref 9] h4 (j6 t5)) (fun t5 => s_run (M := mX1_setKind) [(.putfield 40, 3, (1, 4), 0)] (ls' := [.ref 9, .int p1, .int p2]) (st' := []) (h' := (hset h4 9 4 t5)) (by decide +kernel) rfl (pc' := 52) rfl (s_lt ((hset h4 9 4 t5)) (fun _ => [.ref 9, .int p1, .int p2]) (fun _ => []) (fun h8 => h8) (fun h8 => s_run (M := mX1_setKind) [(.aload_n 0, 1, (0, 0), 0), (.iload_n 2, 1, (0, 0), 0), (.iconst 3, 1, (0, 0), 3)] (ls' := [.ref 9, .int p1, .int p2]) (st' := [.int 3, .int p2, .ref 9]) (h' := h8) (by decide +kernel) rfl (pc' := 55) rfl (s_jn (fun (j10 : Int32 → Option HS) => ∀ (t9 : Int32), Sim none mX1_setKind cV_ 75 [.null, .null, .null] [.int t9, .ref 9] h8 (j10 t9)) (fun t9 => s_run (M := mX1_setKind) [(.putfield 43, 3, (1, 5), 0)] (ls' := [.null, .null, .null]) (st' := []) (h' := (hset h8 9 5 t9)) (by decide +kernel) rfl (pc' := 78) rfl (s_lt ((hset h8 9 5 t9)) (fun _ => [.null, .null, .null]) (fun _ => []) (fun h12 => h12) (fun h12 => s_retV (M := mX1_setKind) (by decide +kernel) rfl))) (fun j10 J11 => s_icmp_ne (M := mX1_setKind) (off := 12) (tgt := 67) (by decide +kernel) (by decide +kernel) (fun _ => s_run (M := mX1_setKind) [(.aload_n 0, 1, (0, 0), 0), (.getfield 43, 3, (1, 5), 0), (.iload_n 1, 1, (0, 0), 0), (.ior, 1, (0, 0), 0), (.goto 11, 3, (75, 0), 0)] (ls' := [.ref 9, .int p1, .int p2]) (st' := [.int ((h8.1 9 5) ||| p1), .ref 9]) (h' := h8) (by decide +kernel) rfl (pc' := 75) rfl (s_wk (ls' := [.null, .null, .null]) ⟨Or.inl rfl, Or.inl rfl, Or.inl rfl, trivial⟩ (J11 ((h8.1 9 5) ||| p1)))) (fun _ => s_run (M := mX1_setKind) [(.aload_n 0, 1, (0, 0), 0), (.getfield 43, 3, (1, 5), 0), (.iload_n 1, 1, (0, 0), 0), (.iconst (-1), 1, (0, 0), (-1)), (.ixor, 1, (0, 0), 0), (.iand, 1, (0, 0), 0)] (ls' := [.ref 9, .int p1, .int p2]) (st' := [.int ((h8.1 9 5) &&& (p1 ^^^ (-1))), .ref 9]) (h' := h8) (by decide +kernel) rfl (pc' := 75) rfl (s_wk (ls' := [.null, .null, .null]) ⟨Or.inl rfl, Or.inl rfl, Or.inl rfl, trivial⟩ (J11 ((h8.1 9 5) &&& (p1 ^^^ (-1))))))))))) (fun j6 J7 => s_icmp_ne (M := mX1_setKind) (off := 12) (tgt := 41) (by decide +kernel) (by decide +kernel) (fun _ => s_run (M := mX1_setKind) [(.aload_n 0, 1, (0, 0), 0), (.getfield 40, 3, (1, 4), 0), (.iload_n 1, 1, (0, 0), 0), (.ior, 1, (0, 0), 0), (.goto 11, 3, (49, 0), 0)] (ls' := [.ref 9, .int p1, .int p2]) (st' := [.int ((h4.1 9 4) ||| p1), .ref 9]) (h' := h4) (by decide +kernel) rfl (pc' := 49) rfl (J7 ((h4.1 9 4) ||| p1))) (fun _ => s_run (M := mX1_setKind) [(.aload_n 0, 1, (0, 0), 0), (.getfield 40, 3, (1, 4), 0), (.iload_n 1, 1, (0, 0), 0), (.iconst (-1), 1, (0, 0), (-1)), (.ixor, 1, (0, 0), 0), (.iand, 1, (0, 0), 0)] (ls' := [.ref 9, .int p1, .int p2]) (st' := [.int ((h4.1 9 4) &&& (p1 ^^^ (-1))), .ref 9]) (h' := h4) (by decide +kernel) rfl (pc' := 49) rfl (J7 ((h4.1 9 4) &&& (p1 ^^^ (-1)))))))))) (fun j2 J3 => s_icmp_ne (M := mX1_setKind) (off := 12) (tgt := 15) (by decide +kernel) (by decide +kernel) (fun _ => s_run (M := mX1_setKind) [(.aload_n 0, 1, (0, 0), 0), (.getfield 37, 3, (1, 3), 0), (.iload_n 1, 1, (0, 0), 0), (.ior, 1, (0, 0), 0), (.goto 11, 3, (23, 0), 0)] (ls' := [.ref 9, .int p1, .int p2]) (st' := [.int ((h.1 9 3) ||| p1), .ref 9]) (h' := h) (by decide +kernel) rfl (pc' := 23) rfl (J3 ((h.1 9 3) ||| p1))) (fun _ => s_run (M := mX1_setKind) [(.aload_n 0, 1, (0, 0), 0), (.getfield 37, 3, (1, 3), 0), (.iload_n 1, 1, (0, 0), 0), (.iconst (-1), 1, (0, 0), (-1)), (.ixor, 1, (0, 0), 0), (.iand, 1, (0, 0), 0)] (ls' := [.ref 9, .int p1, .int p2]) (st' := [.int ((h.1 9 3) &&& (p1 ^^^ (-1))), .ref 9]) (h' := h) (by decide +kernel) rfl (pc' := 23) rfl (J3 ((h.1 9 3) &&& (p1 ^^^ (-1))))))))
theorem ckX1_addPerson_71 : ckV mX1_addPerson mX1_setKind 71 2 243 244 245 38 246 = true := by decide +kernel
set_option maxRecDepth 20000 in
set_option maxHeartbeats 4000000 in
theorem c_X1_addPerson_9 (h : HS) (p1 : Int32) (p2 : Int32) : CSim mX1_addPerson cZH_ [.ref 9, .int p1, .int p2] h (f_X1_addPerson h 9 p1 p2) :=
  csim_of (by decide +kernel) rfl (Nat.le_of_ble_eq_true rfl) (ls := [.ref 9, .int p1, .int p2, .null]) rfl (by
    unfold f_X1_addPerson
    exact s_run (M := mX1_addPerson) [(.aload_n 0, 1, (0, 0), 0), (.getfield 27, 3, (1, 0), 0)] (ls' := [.ref 9, .int p1, .int p2, .null]) (st' := [.int (h.1 9 0)]) (h' := h) (by decide +kernel) rfl (pc' := 4) rfl (s_if_lt (M := mX1_addPerson) (off := 12) (tgt := 16) (by decide +kernel) (by decide +kernel) (fun _ => s_run (M := mX1_addPerson) [(.iconst 0, 1, (0, 0), 0)] (ls' := [.ref 9, .int p1, .int p2, .null]) (st' := [.int 0]) (h' := h) (by decide +kernel) rfl (pc' := 17) rfl (s_retZH (M := mX1_addPerson) (v := false) (by decide +kernel) rfl)) (fun _ => s_run (M := mX1_addPerson) [(.aload_n 0, 1, (0, 0), 0), (.getfield 27, 3, (1, 0), 0), (.bipush 6, 2, (0, 0), 6)] (ls' := [.ref 9, .int p1, .int p2, .null]) (st' := [.int 6, .int (h.1 9 0)]) (h' := h) (by decide +kernel) rfl (pc' := 13) rfl (s_icmp_lt (M := mX1_addPerson) (off := 5) (tgt := 18) (by decide +kernel) (by decide +kernel) (fun _ => s_run (M := mX1_addPerson) [(.iconst 1, 1, (0, 0), 1), (.aload_n 0, 1, (0, 0), 0), (.getfield 27, 3, (1, 0), 0), (.ishl, 1, (0, 0), 0), (.istore_n 3, 1, (0, 0), 0)] (ls' := [.ref 9, .int p1, .int p2, .int (1 <<< ((h.1 9 0) &&& 31))]) (st' := []) (h' := h) (by decide +kernel) rfl (pc' := 25) rfl (s_lt ((1 <<< ((h.1 9 0) &&& 31)) : Int32) (fun v1 => [.ref 9, .int p1, .int p2, .int v1]) (fun _ => []) (fun _ => h) (fun v1 => s_run (M := mX1_addPerson) [(.iload_n 1, 1, (0, 0), 0), (.iconst 1, 1, (0, 0), 1)] (ls' := [.ref 9, .int p1, .int p2, .int v1]) (st' := [.int 1, .int p1]) (h' := h) (by decide +kernel) rfl (pc' := 27) rfl (s_jn (fun (j3 : HS → Option (Bool × HS)) => ∀ (h2 : HS), Sim none mX1_addPerson cZH_ 40 [.ref 9, .null, .int p2, .int v1] [] h2 (j3 h2)) (fun h2 => s_run (M := mX1_addPerson) [(.aload_n 0, 1, (0, 0), 0), (.iload_n 3, 1, (0, 0), 0), (.iload_n 2, 1, (0, 0), 0)] (ls' := [.ref 9, .null, .int p2, .int v1]) (st' := [.int p2, .int v1, .ref 9]) (h' := h2) (by decide +kernel) rfl (pc' := 43) rfl (s_cVV ckX1_addPerson_71 [.int v1, .int p2] 9 (st := []) rfl rfl rfl (by decide) (Nat.le_of_ble_eq_true rfl) (by decide +kernel) (c_X1_setKind_9 _ _ _) (fun h6 => s_run (M := mX1_addPerson) [(.aload_n 0, 1, (0, 0), 0), (.getfield 24, 3, (1, 10), 0), (.aload_n 0, 1, (0, 0), 0), (.getfield 27, 3, (1, 0), 0), (.iconst 0, 1, (0, 0), 0)] (ls' := [.ref 9, .null, .int p2, .int v1]) (st' := [.int 0, .int (h6.1 9 0), .ref 14]) (h' := h6) (by decide +kernel) rfl (pc' := 55) rfl (s_iast (M := mX1_addPerson) (n := 6) (by decide +kernel) (by decide) (fun h7 => s_run (M := mX1_addPerson) [(.aload_n 0, 1, (0, 0), 0), (.dup, 1, (0, 0), 0), (.getfield 27, 3, (1, 0), 0), (.iconst 1, 1, (0, 0), 1), (.iadd, 1, (0, 0), 0), (.putfield 27, 3, (1, 0), 0)] (ls' := [.ref 9, .null, .int p2, .int v1]) (st' := []) (h' := (hset h7 9 0 ((h7.1 9 0) + 1))) (by decide +kernel) rfl (pc' := 66) rfl (s_lt ((hset h7 9 0 ((h7.1 9 0) + 1))) (fun _ => [.ref 9, .null, .int p2, .int v1]) (fun _ => []) (fun h8 => h8) (fun h8 => s_run (M := mX1_addPerson) [(.iconst 1, 1, (0, 0), 1)] (ls' := [.ref 9, .null, .int p2, .int v1]) (st' := [.int 1]) (h' := h8) (by decide +kernel) rfl (pc' := 67) rfl (s_retZH (M := mX1_addPerson) (v := true) (by decide +kernel) rfl)))))))) (fun j3 J4 => s_icmp_ne (M := mX1_addPerson) (off := 13) (tgt := 40) (by decide +kernel) (by decide +kernel) (fun _ => s_run (M := mX1_addPerson) [(.aload_n 0, 1, (0, 0), 0), (.dup, 1, (0, 0), 0), (.getfield 34, 3, (1, 2), 0), (.iload_n 3, 1, (0, 0), 0), (.ior, 1, (0, 0), 0), (.putfield 34, 3, (1, 2), 0)] (ls' := [.ref 9, .int p1, .int p2, .int v1]) (st' := []) (h' := (hset h 9 2 ((h.1 9 2) ||| v1))) (by decide +kernel) rfl (pc' := 40) rfl (s_lt ((hset h 9 2 ((h.1 9 2) ||| v1))) (fun _ => [.ref 9, .int p1, .int p2, .int v1]) (fun _ => []) (fun h9 => h9) (fun h9 => s_wk (ls' := [.ref 9, .null, .int p2, .int v1]) ⟨Or.inr rfl, Or.inl rfl, Or.inr rfl, Or.inr rfl, trivial⟩ (J4 h9)))) (fun _ => s_wk (ls' := [.ref 9, .null, .int p2, .int v1]) ⟨Or.inr rfl, Or.inl rfl, Or.inr rfl, Or.inr rfl, trivial⟩ (J4 h))))))) (fun _ => s_run (M := mX1_addPerson) [(.iconst 0, 1, (0, 0), 0)] (ls' := [.ref 9, .int p1, .int p2, .null]) (st' := [.int 0]) (h' := h) (by decide +kernel) rfl (pc' := 17) rfl (s_retZH (M := mX1_addPerson) (v := false) (by decide +kernel) rfl))))))
set_option maxRecDepth 20000 in
set_option maxHeartbeats 4000000 in
theorem c_X1_isFigure (h : HS) (p0 : Int32) : CSim mX1_isFigure (cZ_ h) [.int p0] h (f_X1_isFigure h p0) :=
  csim_of (by decide +kernel) rfl (Nat.le_of_ble_eq_true rfl) (ls := [.int p0]) rfl (by
    unfold f_X1_isFigure
    exact s_run (M := mX1_isFigure) [(.iload_n 0, 1, (0, 0), 0)] (ls' := [.int p0]) (st' := [.int p0]) (h' := h) (by decide +kernel) rfl (pc' := 1) rfl (s_if_lt (M := mX1_isFigure) (off := 13) (tgt := 14) (by decide +kernel) (by decide +kernel) (fun _ => s_run (M := mX1_isFigure) [(.iconst 0, 1, (0, 0), 0)] (ls' := [.int p0]) (st' := [.int 0]) (h' := h) (by decide +kernel) rfl (pc' := 15) rfl (s_retZ (M := mX1_isFigure) (v := false) (by decide +kernel) rfl)) (fun _ => s_run (M := mX1_isFigure) [(.iload_n 0, 1, (0, 0), 0), (.bipush 9, 2, (0, 0), 9)] (ls' := [.int p0]) (st' := [.int 9, .int p0]) (h' := h) (by decide +kernel) rfl (pc' := 7) rfl (s_icmp_gt (M := mX1_isFigure) (off := 7) (tgt := 14) (by decide +kernel) (by decide +kernel) (fun _ => s_run (M := mX1_isFigure) [(.iconst 0, 1, (0, 0), 0)] (ls' := [.int p0]) (st' := [.int 0]) (h' := h) (by decide +kernel) rfl (pc' := 15) rfl (s_retZ (M := mX1_isFigure) (v := false) (by decide +kernel) rfl)) (fun _ => s_run (M := mX1_isFigure) [(.iconst 1, 1, (0, 0), 1), (.goto 4, 3, (15, 0), 0)] (ls' := [.int p0]) (st' := [.int 1]) (h' := h) (by decide +kernel) rfl (pc' := 15) rfl (s_retZ (M := mX1_isFigure) (v := true) (by decide +kernel) rfl))))))
set_option maxRecDepth 20000 in
set_option maxHeartbeats 4000000 in
theorem c_X1_addMatter_9 (h : HS) (p1 : Int32) (p2 : Int32) : CSim mX1_addMatter cZH_ [.ref 9, .int p1, .int p2] h (f_X1_addMatter h 9 p1 p2) :=
  csim_of (by decide +kernel) rfl (Nat.le_of_ble_eq_true rfl) (ls := [.ref 9, .int p1, .int p2]) rfl (by
    unfold f_X1_addMatter
    exact s_run (M := mX1_addMatter) [(.aload_n 0, 1, (0, 0), 0), (.getfield 31, 3, (1, 1), 0)] (ls' := [.ref 9, .int p1, .int p2]) (st' := [.int (h.1 9 1)]) (h' := h) (by decide +kernel) rfl (pc' := 4) rfl (s_if_lt (M := mX1_addMatter) (off := 11) (tgt := 15) (by decide +kernel) (by decide +kernel) (fun _ => s_run (M := mX1_addMatter) [(.iconst 0, 1, (0, 0), 0)] (ls' := [.ref 9, .int p1, .int p2]) (st' := [.int 0]) (h' := h) (by decide +kernel) rfl (pc' := 16) rfl (s_retZH (M := mX1_addMatter) (v := false) (by decide +kernel) rfl)) (fun _ => s_run (M := mX1_addMatter) [(.aload_n 0, 1, (0, 0), 0), (.getfield 31, 3, (1, 1), 0), (.iconst 4, 1, (0, 0), 4)] (ls' := [.ref 9, .int p1, .int p2]) (st' := [.int 4, .int (h.1 9 1)]) (h' := h) (by decide +kernel) rfl (pc' := 12) rfl (s_icmp_lt (M := mX1_addMatter) (off := 5) (tgt := 17) (by decide +kernel) (by decide +kernel) (fun _ => s_run (M := mX1_addMatter) [(.aload_n 0, 1, (0, 0), 0), (.getfield 9, 3, (1, 6), 0), (.aload_n 0, 1, (0, 0), 0), (.getfield 31, 3, (1, 1), 0), (.iconst 0, 1, (0, 0), 0)] (ls' := [.ref 9, .int p1, .int p2]) (st' := [.int 0, .int (h.1 9 1), .ref 10]) (h' := h) (by decide +kernel) rfl (pc' := 26) rfl (s_iast (M := mX1_addMatter) (n := 4) (by decide +kernel) (by decide) (fun h1 => s_run (M := mX1_addMatter) [(.aload_n 0, 1, (0, 0), 0), (.getfield 15, 3, (1, 7), 0), (.aload_n 0, 1, (0, 0), 0), (.getfield 31, 3, (1, 1), 0), (.iload_n 1, 1, (0, 0), 0)] (ls' := [.ref 9, .int p1, .int p2]) (st' := [.int p1, .int (h1.1 9 1), .ref 11]) (h' := h1) (by decide +kernel) rfl (pc' := 36) rfl (s_iast (M := mX1_addMatter) (n := 4) (by decide +kernel) (by decide) (fun h2 => s_run (M := mX1_addMatter) [(.aload_n 0, 1, (0, 0), 0), (.getfield 18, 3, (1, 8), 0), (.aload_n 0, 1, (0, 0), 0), (.getfield 31, 3, (1, 1), 0), (.iload_n 2, 1, (0, 0), 0)] (ls' := [.ref 9, .int p1, .int p2]) (st' := [.int p2, .int (h2.1 9 1), .ref 12]) (h' := h2) (by decide +kernel) rfl (pc' := 46) rfl (s_iast (M := mX1_addMatter) (n := 4) (by decide +kernel) (by decide) (fun h3 => s_run (M := mX1_addMatter) [(.aload_n 0, 1, (0, 0), 0), (.getfield 21, 3, (1, 9), 0), (.aload_n 0, 1, (0, 0), 0), (.getfield 31, 3, (1, 1), 0), (.bipush (-9), 2, (0, 0), (-9))] (ls' := [.ref 9, .int p1, .int p2]) (st' := [.int (-9), .int (h3.1 9 1), .ref 13]) (h' := h3) (by decide +kernel) rfl (pc' := 57) rfl (s_iast (M := mX1_addMatter) (n := 4) (by decide +kernel) (by decide) (fun h4 => s_run (M := mX1_addMatter) [(.aload_n 0, 1, (0, 0), 0), (.dup, 1, (0, 0), 0), (.getfield 31, 3, (1, 1), 0), (.iconst 1, 1, (0, 0), 1), (.iadd, 1, (0, 0), 0), (.putfield 31, 3, (1, 1), 0)] (ls' := [.ref 9, .int p1, .int p2]) (st' := []) (h' := (hset h4 9 1 ((h4.1 9 1) + 1))) (by decide +kernel) rfl (pc' := 68) rfl (s_lt ((hset h4 9 1 ((h4.1 9 1) + 1))) (fun _ => [.ref 9, .int p1, .int p2]) (fun _ => []) (fun h5 => h5) (fun h5 => s_run (M := mX1_addMatter) [(.iconst 1, 1, (0, 0), 1)] (ls' := [.ref 9, .int p1, .int p2]) (st' := [.int 1]) (h' := h5) (by decide +kernel) rfl (pc' := 69) rfl (s_retZH (M := mX1_addMatter) (v := true) (by decide +kernel) rfl)))))))))))) (fun _ => s_run (M := mX1_addMatter) [(.iconst 0, 1, (0, 0), 0)] (ls' := [.ref 9, .int p1, .int p2]) (st' := [.int 0]) (h' := h) (by decide +kernel) rfl (pc' := 16) rfl (s_retZH (M := mX1_addMatter) (v := false) (by decide +kernel) rfl))))))
theorem ckX1_takesPart_50 : ckS mX1_takesPart mX1_isFigure 50 1 232 233 38 234 = true := by decide +kernel
theorem ckX1_takesPart_61 : ckV mX1_takesPart mX1_addMatter 61 2 247 248 249 38 250 = true := by decide +kernel
theorem ckX1_takesPart_57 : ckV mX1_takesPart mX1_addPerson 57 2 239 240 241 38 242 = true := by decide +kernel
theorem ckX1_takesPart_64 : ckV mX1_takesPart mX1_canSee 64 2 216 217 218 38 219 = true := by decide +kernel
theorem ckX1_takesPart_67 : ckV mX1_takesPart mX1_letSee 67 2 251 252 253 38 254 = true := by decide +kernel
set_option maxRecDepth 20000 in
set_option maxHeartbeats 4000000 in
theorem c_X1_takesPart_9 (h : HS) (p1 : Int32) (p2 : Int32) (p3 : Int32) : CSim mX1_takesPart cZH_ [.ref 9, .int p1, .int p2, .int p3] h (f_X1_takesPart h 9 p1 p2 p3) :=
  csim_of (by decide +kernel) rfl (Nat.le_of_ble_eq_true rfl) (ls := [.ref 9, .int p1, .int p2, .int p3]) rfl (by
    unfold f_X1_takesPart
    exact s_run (M := mX1_takesPart) [(.iload_n 1, 1, (0, 0), 0)] (ls' := [.ref 9, .int p1, .int p2, .int p3]) (st' := [.int p1]) (h' := h) (by decide +kernel) rfl (pc' := 1) rfl (s_ite (fun z0 => s_look (M := mX1_takesPart) (dflt := 100) (ps := #[(77, 59), (80, 35), (83, 81)]) (len := 35) (off := 59) (tgt := 60) (by decide +kernel) (by decide +kernel) (by rw [z0]; decide +kernel) (by decide +kernel) (s_run (M := mX1_takesPart) [(.iload_n 3, 1, (0, 0), 0)] (ls' := [.ref 9, .int p1, .int p2, .int p3]) (st' := [.int p3]) (h' := h) (by decide +kernel) rfl (pc' := 61) rfl (s_cSZ ckX1_takesPart_50 [.int p3] (st := []) rfl rfl (Nat.le_of_ble_eq_true rfl) (by decide +kernel) (c_X1_isFigure _ _) (fun r6 => s_bif_eq (M := mX1_takesPart) (off := 16) (tgt := 80) (by decide +kernel) (by decide +kernel) (fun _ => s_run (M := mX1_takesPart) [(.aload_n 0, 1, (0, 0), 0), (.iload_n 2, 1, (0, 0), 0), (.iload_n 3, 1, (0, 0), 0)] (ls' := [.ref 9, .int p1, .int p2, .int p3]) (st' := [.int p3, .int p2, .ref 9]) (h' := h) (by decide +kernel) rfl (pc' := 70) rfl (s_cVZH ckX1_takesPart_61 [.int p2, .int p3] 9 (st := []) rfl rfl rfl (by decide) (Nat.le_of_ble_eq_true rfl) (by decide +kernel) (c_X1_addMatter_9 _ _ _) (fun r7 h8 => s_bif_eq (M := mX1_takesPart) (off := 7) (tgt := 80) (by decide +kernel) (by decide +kernel) (fun _ => s_run (M := mX1_takesPart) [(.iconst 1, 1, (0, 0), 1), (.goto 4, 3, (81, 0), 0)] (ls' := [.ref 9, .int p1, .int p2, .int p3]) (st' := [.int 1]) (h' := h8) (by decide +kernel) rfl (pc' := 81) rfl (s_retZH (M := mX1_takesPart) (v := true) (by decide +kernel) rfl)) (fun _ => s_run (M := mX1_takesPart) [(.iconst 0, 1, (0, 0), 0)] (ls' := [.ref 9, .int p1, .int p2, .int p3]) (st' := [.int 0]) (h' := h8) (by decide +kernel) rfl (pc' := 81) rfl (s_retZH (M := mX1_takesPart) (v := false) (by decide +kernel) rfl))))) (fun _ => s_run (M := mX1_takesPart) [(.iconst 0, 1, (0, 0), 0)] (ls' := [.ref 9, .int p1, .int p2, .int p3]) (st' := [.int 0]) (h' := h) (by decide +kernel) rfl (pc' := 81) rfl (s_retZH (M := mX1_takesPart) (v := false) (by decide +kernel) rfl)))))) (fun z0 => s_ite (fun z1 => s_look (M := mX1_takesPart) (dflt := 100) (ps := #[(77, 59), (80, 35), (83, 81)]) (len := 35) (off := 35) (tgt := 36) (by decide +kernel) (by decide +kernel) (by rw [z1]; decide +kernel) (by decide +kernel) (s_run (M := mX1_takesPart) [(.iload_n 3, 1, (0, 0), 0)] (ls' := [.ref 9, .int p1, .int p2, .int p3]) (st' := [.int p3]) (h' := h) (by decide +kernel) rfl (pc' := 37) rfl (s_if_lt (M := mX1_takesPart) (off := 21) (tgt := 58) (by decide +kernel) (by decide +kernel) (fun _ => s_run (M := mX1_takesPart) [(.iconst 0, 1, (0, 0), 0)] (ls' := [.ref 9, .int p1, .int p2, .int p3]) (st' := [.int 0]) (h' := h) (by decide +kernel) rfl (pc' := 59) rfl (s_retZH (M := mX1_takesPart) (v := false) (by decide +kernel) rfl)) (fun _ => s_run (M := mX1_takesPart) [(.iload_n 3, 1, (0, 0), 0), (.iconst 3, 1, (0, 0), 3)] (ls' := [.ref 9, .int p1, .int p2, .int p3]) (st' := [.int 3, .int p3]) (h' := h) (by decide +kernel) rfl (pc' := 42) rfl (s_icmp_gt (M := mX1_takesPart) (off := 16) (tgt := 58) (by decide +kernel) (by decide +kernel) (fun _ => s_run (M := mX1_takesPart) [(.iconst 0, 1, (0, 0), 0)] (ls' := [.ref 9, .int p1, .int p2, .int p3]) (st' := [.int 0]) (h' := h) (by decide +kernel) rfl (pc' := 59) rfl (s_retZH (M := mX1_takesPart) (v := false) (by decide +kernel) rfl)) (fun _ => s_run (M := mX1_takesPart) [(.aload_n 0, 1, (0, 0), 0), (.iload_n 2, 1, (0, 0), 0), (.iload_n 3, 1, (0, 0), 0)] (ls' := [.ref 9, .int p1, .int p2, .int p3]) (st' := [.int p3, .int p2, .ref 9]) (h' := h) (by decide +kernel) rfl (pc' := 48) rfl (s_cVZH ckX1_takesPart_57 [.int p2, .int p3] 9 (st := []) rfl rfl rfl (by decide) (Nat.le_of_ble_eq_true rfl) (by decide +kernel) (c_X1_addPerson_9 _ _ _) (fun r4 h5 => s_bif_eq (M := mX1_takesPart) (off := 7) (tgt := 58) (by decide +kernel) (by decide +kernel) (fun _ => s_run (M := mX1_takesPart) [(.iconst 1, 1, (0, 0), 1), (.goto 4, 3, (59, 0), 0)] (ls' := [.ref 9, .int p1, .int p2, .int p3]) (st' := [.int 1]) (h' := h5) (by decide +kernel) rfl (pc' := 59) rfl (s_retZH (M := mX1_takesPart) (v := true) (by decide +kernel) rfl)) (fun _ => s_run (M := mX1_takesPart) [(.iconst 0, 1, (0, 0), 0)] (ls' := [.ref 9, .int p1, .int p2, .int p3]) (st' := [.int 0]) (h' := h5) (by decide +kernel) rfl (pc' := 59) rfl (s_retZH (M := mX1_takesPart) (v := false) (by decide +kernel) rfl)))))))))) (fun z1 => s_ite (fun z2 => s_look (M := mX1_takesPart) (dflt := 100) (ps := #[(77, 59), (80, 35), (83, 81)]) (len := 35) (off := 81) (tgt := 82) (by decide +kernel) (by decide +kernel) (by rw [z2]; decide +kernel) (by decide +kernel) (s_run (M := mX1_takesPart) [(.aload_n 0, 1, (0, 0), 0), (.iload_n 2, 1, (0, 0), 0), (.iload_n 3, 1, (0, 0), 0)] (ls' := [.ref 9, .int p1, .int p2, .int p3]) (st' := [.int p3, .int p2, .ref 9]) (h' := h) (by decide +kernel) rfl (pc' := 85) rfl (s_cVZ ckX1_takesPart_64 [.int p2, .int p3] 9 (st := []) rfl rfl rfl (by decide) (Nat.le_of_ble_eq_true rfl) (by decide +kernel) (c_X1_canSee_9 _ _ _) (fun r1 => s_bif_ne (M := mX1_takesPart) (off := 5) (tgt := 93) (by decide +kernel) (by decide +kernel) (fun _ => s_run (M := mX1_takesPart) [(.aload_n 0, 1, (0, 0), 0), (.iload_n 2, 1, (0, 0), 0), (.iload_n 3, 1, (0, 0), 0)] (ls' := [.ref 9, .int p1, .int p2, .int p3]) (st' := [.int p3, .int p2, .ref 9]) (h' := h) (by decide +kernel) rfl (pc' := 96) rfl (s_cVV ckX1_takesPart_67 [.int p2, .int p3] 9 (st := []) rfl rfl rfl (by decide) (Nat.le_of_ble_eq_true rfl) (by decide +kernel) (c_X1_letSee_9 _ _ _) (fun h3 => s_run (M := mX1_takesPart) [(.iconst 1, 1, (0, 0), 1)] (ls' := [.ref 9, .int p1, .int p2, .int p3]) (st' := [.int 1]) (h' := h3) (by decide +kernel) rfl (pc' := 100) rfl (s_retZH (M := mX1_takesPart) (v := true) (by decide +kernel) rfl)))) (fun _ => s_run (M := mX1_takesPart) [(.iconst 0, 1, (0, 0), 0)] (ls' := [.ref 9, .int p1, .int p2, .int p3]) (st' := [.int 0]) (h' := h) (by decide +kernel) rfl (pc' := 92) rfl (s_retZH (M := mX1_takesPart) (v := false) (by decide +kernel) rfl)))))) (fun z2 => s_look (M := mX1_takesPart) (dflt := 100) (ps := #[(77, 59), (80, 35), (83, 81)]) (len := 35) (off := 100) (tgt := 101) (by decide +kernel) (by decide +kernel) (by show Op.lookupswitch.offset [(77, 59), (80, 35), (83, 81)] _ _ = _; rw [lv_osw z0 (by decide +kernel), lv_osw z1 (by decide +kernel), lv_osw z2 (by decide +kernel)]; rfl) (by decide +kernel) (s_run (M := mX1_takesPart) [(.iconst 0, 1, (0, 0), 0)] (ls' := [.ref 9, .int p1, .int p2, .int p3]) (st' := [.int 0]) (h' := h) (by decide +kernel) rfl (pc' := 102) rfl (s_retZH (M := mX1_takesPart) (v := false) (by decide +kernel) rfl)))))))
theorem ckX1_canSeeMore_64 : ckV mX1_canSeeMore mX1_canSee 64 2 216 217 218 38 219 = true := by decide +kernel
set_option maxRecDepth 20000 in
set_option maxHeartbeats 4000000 in
theorem c_X1_canSeeMore_9 (h : HS) (p1 : Int32) : CSim mX1_canSeeMore (cZ_ h) [.ref 9, .int p1] h (f_X1_canSeeMore h 9 p1) :=
  csim_of (by decide +kernel) rfl (Nat.le_of_ble_eq_true rfl) (ls := [.ref 9, .int p1, .null]) rfl (by
    unfold f_X1_canSeeMore
    exact s_run (M := mX1_canSeeMore) [(.iconst 0, 1, (0, 0), 0), (.istore_n 2, 1, (0, 0), 0)] (ls' := [.ref 9, .int p1, .int 0]) (st' := []) (h' := h) (by decide +kernel) rfl (pc' := 2) rfl (s_loop1 (fun (i1 : Int32) => [.ref 9, .int p1, .int i1]) (fun (i1 : Int32) => h) (fun rec2 H3 (i1 : Int32) => s_run (M := mX1_canSeeMore) [(.iload_n 2, 1, (0, 0), 0), (.aload_n 0, 1, (0, 0), 0), (.getfield 31, 3, (1, 1), 0)] (ls' := [.ref 9, .int p1, .int i1]) (st' := [.int (h.1 9 1), .int i1]) (h' := h) (by decide +kernel) rfl (pc' := 7) rfl (s_icmp_ge (M := mX1_canSeeMore) (off := 20) (tgt := 27) (by decide +kernel) (by decide +kernel) (fun _ => s_run (M := mX1_canSeeMore) [(.aload_n 0, 1, (0, 0), 0), (.iload_n 1, 1, (0, 0), 0), (.iload_n 2, 1, (0, 0), 0)] (ls' := [.ref 9, .int p1, .int i1]) (st' := [.int i1, .int p1, .ref 9]) (h' := h) (by decide +kernel) rfl (pc' := 13) rfl (s_cVZ ckX1_canSeeMore_64 [.int p1, .int i1] 9 (st := []) rfl rfl rfl (by decide) (Nat.le_of_ble_eq_true rfl) (by decide +kernel) (c_X1_canSee_9 _ _ _) (fun r4 => s_bif_eq (M := mX1_canSeeMore) (off := 5) (tgt := 21) (by decide +kernel) (by decide +kernel) (fun _ => s_run (M := mX1_canSeeMore) [(.iconst 1, 1, (0, 0), 1)] (ls' := [.ref 9, .int p1, .int i1]) (st' := [.int 1]) (h' := h) (by decide +kernel) rfl (pc' := 20) rfl (s_retZ (M := mX1_canSeeMore) (v := true) (by decide +kernel) rfl)) (fun _ => s_run (M := mX1_canSeeMore) [(.iinc 2 1, 3, (0, 0), 1), (.goto (-22), 3, (2, 0), 0)] (ls' := [.ref 9, .int p1, .int (i1 + 1)]) (st' := []) (h' := h) (by decide +kernel) rfl (pc' := 2) rfl (H3 (i1 + 1)))))) (fun _ => s_run (M := mX1_canSeeMore) [(.iconst 0, 1, (0, 0), 0)] (ls' := [.ref 9, .int p1, .int i1]) (st' := [.int 0]) (h' := h) (by decide +kernel) rfl (pc' := 28) rfl (s_retZ (M := mX1_canSeeMore) (v := false) (by decide +kernel) rfl)))) 400 0))
theorem ckX1_canGoOn_50 : ckS mX1_canGoOn mX1_isFigure 50 1 232 233 38 234 = true := by decide +kernel
theorem ckX1_canGoOn_54 : ckV mX1_canGoOn mX1_canSeeMore 54 1 212 213 214 38 215 = true := by decide +kernel
set_option maxRecDepth 20000 in
set_option maxHeartbeats 4000000 in
theorem c_X1_canGoOn_9 (h : HS) (p1 : Int32) (p2 : Int32) : CSim mX1_canGoOn (cZ_ h) [.ref 9, .int p1, .int p2] h (f_X1_canGoOn h 9 p1 p2) :=
  csim_of (by decide +kernel) rfl (Nat.le_of_ble_eq_true rfl) (ls := [.ref 9, .int p1, .int p2]) rfl (by
    unfold f_X1_canGoOn
    exact s_run (M := mX1_canGoOn) [(.iload_n 1, 1, (0, 0), 0)] (ls' := [.ref 9, .int p1, .int p2]) (st' := [.int p1]) (h' := h) (by decide +kernel) rfl (pc' := 1) rfl (s_ite (fun z0 => s_look (M := mX1_canGoOn) (dflt := 61) (ps := #[(77, 50), (80, 35), (83, 55)]) (len := 35) (off := 50) (tgt := 51) (by decide +kernel) (by decide +kernel) (by rw [z0]; decide +kernel) (by decide +kernel) (s_run (M := mX1_canGoOn) [(.iload_n 2, 1, (0, 0), 0)] (ls' := [.ref 9, .int p1, .int p2]) (st' := [.int p2]) (h' := h) (by decide +kernel) rfl (pc' := 52) rfl (s_cSZ ckX1_canGoOn_50 [.int p2] (st := []) rfl rfl (Nat.le_of_ble_eq_true rfl) (by decide +kernel) (c_X1_isFigure _ _) (fun r2 => s_retZ (M := mX1_canGoOn) (v := r2) (by decide +kernel) rfl)))) (fun z0 => s_ite (fun z1 => s_look (M := mX1_canGoOn) (dflt := 61) (ps := #[(77, 50), (80, 35), (83, 55)]) (len := 35) (off := 35) (tgt := 36) (by decide +kernel) (by decide +kernel) (by rw [z1]; decide +kernel) (by decide +kernel) (s_run (M := mX1_canGoOn) [(.iload_n 2, 1, (0, 0), 0)] (ls' := [.ref 9, .int p1, .int p2]) (st' := [.int p2]) (h' := h) (by decide +kernel) rfl (pc' := 37) rfl (s_if_eq (M := mX1_canGoOn) (off := 8) (tgt := 45) (by decide +kernel) (by decide +kernel) (fun _ => s_run (M := mX1_canGoOn) [(.iconst 1, 1, (0, 0), 1), (.goto 4, 3, (50, 0), 0)] (ls' := [.ref 9, .int p1, .int p2]) (st' := [.int 1]) (h' := h) (by decide +kernel) rfl (pc' := 50) rfl (s_retZ (M := mX1_canGoOn) (v := true) (by decide +kernel) rfl)) (fun _ => s_run (M := mX1_canGoOn) [(.iload_n 2, 1, (0, 0), 0), (.iconst 1, 1, (0, 0), 1)] (ls' := [.ref 9, .int p1, .int p2]) (st' := [.int 1, .int p2]) (h' := h) (by decide +kernel) rfl (pc' := 42) rfl (s_icmp_ne (M := mX1_canGoOn) (off := 7) (tgt := 49) (by decide +kernel) (by decide +kernel) (fun _ => s_run (M := mX1_canGoOn) [(.iconst 1, 1, (0, 0), 1), (.goto 4, 3, (50, 0), 0)] (ls' := [.ref 9, .int p1, .int p2]) (st' := [.int 1]) (h' := h) (by decide +kernel) rfl (pc' := 50) rfl (s_retZ (M := mX1_canGoOn) (v := true) (by decide +kernel) rfl)) (fun _ => s_run (M := mX1_canGoOn) [(.iconst 0, 1, (0, 0), 0)] (ls' := [.ref 9, .int p1, .int p2]) (st' := [.int 0]) (h' := h) (by decide +kernel) rfl (pc' := 50) rfl (s_retZ (M := mX1_canGoOn) (v := false) (by decide +kernel) rfl))))))) (fun z1 => s_ite (fun z2 => s_look (M := mX1_canGoOn) (dflt := 61) (ps := #[(77, 50), (80, 35), (83, 55)]) (len := 35) (off := 55) (tgt := 56) (by decide +kernel) (by decide +kernel) (by rw [z2]; decide +kernel) (by decide +kernel) (s_run (M := mX1_canGoOn) [(.aload_n 0, 1, (0, 0), 0), (.iload_n 2, 1, (0, 0), 0)] (ls' := [.ref 9, .int p1, .int p2]) (st' := [.int p2, .ref 9]) (h' := h) (by decide +kernel) rfl (pc' := 58) rfl (s_cVZ ckX1_canGoOn_54 [.int p2] 9 (st := []) rfl rfl rfl (by decide) (Nat.le_of_ble_eq_true rfl) (by decide +kernel) (c_X1_canSeeMore_9 _ _) (fun r1 => s_retZ (M := mX1_canGoOn) (v := r1) (by decide +kernel) rfl)))) (fun z2 => s_look (M := mX1_canGoOn) (dflt := 61) (ps := #[(77, 50), (80, 35), (83, 55)]) (len := 35) (off := 61) (tgt := 62) (by decide +kernel) (by decide +kernel) (by show Op.lookupswitch.offset [(77, 50), (80, 35), (83, 55)] _ _ = _; rw [lv_osw z0 (by decide +kernel), lv_osw z1 (by decide +kernel), lv_osw z2 (by decide +kernel)]; rfl) (by decide +kernel) (s_run (M := mX1_canGoOn) [(.iconst 0, 1, (0, 0), 0)] (ls' := [.ref 9, .int p1, .int p2]) (st' := [.int 0]) (h' := h) (by decide +kernel) rfl (pc' := 63) rfl (s_retZ (M := mX1_canGoOn) (v := false) (by decide +kernel) rfl)))))))
theorem ckX1_canAnybodySee_54 : ckV mX1_canAnybodySee mX1_canSeeMore 54 1 212 213 214 38 215 = true := by decide +kernel
set_option maxRecDepth 20000 in
set_option maxHeartbeats 4000000 in
theorem c_X1_canAnybodySee_9 (h : HS) : CSim mX1_canAnybodySee (cZ_ h) [.ref 9] h (f_X1_canAnybodySee h 9) :=
  csim_of (by decide +kernel) rfl (Nat.le_of_ble_eq_true rfl) (ls := [.ref 9, .null]) rfl (by
    unfold f_X1_canAnybodySee
    exact s_run (M := mX1_canAnybodySee) [(.iconst 0, 1, (0, 0), 0), (.istore_n 1, 1, (0, 0), 0)] (ls' := [.ref 9, .int 0]) (st' := []) (h' := h) (by decide +kernel) rfl (pc' := 2) rfl (s_loop1 (fun (i1 : Int32) => [.ref 9, .int i1]) (fun (i1 : Int32) => h) (fun rec2 H3 (i1 : Int32) => s_run (M := mX1_canAnybodySee) [(.iload_n 1, 1, (0, 0), 0), (.aload_n 0, 1, (0, 0), 0), (.getfield 27, 3, (1, 0), 0)] (ls' := [.ref 9, .int i1]) (st' := [.int (h.1 9 0), .int i1]) (h' := h) (by decide +kernel) rfl (pc' := 7) rfl (s_icmp_ge (M := mX1_canAnybodySee) (off := 19) (tgt := 26) (by decide +kernel) (by decide +kernel) (fun _ => s_run (M := mX1_canAnybodySee) [(.aload_n 0, 1, (0, 0), 0), (.iload_n 1, 1, (0, 0), 0)] (ls' := [.ref 9, .int i1]) (st' := [.int i1, .ref 9]) (h' := h) (by decide +kernel) rfl (pc' := 12) rfl (s_cVZ ckX1_canAnybodySee_54 [.int i1] 9 (st := []) rfl rfl rfl (by decide) (Nat.le_of_ble_eq_true rfl) (by decide +kernel) (c_X1_canSeeMore_9 _ _) (fun r4 => s_bif_eq (M := mX1_canAnybodySee) (off := 5) (tgt := 20) (by decide +kernel) (by decide +kernel) (fun _ => s_run (M := mX1_canAnybodySee) [(.iconst 1, 1, (0, 0), 1)] (ls' := [.ref 9, .int i1]) (st' := [.int 1]) (h' := h) (by decide +kernel) rfl (pc' := 19) rfl (s_retZ (M := mX1_canAnybodySee) (v := true) (by decide +kernel) rfl)) (fun _ => s_run (M := mX1_canAnybodySee) [(.iinc 1 1, 3, (0, 0), 1), (.goto (-21), 3, (2, 0), 0)] (ls' := [.ref 9, .int (i1 + 1)]) (st' := []) (h' := h) (by decide +kernel) rfl (pc' := 2) rfl (H3 (i1 + 1)))))) (fun _ => s_run (M := mX1_canAnybodySee) [(.iconst 0, 1, (0, 0), 0)] (ls' := [.ref 9, .int i1]) (st' := [.int 0]) (h' := h) (by decide +kernel) rfl (pc' := 27) rfl (s_retZ (M := mX1_canAnybodySee) (v := false) (by decide +kernel) rfl)))) 400 0))
theorem ckX1_canBegin_46 : ckV mX1_canBegin mX1_canAnybodySee 46 0 208 209 210 38 211 = true := by decide +kernel
set_option maxRecDepth 20000 in
set_option maxHeartbeats 4000000 in
theorem c_X1_canBegin_9 (h : HS) (p1 : Int32) : CSim mX1_canBegin (cZ_ h) [.ref 9, .int p1] h (f_X1_canBegin h 9 p1) :=
  csim_of (by decide +kernel) rfl (Nat.le_of_ble_eq_true rfl) (ls := [.ref 9, .int p1]) rfl (by
    unfold f_X1_canBegin
    exact s_run (M := mX1_canBegin) [(.iload_n 1, 1, (0, 0), 0)] (ls' := [.ref 9, .int p1]) (st' := [.int p1]) (h' := h) (by decide +kernel) rfl (pc' := 1) rfl (s_ite (fun z0 => s_look (M := mX1_canBegin) (dflt := 69) (ps := #[(77, 50), (80, 35), (83, 64)]) (len := 35) (off := 50) (tgt := 51) (by decide +kernel) (by decide +kernel) (by rw [z0]; decide +kernel) (by decide +kernel) (s_run (M := mX1_canBegin) [(.aload_n 0, 1, (0, 0), 0), (.getfield 31, 3, (1, 1), 0), (.iconst 4, 1, (0, 0), 4)] (ls' := [.ref 9, .int p1]) (st' := [.int 4, .int (h.1 9 1)]) (h' := h) (by decide +kernel) rfl (pc' := 56) rfl (s_icmp_ge (M := mX1_canBegin) (off := 7) (tgt := 63) (by decide +kernel) (by decide +kernel) (fun _ => s_run (M := mX1_canBegin) [(.iconst 1, 1, (0, 0), 1), (.goto 4, 3, (64, 0), 0)] (ls' := [.ref 9, .int p1]) (st' := [.int 1]) (h' := h) (by decide +kernel) rfl (pc' := 64) rfl (s_retZ (M := mX1_canBegin) (v := true) (by decide +kernel) rfl)) (fun _ => s_run (M := mX1_canBegin) [(.iconst 0, 1, (0, 0), 0)] (ls' := [.ref 9, .int p1]) (st' := [.int 0]) (h' := h) (by decide +kernel) rfl (pc' := 64) rfl (s_retZ (M := mX1_canBegin) (v := false) (by decide +kernel) rfl))))) (fun z0 => s_ite (fun z1 => s_look (M := mX1_canBegin) (dflt := 69) (ps := #[(77, 50), (80, 35), (83, 64)]) (len := 35) (off := 35) (tgt := 36) (by decide +kernel) (by decide +kernel) (by rw [z1]; decide +kernel) (by decide +kernel) (s_run (M := mX1_canBegin) [(.aload_n 0, 1, (0, 0), 0), (.getfield 27, 3, (1, 0), 0), (.bipush 6, 2, (0, 0), 6)] (ls' := [.ref 9, .int p1]) (st' := [.int 6, .int (h.1 9 0)]) (h' := h) (by decide +kernel) rfl (pc' := 42) rfl (s_icmp_ge (M := mX1_canBegin) (off := 7) (tgt := 49) (by decide +kernel) (by decide +kernel) (fun _ => s_run (M := mX1_canBegin) [(.iconst 1, 1, (0, 0), 1), (.goto 4, 3, (50, 0), 0)] (ls' := [.ref 9, .int p1]) (st' := [.int 1]) (h' := h) (by decide +kernel) rfl (pc' := 50) rfl (s_retZ (M := mX1_canBegin) (v := true) (by decide +kernel) rfl)) (fun _ => s_run (M := mX1_canBegin) [(.iconst 0, 1, (0, 0), 0)] (ls' := [.ref 9, .int p1]) (st' := [.int 0]) (h' := h) (by decide +kernel) rfl (pc' := 50) rfl (s_retZ (M := mX1_canBegin) (v := false) (by decide +kernel) rfl))))) (fun z1 => s_ite (fun z2 => s_look (M := mX1_canBegin) (dflt := 69) (ps := #[(77, 50), (80, 35), (83, 64)]) (len := 35) (off := 64) (tgt := 65) (by decide +kernel) (by decide +kernel) (by rw [z2]; decide +kernel) (by decide +kernel) (s_run (M := mX1_canBegin) [(.aload_n 0, 1, (0, 0), 0)] (ls' := [.ref 9, .int p1]) (st' := [.ref 9]) (h' := h) (by decide +kernel) rfl (pc' := 66) rfl (s_cVZ ckX1_canBegin_46 [] 9 (st := []) rfl rfl rfl (by decide) (Nat.le_of_ble_eq_true rfl) (by decide +kernel) (c_X1_canAnybodySee_9 _) (fun r1 => s_retZ (M := mX1_canBegin) (v := r1) (by decide +kernel) rfl)))) (fun z2 => s_look (M := mX1_canBegin) (dflt := 69) (ps := #[(77, 50), (80, 35), (83, 64)]) (len := 35) (off := 69) (tgt := 70) (by decide +kernel) (by decide +kernel) (by show Op.lookupswitch.offset [(77, 50), (80, 35), (83, 64)] _ _ = _; rw [lv_osw z0 (by decide +kernel), lv_osw z1 (by decide +kernel), lv_osw z2 (by decide +kernel)]; rfl) (by decide +kernel) (s_run (M := mX1_canBegin) [(.iconst 0, 1, (0, 0), 0)] (ls' := [.ref 9, .int p1]) (st' := [.int 0]) (h' := h) (by decide +kernel) rfl (pc' := 71) rfl (s_retZ (M := mX1_canBegin) (v := false) (by decide +kernel) rfl)))))))
set_option maxRecDepth 20000 in
set_option maxHeartbeats 4000000 in
theorem c_X1_become_3_9 (h : HS) : CSim mX1_become cV_ [.ref 3, .ref 9] h (f_X1_become h 3 9) :=
  csim_of (by decide +kernel) rfl (Nat.le_of_ble_eq_true rfl) (ls := [.ref 3, .ref 9, .null]) rfl (by
    unfold f_X1_become
    exact s_run (M := mX1_become) [(.aload_n 0, 1, (0, 0), 0), (.aload_n 1, 1, (0, 0), 0), (.getfield 27, 3, (1, 0), 0), (.putfield 27, 3, (1, 0), 0)] (ls' := [.ref 3, .ref 9, .null]) (st' := []) (h' := (hset h 3 0 (h.1 9 0))) (by decide +kernel) rfl (pc' := 8) rfl (s_lt ((hset h 3 0 (h.1 9 0))) (fun _ => [.ref 3, .ref 9, .null]) (fun _ => []) (fun h1 => h1) (fun h1 => s_run (M := mX1_become) [(.aload_n 0, 1, (0, 0), 0), (.aload_n 1, 1, (0, 0), 0), (.getfield 31, 3, (1, 1), 0), (.putfield 31, 3, (1, 1), 0)] (ls' := [.ref 3, .ref 9, .null]) (st' := []) (h' := (hset h1 3 1 (h1.1 9 1))) (by decide +kernel) rfl (pc' := 16) rfl (s_lt ((hset h1 3 1 (h1.1 9 1))) (fun _ => [.ref 3, .ref 9, .null]) (fun _ => []) (fun h2 => h2) (fun h2 => s_run (M := mX1_become) [(.aload_n 0, 1, (0, 0), 0), (.aload_n 1, 1, (0, 0), 0), (.getfield 34, 3, (1, 2), 0), (.putfield 34, 3, (1, 2), 0)] (ls' := [.ref 3, .ref 9, .null]) (st' := []) (h' := (hset h2 3 2 (h2.1 9 2))) (by decide +kernel) rfl (pc' := 24) rfl (s_lt ((hset h2 3 2 (h2.1 9 2))) (fun _ => [.ref 3, .ref 9, .null]) (fun _ => []) (fun h3 => h3) (fun h3 => s_run (M := mX1_become) [(.aload_n 0, 1, (0, 0), 0), (.aload_n 1, 1, (0, 0), 0), (.getfield 37, 3, (1, 3), 0), (.putfield 37, 3, (1, 3), 0)] (ls' := [.ref 3, .ref 9, .null]) (st' := []) (h' := (hset h3 3 3 (h3.1 9 3))) (by decide +kernel) rfl (pc' := 32) rfl (s_lt ((hset h3 3 3 (h3.1 9 3))) (fun _ => [.ref 3, .ref 9, .null]) (fun _ => []) (fun h4 => h4) (fun h4 => s_run (M := mX1_become) [(.aload_n 0, 1, (0, 0), 0), (.aload_n 1, 1, (0, 0), 0), (.getfield 40, 3, (1, 4), 0), (.putfield 40, 3, (1, 4), 0)] (ls' := [.ref 3, .ref 9, .null]) (st' := []) (h' := (hset h4 3 4 (h4.1 9 4))) (by decide +kernel) rfl (pc' := 40) rfl (s_lt ((hset h4 3 4 (h4.1 9 4))) (fun _ => [.ref 3, .ref 9, .null]) (fun _ => []) (fun h5 => h5) (fun h5 => s_run (M := mX1_become) [(.aload_n 0, 1, (0, 0), 0), (.aload_n 1, 1, (0, 0), 0), (.getfield 43, 3, (1, 5), 0), (.putfield 43, 3, (1, 5), 0)] (ls' := [.ref 3, .ref 9, .null]) (st' := []) (h' := (hset h5 3 5 (h5.1 9 5))) (by decide +kernel) rfl (pc' := 48) rfl (s_lt ((hset h5 3 5 (h5.1 9 5))) (fun _ => [.ref 3, .ref 9, .null]) (fun _ => []) (fun h6 => h6) (fun h6 => s_run (M := mX1_become) [(.iconst 0, 1, (0, 0), 0), (.istore_n 2, 1, (0, 0), 0)] (ls' := [.ref 3, .ref 9, .int 0]) (st' := []) (h' := h6) (by decide +kernel) rfl (pc' := 50) rfl (s_loop2 (fun (i7 : Int32) (h8 : HS) => [.ref 3, .ref 9, .int i7]) (fun (i7 : Int32) (h8 : HS) => h8) (fun rec9 H10 (i7 : Int32) (h8 : HS) => s_run (M := mX1_become) [(.iload_n 2, 1, (0, 0), 0), (.iconst 4, 1, (0, 0), 4)] (ls' := [.ref 3, .ref 9, .int i7]) (st' := [.int 4, .int i7]) (h' := h8) (by decide +kernel) rfl (pc' := 52) rfl (s_icmp_ge (M := mX1_become) (off := 57) (tgt := 109) (by decide +kernel) (by decide +kernel) (fun _ => s_run (M := mX1_become) [(.aload_n 0, 1, (0, 0), 0), (.getfield 9, 3, (1, 6), 0), (.iload_n 2, 1, (0, 0), 0), (.aload_n 1, 1, (0, 0), 0), (.getfield 9, 3, (1, 6), 0), (.iload_n 2, 1, (0, 0), 0)] (ls' := [.ref 3, .ref 9, .int i7]) (st' := [.int i7, .ref 10, .int i7, .ref 4]) (h' := h8) (by decide +kernel) rfl (pc' := 65) rfl (s_iald (M := mX1_become) (n := 4) (by decide +kernel) (by decide) (fun r17 => s_iast (M := mX1_become) (n := 4) (by decide +kernel) (by decide) (fun h18 => s_run (M := mX1_become) [(.aload_n 0, 1, (0, 0), 0), (.getfield 15, 3, (1, 7), 0), (.iload_n 2, 1, (0, 0), 0), (.aload_n 1, 1, (0, 0), 0), (.getfield 15, 3, (1, 7), 0), (.iload_n 2, 1, (0, 0), 0)] (ls' := [.ref 3, .ref 9, .int i7]) (st' := [.int i7, .ref 11, .int i7, .ref 5]) (h' := h18) (by decide +kernel) rfl (pc' := 77) rfl (s_iald (M := mX1_become) (n := 4) (by decide +kernel) (by decide) (fun r19 => s_iast (M := mX1_become) (n := 4) (by decide +kernel) (by decide) (fun h20 => s_run (M := mX1_become) [(.aload_n 0, 1, (0, 0), 0), (.getfield 18, 3, (1, 8), 0), (.iload_n 2, 1, (0, 0), 0), (.aload_n 1, 1, (0, 0), 0), (.getfield 18, 3, (1, 8), 0), (.iload_n 2, 1, (0, 0), 0)] (ls' := [.ref 3, .ref 9, .int i7]) (st' := [.int i7, .ref 12, .int i7, .ref 6]) (h' := h20) (by decide +kernel) rfl (pc' := 89) rfl (s_iald (M := mX1_become) (n := 4) (by decide +kernel) (by decide) (fun r21 => s_iast (M := mX1_become) (n := 4) (by decide +kernel) (by decide) (fun h22 => s_run (M := mX1_become) [(.aload_n 0, 1, (0, 0), 0), (.getfield 21, 3, (1, 9), 0), (.iload_n 2, 1, (0, 0), 0), (.aload_n 1, 1, (0, 0), 0), (.getfield 21, 3, (1, 9), 0), (.iload_n 2, 1, (0, 0), 0)] (ls' := [.ref 3, .ref 9, .int i7]) (st' := [.int i7, .ref 13, .int i7, .ref 7]) (h' := h22) (by decide +kernel) rfl (pc' := 101) rfl (s_iald (M := mX1_become) (n := 4) (by decide +kernel) (by decide) (fun r23 => s_iast (M := mX1_become) (n := 4) (by decide +kernel) (by decide) (fun h24 => s_run (M := mX1_become) [(.iinc 2 1, 3, (0, 0), 1), (.goto (-56), 3, (50, 0), 0)] (ls' := [.ref 3, .ref 9, .int (i7 + 1)]) (st' := []) (h' := h24) (by decide +kernel) rfl (pc' := 50) rfl (H10 (i7 + 1) h24)))))))))))))) (fun _ => s_run (M := mX1_become) [(.iconst 0, 1, (0, 0), 0), (.istore_n 2, 1, (0, 0), 0)] (ls' := [.ref 3, .ref 9, .int 0]) (st' := []) (h' := h8) (by decide +kernel) rfl (pc' := 111) rfl (s_loop2 (fun (i11 : Int32) (h12 : HS) => [.ref 3, .ref 9, .int i11]) (fun (i11 : Int32) (h12 : HS) => h12) (fun rec13 H14 (i11 : Int32) (h12 : HS) => s_run (M := mX1_become) [(.iload_n 2, 1, (0, 0), 0), (.bipush 6, 2, (0, 0), 6)] (ls' := [.ref 3, .ref 9, .int i11]) (st' := [.int 6, .int i11]) (h' := h12) (by decide +kernel) rfl (pc' := 114) rfl (s_icmp_ge (M := mX1_become) (off := 21) (tgt := 135) (by decide +kernel) (by decide +kernel) (fun _ => s_run (M := mX1_become) [(.aload_n 0, 1, (0, 0), 0), (.getfield 24, 3, (1, 10), 0), (.iload_n 2, 1, (0, 0), 0), (.aload_n 1, 1, (0, 0), 0), (.getfield 24, 3, (1, 10), 0), (.iload_n 2, 1, (0, 0), 0)] (ls' := [.ref 3, .ref 9, .int i11]) (st' := [.int i11, .ref 14, .int i11, .ref 8]) (h' := h12) (by decide +kernel) rfl (pc' := 127) rfl (s_iald (M := mX1_become) (n := 6) (by decide +kernel) (by decide) (fun r15 => s_iast (M := mX1_become) (n := 6) (by decide +kernel) (by decide) (fun h16 => s_run (M := mX1_become) [(.iinc 2 1, 3, (0, 0), 1), (.goto (-21), 3, (111, 0), 0)] (ls' := [.ref 3, .ref 9, .int (i11 + 1)]) (st' := []) (h' := h16) (by decide +kernel) rfl (pc' := 111) rfl (H14 (i11 + 1) h16))))) (fun _ => s_retV (M := mX1_become) (by decide +kernel) rfl))) 400 0 h8)))) 400 0 h6))))))))))))))
set_option maxRecDepth 20000 in
set_option maxHeartbeats 4000000 in
theorem c_X1_isPerson_3 (h : HS) (p1 : Int32) : CSim mX1_isPerson (cZ_ h) [.ref 3, .int p1] h (f_X1_isPerson h 3 p1) :=
  csim_of (by decide +kernel) rfl (Nat.le_of_ble_eq_true rfl) (ls := [.ref 3, .int p1]) rfl (by
    unfold f_X1_isPerson
    exact s_run (M := mX1_isPerson) [(.iload_n 1, 1, (0, 0), 0)] (ls' := [.ref 3, .int p1]) (st' := [.int p1]) (h' := h) (by decide +kernel) rfl (pc' := 1) rfl (s_if_lt (M := mX1_isPerson) (off := 21) (tgt := 22) (by decide +kernel) (by decide +kernel) (fun _ => s_run (M := mX1_isPerson) [(.iconst 0, 1, (0, 0), 0)] (ls' := [.ref 3, .int p1]) (st' := [.int 0]) (h' := h) (by decide +kernel) rfl (pc' := 23) rfl (s_retZ (M := mX1_isPerson) (v := false) (by decide +kernel) rfl)) (fun _ => s_run (M := mX1_isPerson) [(.iload_n 1, 1, (0, 0), 0), (.aload_n 0, 1, (0, 0), 0), (.getfield 27, 3, (1, 0), 0)] (ls' := [.ref 3, .int p1]) (st' := [.int (h.1 3 0), .int p1]) (h' := h) (by decide +kernel) rfl (pc' := 9) rfl (s_icmp_ge (M := mX1_isPerson) (off := 13) (tgt := 22) (by decide +kernel) (by decide +kernel) (fun _ => s_run (M := mX1_isPerson) [(.iload_n 1, 1, (0, 0), 0), (.bipush 6, 2, (0, 0), 6)] (ls' := [.ref 3, .int p1]) (st' := [.int 6, .int p1]) (h' := h) (by decide +kernel) rfl (pc' := 15) rfl (s_icmp_ge (M := mX1_isPerson) (off := 7) (tgt := 22) (by decide +kernel) (by decide +kernel) (fun _ => s_run (M := mX1_isPerson) [(.iconst 1, 1, (0, 0), 1), (.goto 4, 3, (23, 0), 0)] (ls' := [.ref 3, .int p1]) (st' := [.int 1]) (h' := h) (by decide +kernel) rfl (pc' := 23) rfl (s_retZ (M := mX1_isPerson) (v := true) (by decide +kernel) rfl)) (fun _ => s_run (M := mX1_isPerson) [(.iconst 0, 1, (0, 0), 0)] (ls' := [.ref 3, .int p1]) (st' := [.int 0]) (h' := h) (by decide +kernel) rfl (pc' := 23) rfl (s_retZ (M := mX1_isPerson) (v := false) (by decide +kernel) rfl)))) (fun _ => s_run (M := mX1_isPerson) [(.iconst 0, 1, (0, 0), 0)] (ls' := [.ref 3, .int p1]) (st' := [.int 0]) (h' := h) (by decide +kernel) rfl (pc' := 23) rfl (s_retZ (M := mX1_isPerson) (v := false) (by decide +kernel) rfl))))))
theorem ckX1_finesOf_78 : ckV mX1_finesOf mX1_isPerson 78 1 220 221 222 38 223 = true := by decide +kernel
set_option maxRecDepth 20000 in
set_option maxHeartbeats 4000000 in
theorem c_X1_finesOf_3 (h : HS) (p1 : Int32) : CSim mX1_finesOf (cI_ h) [.ref 3, .int p1] h (f_X1_finesOf h 3 p1) :=
  csim_of (by decide +kernel) rfl (Nat.le_of_ble_eq_true rfl) (ls := [.ref 3, .int p1]) rfl (by
    unfold f_X1_finesOf
    exact s_run (M := mX1_finesOf) [(.aload_n 0, 1, (0, 0), 0), (.iload_n 1, 1, (0, 0), 0)] (ls' := [.ref 3, .int p1]) (st' := [.int p1, .ref 3]) (h' := h) (by decide +kernel) rfl (pc' := 2) rfl (s_cVZ ckX1_finesOf_78 [.int p1] 3 (st := []) rfl rfl rfl (by decide) (Nat.le_of_ble_eq_true rfl) (by decide +kernel) (c_X1_isPerson_3 _ _) (fun r1 => s_bif_eq (M := mX1_finesOf) (off := 12) (tgt := 17) (by decide +kernel) (by decide +kernel) (fun _ => s_run (M := mX1_finesOf) [(.aload_n 0, 1, (0, 0), 0), (.getfield 24, 3, (1, 10), 0), (.iload_n 1, 1, (0, 0), 0)] (ls' := [.ref 3, .int p1]) (st' := [.int p1, .ref 8]) (h' := h) (by decide +kernel) rfl (pc' := 13) rfl (s_iald (M := mX1_finesOf) (n := 6) (by decide +kernel) (by decide) (fun r2 => s_run (M := mX1_finesOf) [(.goto 4, 3, (18, 0), 0)] (ls' := [.ref 3, .int p1]) (st' := [.int r2]) (h' := h) (by decide +kernel) rfl (pc' := 18) rfl (s_retI (M := mX1_finesOf) (by decide +kernel) rfl)))) (fun _ => s_run (M := mX1_finesOf) [(.iconst 0, 1, (0, 0), 0)] (ls' := [.ref 3, .int p1]) (st' := [.int 0]) (h' := h) (by decide +kernel) rfl (pc' := 18) rfl (s_retI (M := mX1_finesOf) (by decide +kernel) rfl)))))
set_option maxRecDepth 20000 in
set_option maxHeartbeats 4000000 in
theorem c_X1_isMatter_3 (h : HS) (p1 : Int32) : CSim mX1_isMatter (cZ_ h) [.ref 3, .int p1] h (f_X1_isMatter h 3 p1) :=
  csim_of (by decide +kernel) rfl (Nat.le_of_ble_eq_true rfl) (ls := [.ref 3, .int p1]) rfl (by
    unfold f_X1_isMatter
    exact s_run (M := mX1_isMatter) [(.iload_n 1, 1, (0, 0), 0)] (ls' := [.ref 3, .int p1]) (st' := [.int p1]) (h' := h) (by decide +kernel) rfl (pc' := 1) rfl (s_if_lt (M := mX1_isMatter) (off := 20) (tgt := 21) (by decide +kernel) (by decide +kernel) (fun _ => s_run (M := mX1_isMatter) [(.iconst 0, 1, (0, 0), 0)] (ls' := [.ref 3, .int p1]) (st' := [.int 0]) (h' := h) (by decide +kernel) rfl (pc' := 22) rfl (s_retZ (M := mX1_isMatter) (v := false) (by decide +kernel) rfl)) (fun _ => s_run (M := mX1_isMatter) [(.iload_n 1, 1, (0, 0), 0), (.aload_n 0, 1, (0, 0), 0), (.getfield 31, 3, (1, 1), 0)] (ls' := [.ref 3, .int p1]) (st' := [.int (h.1 3 1), .int p1]) (h' := h) (by decide +kernel) rfl (pc' := 9) rfl (s_icmp_ge (M := mX1_isMatter) (off := 12) (tgt := 21) (by decide +kernel) (by decide +kernel) (fun _ => s_run (M := mX1_isMatter) [(.iload_n 1, 1, (0, 0), 0), (.iconst 4, 1, (0, 0), 4)] (ls' := [.ref 3, .int p1]) (st' := [.int 4, .int p1]) (h' := h) (by decide +kernel) rfl (pc' := 14) rfl (s_icmp_ge (M := mX1_isMatter) (off := 7) (tgt := 21) (by decide +kernel) (by decide +kernel) (fun _ => s_run (M := mX1_isMatter) [(.iconst 1, 1, (0, 0), 1), (.goto 4, 3, (22, 0), 0)] (ls' := [.ref 3, .int p1]) (st' := [.int 1]) (h' := h) (by decide +kernel) rfl (pc' := 22) rfl (s_retZ (M := mX1_isMatter) (v := true) (by decide +kernel) rfl)) (fun _ => s_run (M := mX1_isMatter) [(.iconst 0, 1, (0, 0), 0)] (ls' := [.ref 3, .int p1]) (st' := [.int 0]) (h' := h) (by decide +kernel) rfl (pc' := 22) rfl (s_retZ (M := mX1_isMatter) (v := false) (by decide +kernel) rfl)))) (fun _ => s_run (M := mX1_isMatter) [(.iconst 0, 1, (0, 0), 0)] (ls' := [.ref 3, .int p1]) (st' := [.int 0]) (h' := h) (by decide +kernel) rfl (pc' := 22) rfl (s_retZ (M := mX1_isMatter) (v := false) (by decide +kernel) rfl))))))
theorem ckX1_witnessesOf_84 : ckV mX1_witnessesOf mX1_isMatter 84 1 224 225 226 38 227 = true := by decide +kernel
set_option maxRecDepth 20000 in
set_option maxHeartbeats 4000000 in
theorem c_X1_witnessesOf_3 (h : HS) (p1 : Int32) : CSim mX1_witnessesOf (cI_ h) [.ref 3, .int p1] h (f_X1_witnessesOf h 3 p1) :=
  csim_of (by decide +kernel) rfl (Nat.le_of_ble_eq_true rfl) (ls := [.ref 3, .int p1]) rfl (by
    unfold f_X1_witnessesOf
    exact s_run (M := mX1_witnessesOf) [(.aload_n 0, 1, (0, 0), 0), (.iload_n 1, 1, (0, 0), 0)] (ls' := [.ref 3, .int p1]) (st' := [.int p1, .ref 3]) (h' := h) (by decide +kernel) rfl (pc' := 2) rfl (s_cVZ ckX1_witnessesOf_84 [.int p1] 3 (st := []) rfl rfl rfl (by decide) (Nat.le_of_ble_eq_true rfl) (by decide +kernel) (c_X1_isMatter_3 _ _) (fun r1 => s_bif_eq (M := mX1_witnessesOf) (off := 12) (tgt := 17) (by decide +kernel) (by decide +kernel) (fun _ => s_run (M := mX1_witnessesOf) [(.aload_n 0, 1, (0, 0), 0), (.getfield 9, 3, (1, 6), 0), (.iload_n 1, 1, (0, 0), 0)] (ls' := [.ref 3, .int p1]) (st' := [.int p1, .ref 4]) (h' := h) (by decide +kernel) rfl (pc' := 13) rfl (s_iald (M := mX1_witnessesOf) (n := 4) (by decide +kernel) (by decide) (fun r2 => s_run (M := mX1_witnessesOf) [(.goto 4, 3, (18, 0), 0)] (ls' := [.ref 3, .int p1]) (st' := [.int r2]) (h' := h) (by decide +kernel) rfl (pc' := 18) rfl (s_retI (M := mX1_witnessesOf) (by decide +kernel) rfl)))) (fun _ => s_run (M := mX1_witnessesOf) [(.iconst 0, 1, (0, 0), 0)] (ls' := [.ref 3, .int p1]) (st' := [.int 0]) (h' := h) (by decide +kernel) rfl (pc' := 18) rfl (s_retI (M := mX1_witnessesOf) (by decide +kernel) rfl)))))
theorem ckX1_seenBy_74 : ckV mX1_seenBy mX1_witnessesOf 74 1 280 281 282 38 283 = true := by decide +kernel
set_option maxRecDepth 20000 in
set_option maxHeartbeats 4000000 in
theorem c_X1_seenBy_3 (h : HS) (p1 : Int32) : CSim mX1_seenBy (cI_ h) [.ref 3, .int p1] h (f_X1_seenBy h 3 p1) :=
  csim_of (by decide +kernel) rfl (Nat.le_of_ble_eq_true rfl) (ls := [.ref 3, .int p1, .null, .null]) rfl (by
    unfold f_X1_seenBy
    exact s_run (M := mX1_seenBy) [(.iconst 0, 1, (0, 0), 0), (.istore_n 2, 1, (0, 0), 0), (.iconst 0, 1, (0, 0), 0), (.istore_n 3, 1, (0, 0), 0)] (ls' := [.ref 3, .int p1, .int 0, .int 0]) (st' := []) (h' := h) (by decide +kernel) rfl (pc' := 4) rfl (s_loop2 (fun (i1 : Int32) (i2 : Int32) => [.ref 3, .int p1, .int i1, .int i2]) (fun (i1 : Int32) (i2 : Int32) => h) (fun rec3 H4 (i1 : Int32) (i2 : Int32) => s_run (M := mX1_seenBy) [(.iload_n 3, 1, (0, 0), 0), (.aload_n 0, 1, (0, 0), 0), (.getfield 31, 3, (1, 1), 0)] (ls' := [.ref 3, .int p1, .int i1, .int i2]) (st' := [.int (h.1 3 1), .int i2]) (h' := h) (by decide +kernel) rfl (pc' := 9) rfl (s_icmp_ge (M := mX1_seenBy) (off := 23) (tgt := 32) (by decide +kernel) (by decide +kernel) (fun _ => s_run (M := mX1_seenBy) [(.iload_n 2, 1, (0, 0), 0), (.aload_n 0, 1, (0, 0), 0), (.iload_n 3, 1, (0, 0), 0)] (ls' := [.ref 3, .int p1, .int i1, .int i2]) (st' := [.int i2, .ref 3, .int i1]) (h' := h) (by decide +kernel) rfl (pc' := 15) rfl (s_cVI ckX1_seenBy_74 [.int i2] 3 (st := [.int i1]) rfl rfl rfl (by decide) (Nat.le_of_ble_eq_true rfl) (by decide +kernel) (c_X1_witnessesOf_3 _ _) (fun r5 => s_run (M := mX1_seenBy) [(.iload_n 1, 1, (0, 0), 0), (.ishr, 1, (0, 0), 0), (.iconst 1, 1, (0, 0), 1), (.iand, 1, (0, 0), 0), (.iload_n 3, 1, (0, 0), 0), (.ishl, 1, (0, 0), 0), (.ior, 1, (0, 0), 0), (.istore_n 2, 1, (0, 0), 0)] (ls' := [.ref 3, .int p1, .int (i1 ||| (((r5 >>> (p1 &&& 31)) &&& 1) <<< (i2 &&& 31))), .int i2]) (st' := []) (h' := h) (by decide +kernel) rfl (pc' := 26) rfl (s_lt ((i1 ||| (((r5 >>> (p1 &&& 31)) &&& 1) <<< (i2 &&& 31))) : Int32) (fun v6 => [.ref 3, .int p1, .int v6, .int i2]) (fun _ => []) (fun _ => h) (fun v6 => s_run (M := mX1_seenBy) [(.iinc 3 1, 3, (0, 0), 1), (.goto (-25), 3, (4, 0), 0)] (ls' := [.ref 3, .int p1, .int v6, .int (i2 + 1)]) (st' := []) (h' := h) (by decide +kernel) rfl (pc' := 4) rfl (H4 v6 (i2 + 1))))))) (fun _ => s_run (M := mX1_seenBy) [(.iload_n 2, 1, (0, 0), 0)] (ls' := [.ref 3, .int p1, .int i1, .int i2]) (st' := [.int i1]) (h' := h) (by decide +kernel) rfl (pc' := 33) rfl (s_retI (M := mX1_seenBy) (by decide +kernel) rfl)))) 400 0 0))
set_option maxRecDepth 20000 in
set_option maxHeartbeats 4000000 in
theorem c_X1_kindOf_3 (h : HS) (p1 : Int32) : CSim mX1_kindOf (cI_ h) [.ref 3, .int p1] h (f_X1_kindOf h 3 p1) :=
  csim_of (by decide +kernel) rfl (Nat.le_of_ble_eq_true rfl) (ls := [.ref 3, .int p1, .null]) rfl (by
    unfold f_X1_kindOf
    exact s_run (M := mX1_kindOf) [(.iconst 1, 1, (0, 0), 1), (.iload_n 1, 1, (0, 0), 0), (.ishl, 1, (0, 0), 0), (.istore_n 2, 1, (0, 0), 0)] (ls' := [.ref 3, .int p1, .int (1 <<< (p1 &&& 31))]) (st' := []) (h' := h) (by decide +kernel) rfl (pc' := 4) rfl (s_lt ((1 <<< (p1 &&& 31)) : Int32) (fun v1 => [.ref 3, .int p1, .int v1]) (fun _ => []) (fun _ => h) (fun v1 => s_run (M := mX1_kindOf) [(.aload_n 0, 1, (0, 0), 0), (.getfield 37, 3, (1, 3), 0), (.iload_n 2, 1, (0, 0), 0), (.iand, 1, (0, 0), 0)] (ls' := [.ref 3, .int p1, .int v1]) (st' := [.int ((h.1 3 3) &&& v1)]) (h' := h) (by decide +kernel) rfl (pc' := 10) rfl (s_if_eq (M := mX1_kindOf) (off := 5) (tgt := 15) (by decide +kernel) (by decide +kernel) (fun _ => s_run (M := mX1_kindOf) [(.aload_n 0, 1, (0, 0), 0), (.getfield 40, 3, (1, 4), 0), (.iload_n 2, 1, (0, 0), 0), (.iand, 1, (0, 0), 0)] (ls' := [.ref 3, .int p1, .int v1]) (st' := [.int ((h.1 3 4) &&& v1)]) (h' := h) (by decide +kernel) rfl (pc' := 21) rfl (s_if_eq (M := mX1_kindOf) (off := 5) (tgt := 26) (by decide +kernel) (by decide +kernel) (fun _ => s_run (M := mX1_kindOf) [(.aload_n 0, 1, (0, 0), 0), (.getfield 43, 3, (1, 5), 0), (.iload_n 2, 1, (0, 0), 0), (.iand, 1, (0, 0), 0)] (ls' := [.ref 3, .int p1, .int v1]) (st' := [.int ((h.1 3 5) &&& v1)]) (h' := h) (by decide +kernel) rfl (pc' := 32) rfl (s_if_eq (M := mX1_kindOf) (off := 7) (tgt := 39) (by decide +kernel) (by decide +kernel) (fun _ => s_run (M := mX1_kindOf) [(.iconst 0, 1, (0, 0), 0)] (ls' := [.ref 3, .int p1, .int v1]) (st' := [.int 0]) (h' := h) (by decide +kernel) rfl (pc' := 40) rfl (s_retI (M := mX1_kindOf) (by decide +kernel) rfl)) (fun _ => s_run (M := mX1_kindOf) [(.iconst 3, 1, (0, 0), 3), (.goto 4, 3, (40, 0), 0)] (ls' := [.ref 3, .int p1, .int v1]) (st' := [.int 3]) (h' := h) (by decide +kernel) rfl (pc' := 40) rfl (s_retI (M := mX1_kindOf) (by decide +kernel) rfl)))) (fun _ => s_run (M := mX1_kindOf) [(.iconst 2, 1, (0, 0), 2)] (ls' := [.ref 3, .int p1, .int v1]) (st' := [.int 2]) (h' := h) (by decide +kernel) rfl (pc' := 25) rfl (s_retI (M := mX1_kindOf) (by decide +kernel) rfl)))) (fun _ => s_run (M := mX1_kindOf) [(.iconst 1, 1, (0, 0), 1)] (ls' := [.ref 3, .int p1, .int v1]) (st' := [.int 1]) (h' := h) (by decide +kernel) rfl (pc' := 14) rfl (s_retI (M := mX1_kindOf) (by decide +kernel) rfl))))))
set_option maxRecDepth 20000 in
set_option maxHeartbeats 4000000 in
theorem c_X1_eyeOf_3 (h : HS) (p1 : Int32) : CSim mX1_eyeOf (cI_ h) [.ref 3, .int p1] h (f_X1_eyeOf h 3 p1) :=
  csim_of (by decide +kernel) rfl (Nat.le_of_ble_eq_true rfl) (ls := [.ref 3, .int p1]) rfl (by
    unfold f_X1_eyeOf
    exact s_run (M := mX1_eyeOf) [(.aload_n 0, 1, (0, 0), 0), (.getfield 34, 3, (1, 2), 0), (.iload_n 1, 1, (0, 0), 0), (.ishr, 1, (0, 0), 0), (.iconst 1, 1, (0, 0), 1), (.iand, 1, (0, 0), 0)] (ls' := [.ref 3, .int p1]) (st' := [.int (((h.1 3 2) >>> (p1 &&& 31)) &&& 1)]) (h' := h) (by decide +kernel) rfl (pc' := 8) rfl (s_retI (M := mX1_eyeOf) (by decide +kernel) rfl))
theorem ckX1_seersOf_84 : ckV mX1_seersOf mX1_isMatter 84 1 224 225 226 38 227 = true := by decide +kernel
set_option maxRecDepth 20000 in
set_option maxHeartbeats 4000000 in
theorem c_X1_seersOf_3 (h : HS) (p1 : Int32) (p2 : Int32) : CSim mX1_seersOf (cI_ h) [.ref 3, .int p1, .int p2] h (f_X1_seersOf h 3 p1 p2) :=
  csim_of (by decide +kernel) rfl (Nat.le_of_ble_eq_true rfl) (ls := [.ref 3, .int p1, .int p2, .null]) rfl (by
    unfold f_X1_seersOf
    exact s_run (M := mX1_seersOf) [(.aload_n 0, 1, (0, 0), 0), (.iload_n 1, 1, (0, 0), 0)] (ls' := [.ref 3, .int p1, .int p2, .null]) (st' := [.int p1, .ref 3]) (h' := h) (by decide +kernel) rfl (pc' := 2) rfl (s_cVZ ckX1_seersOf_84 [.int p1] 3 (st := []) rfl rfl rfl (by decide) (Nat.le_of_ble_eq_true rfl) (by decide +kernel) (c_X1_isMatter_3 _ _) (fun r1 => s_bif_ne (M := mX1_seersOf) (off := 5) (tgt := 10) (by decide +kernel) (by decide +kernel) (fun _ => s_run (M := mX1_seersOf) [(.iload_n 2, 1, (0, 0), 0)] (ls' := [.ref 3, .int p1, .int p2, .null]) (st' := [.int p2]) (h' := h) (by decide +kernel) rfl (pc' := 11) rfl (s_jn (fun (j3 : Int32 → Option Int32) => ∀ (t2 : Int32), Sim none mX1_seersOf (cI_ h) 27 [.ref 3, .int p1, .null, .null] [.int t2] h (j3 t2)) (fun t2 => s_run (M := mX1_seersOf) [(.istore_n 3, 1, (0, 0), 0), (.aload_n 0, 1, (0, 0), 0), (.getfield 9, 3, (1, 6), 0), (.iload_n 1, 1, (0, 0), 0)] (ls' := [.ref 3, .int p1, .null, .int t2]) (st' := [.int p1, .ref 4]) (h' := h) (by decide +kernel) rfl (pc' := 33) rfl (s_iald (M := mX1_seersOf) (n := 4) (by decide +kernel) (by decide) (fun r5 => s_run (M := mX1_seersOf) [(.iload_n 3, 1, (0, 0), 0), (.aload_n 0, 1, (0, 0), 0), (.getfield 40, 3, (1, 4), 0), (.ior, 1, (0, 0), 0), (.iand, 1, (0, 0), 0), (.aload_n 0, 1, (0, 0), 0), (.getfield 43, 3, (1, 5), 0), (.iconst (-1), 1, (0, 0), (-1)), (.ixor, 1, (0, 0), 0), (.iand, 1, (0, 0), 0)] (ls' := [.ref 3, .int p1, .null, .int t2]) (st' := [.int ((r5 &&& (t2 ||| (h.1 3 4))) &&& ((h.1 3 5) ^^^ (-1)))]) (h' := h) (by decide +kernel) rfl (pc' := 48) rfl (s_retI (M := mX1_seersOf) (by decide +kernel) rfl)))) (fun j3 J4 => s_if_ne (M := mX1_seersOf) (off := 12) (tgt := 23) (by decide +kernel) (by decide +kernel) (fun _ => s_run (M := mX1_seersOf) [(.aload_n 0, 1, (0, 0), 0), (.getfield 34, 3, (1, 2), 0), (.iconst (-1), 1, (0, 0), (-1)), (.ixor, 1, (0, 0), 0), (.goto 7, 3, (27, 0), 0)] (ls' := [.ref 3, .int p1, .int p2, .null]) (st' := [.int ((h.1 3 2) ^^^ (-1))]) (h' := h) (by decide +kernel) rfl (pc' := 27) rfl (s_wk (ls' := [.ref 3, .int p1, .null, .null]) ⟨Or.inr rfl, Or.inr rfl, Or.inl rfl, Or.inl rfl, trivial⟩ (J4 ((h.1 3 2) ^^^ (-1))))) (fun _ => s_run (M := mX1_seersOf) [(.aload_n 0, 1, (0, 0), 0), (.getfield 34, 3, (1, 2), 0)] (ls' := [.ref 3, .int p1, .int p2, .null]) (st' := [.int (h.1 3 2)]) (h' := h) (by decide +kernel) rfl (pc' := 27) rfl (s_wk (ls' := [.ref 3, .int p1, .null, .null]) ⟨Or.inr rfl, Or.inr rfl, Or.inl rfl, Or.inl rfl, trivial⟩ (J4 (h.1 3 2))))))) (fun _ => s_run (M := mX1_seersOf) [(.iconst 0, 1, (0, 0), 0)] (ls' := [.ref 3, .int p1, .int p2, .null]) (st' := [.int 0]) (h' := h) (by decide +kernel) rfl (pc' := 9) rfl (s_retI (M := mX1_seersOf) (by decide +kernel) rfl)))))
theorem ckX1_knownAs_84 : ckV mX1_knownAs mX1_isMatter 84 1 224 225 226 38 227 = true := by decide +kernel
set_option maxRecDepth 20000 in
set_option maxHeartbeats 4000000 in
theorem c_X1_knownAs_3 (h : HS) (p1 : Int32) : CSim mX1_knownAs (cI_ h) [.ref 3, .int p1] h (f_X1_knownAs h 3 p1) :=
  csim_of (by decide +kernel) rfl (Nat.le_of_ble_eq_true rfl) (ls := [.ref 3, .int p1]) rfl (by
    unfold f_X1_knownAs
    exact s_run (M := mX1_knownAs) [(.aload_n 0, 1, (0, 0), 0), (.iload_n 1, 1, (0, 0), 0)] (ls' := [.ref 3, .int p1]) (st' := [.int p1, .ref 3]) (h' := h) (by decide +kernel) rfl (pc' := 2) rfl (s_cVZ ckX1_knownAs_84 [.int p1] 3 (st := []) rfl rfl rfl (by decide) (Nat.le_of_ble_eq_true rfl) (by decide +kernel) (c_X1_isMatter_3 _ _) (fun r1 => s_bif_eq (M := mX1_knownAs) (off := 12) (tgt := 17) (by decide +kernel) (by decide +kernel) (fun _ => s_run (M := mX1_knownAs) [(.aload_n 0, 1, (0, 0), 0), (.getfield 21, 3, (1, 9), 0), (.iload_n 1, 1, (0, 0), 0)] (ls' := [.ref 3, .int p1]) (st' := [.int p1, .ref 7]) (h' := h) (by decide +kernel) rfl (pc' := 13) rfl (s_iald (M := mX1_knownAs) (n := 4) (by decide +kernel) (by decide) (fun r2 => s_run (M := mX1_knownAs) [(.goto 5, 3, (19, 0), 0)] (ls' := [.ref 3, .int p1]) (st' := [.int r2]) (h' := h) (by decide +kernel) rfl (pc' := 19) rfl (s_retI (M := mX1_knownAs) (by decide +kernel) rfl)))) (fun _ => s_run (M := mX1_knownAs) [(.bipush (-9), 2, (0, 0), (-9))] (ls' := [.ref 3, .int p1]) (st' := [.int (-9)]) (h' := h) (by decide +kernel) rfl (pc' := 19) rfl (s_retI (M := mX1_knownAs) (by decide +kernel) rfl)))))
theorem ckX1_halfOf_84 : ckV mX1_halfOf mX1_isMatter 84 1 224 225 226 38 227 = true := by decide +kernel
set_option maxRecDepth 20000 in
set_option maxHeartbeats 4000000 in
theorem c_X1_halfOf_3 (h : HS) (p1 : Int32) (p2 : Int32) : CSim mX1_halfOf (cI_ h) [.ref 3, .int p1, .int p2] h (f_X1_halfOf h 3 p1 p2) :=
  csim_of (by decide +kernel) rfl (Nat.le_of_ble_eq_true rfl) (ls := [.ref 3, .int p1, .int p2]) rfl (by
    unfold f_X1_halfOf
    exact s_run (M := mX1_halfOf) [(.aload_n 0, 1, (0, 0), 0), (.iload_n 1, 1, (0, 0), 0)] (ls' := [.ref 3, .int p1, .int p2]) (st' := [.int p1, .ref 3]) (h' := h) (by decide +kernel) rfl (pc' := 2) rfl (s_cVZ ckX1_halfOf_84 [.int p1] 3 (st := []) rfl rfl rfl (by decide) (Nat.le_of_ble_eq_true rfl) (by decide +kernel) (c_X1_isMatter_3 _ _) (fun r1 => s_bif_ne (M := mX1_halfOf) (off := 6) (tgt := 11) (by decide +kernel) (by decide +kernel) (fun _ => s_run (M := mX1_halfOf) [(.iload_n 2, 1, (0, 0), 0)] (ls' := [.ref 3, .int p1, .int p2]) (st' := [.int p2]) (h' := h) (by decide +kernel) rfl (pc' := 12) rfl (s_if_ne (M := mX1_halfOf) (off := 12) (tgt := 24) (by decide +kernel) (by decide +kernel) (fun _ => s_run (M := mX1_halfOf) [(.aload_n 0, 1, (0, 0), 0), (.getfield 15, 3, (1, 7), 0), (.iload_n 1, 1, (0, 0), 0)] (ls' := [.ref 3, .int p1, .int p2]) (st' := [.int p1, .ref 5]) (h' := h) (by decide +kernel) rfl (pc' := 20) rfl (s_iald (M := mX1_halfOf) (n := 4) (by decide +kernel) (by decide) (fun r3 => s_run (M := mX1_halfOf) [(.goto 9, 3, (30, 0), 0)] (ls' := [.ref 3, .int p1, .int p2]) (st' := [.int r3]) (h' := h) (by decide +kernel) rfl (pc' := 30) rfl (s_retI (M := mX1_halfOf) (by decide +kernel) rfl)))) (fun _ => s_run (M := mX1_halfOf) [(.aload_n 0, 1, (0, 0), 0), (.getfield 18, 3, (1, 8), 0), (.iload_n 1, 1, (0, 0), 0)] (ls' := [.ref 3, .int p1, .int p2]) (st' := [.int p1, .ref 6]) (h' := h) (by decide +kernel) rfl (pc' := 29) rfl (s_iald (M := mX1_halfOf) (n := 4) (by decide +kernel) (by decide) (fun r2 => s_retI (M := mX1_halfOf) (by decide +kernel) rfl))))) (fun _ => s_run (M := mX1_halfOf) [(.bipush (-9), 2, (0, 0), (-9))] (ls' := [.ref 3, .int p1, .int p2]) (st' := [.int (-9)]) (h' := h) (by decide +kernel) rfl (pc' := 10) rfl (s_retI (M := mX1_halfOf) (by decide +kernel) rfl)))))
theorem ckX1_saidBy_97 : ckV mX1_saidBy mX1_seersOf 97 2 316 302 303 38 304 = true := by decide +kernel
theorem ckX1_saidBy_93 : ckV mX1_saidBy mX1_halfOf 93 2 317 294 295 38 296 = true := by decide +kernel
theorem ckX1_saidBy_100 : ckV mX1_saidBy mX1_kindOf 100 1 318 273 274 38 275 = true := by decide +kernel
set_option maxRecDepth 20000 in
set_option maxHeartbeats 4000000 in
theorem c_X1_saidBy_3 (h : HS) (p1 : Int32) (p2 : Int32) (p3 : Int32) : CSim mX1_saidBy (cI_ h) [.ref 3, .int p1, .int p2, .int p3] h (f_X1_saidBy h 3 p1 p2 p3) :=
  csim_of (by decide +kernel) rfl (Nat.le_of_ble_eq_true rfl) (ls := [.ref 3, .int p1, .int p2, .int p3, .null]) rfl (by
    unfold f_X1_saidBy
    exact s_run (M := mX1_saidBy) [(.aload_n 0, 1, (0, 0), 0), (.iload_n 2, 1, (0, 0), 0), (.iload_n 3, 1, (0, 0), 0)] (ls' := [.ref 3, .int p1, .int p2, .int p3, .null]) (st' := [.int p3, .int p2, .ref 3]) (h' := h) (by decide +kernel) rfl (pc' := 3) rfl (s_cVI ckX1_saidBy_97 [.int p2, .int p3] 3 (st := []) rfl rfl rfl (by decide) (Nat.le_of_ble_eq_true rfl) (by decide +kernel) (c_X1_seersOf_3 _ _ _) (fun r1 => s_run (M := mX1_saidBy) [(.iload_n 1, 1, (0, 0), 0), (.ishr, 1, (0, 0), 0), (.iconst 1, 1, (0, 0), 1), (.iand, 1, (0, 0), 0)] (ls' := [.ref 3, .int p1, .int p2, .int p3, .null]) (st' := [.int ((r1 >>> (p1 &&& 31)) &&& 1)]) (h' := h) (by decide +kernel) rfl (pc' := 10) rfl (s_if_ne (M := mX1_saidBy) (off := 6) (tgt := 16) (by decide +kernel) (by decide +kernel) (fun _ => s_run (M := mX1_saidBy) [(.bipush (-9), 2, (0, 0), (-9))] (ls' := [.ref 3, .int p1, .int p2, .int p3, .null]) (st' := [.int (-9)]) (h' := h) (by decide +kernel) rfl (pc' := 15) rfl (s_retI (M := mX1_saidBy) (by decide +kernel) rfl)) (fun _ => s_run (M := mX1_saidBy) [(.aload_n 0, 1, (0, 0), 0), (.iload_n 2, 1, (0, 0), 0), (.iload_n 3, 1, (0, 0), 0)] (ls' := [.ref 3, .int p1, .int p2, .int p3, .null]) (st' := [.int p3, .int p2, .ref 3]) (h' := h) (by decide +kernel) rfl (pc' := 19) rfl (s_cVI ckX1_saidBy_93 [.int p2, .int p3] 3 (st := []) rfl rfl rfl (by decide) (Nat.le_of_ble_eq_true rfl) (by decide +kernel) (c_X1_halfOf_3 _ _ _) (fun r2 => s_run (M := mX1_saidBy) [(.istore 4, 2, (0, 0), 0), (.aload_n 0, 1, (0, 0), 0), (.iload_n 1, 1, (0, 0), 0)] (ls' := [.ref 3, .int p1, .int p2, .int p3, .int r2]) (st' := [.int p1, .ref 3]) (h' := h) (by decide +kernel) rfl (pc' := 26) rfl (s_cVI ckX1_saidBy_100 [.int p1] 3 (st := []) rfl rfl rfl (by decide) (Nat.le_of_ble_eq_true rfl) (by decide +kernel) (c_X1_kindOf_3 _ _) (fun r3 => s_run (M := mX1_saidBy) [(.iconst 1, 1, (0, 0), 1)] (ls' := [.ref 3, .int p1, .int p2, .int p3, .int r2]) (st' := [.int 1, .int r3]) (h' := h) (by decide +kernel) rfl (pc' := 30) rfl (s_icmp_ne (M := mX1_saidBy) (off := 11) (tgt := 41) (by decide +kernel) (by decide +kernel) (fun _ => s_run (M := mX1_saidBy) [(.bipush 9, 2, (0, 0), 9), (.iload 4, 2, (0, 0), 0), (.isub, 1, (0, 0), 0), (.goto 5, 3, (43, 0), 0)] (ls' := [.ref 3, .int p1, .int p2, .int p3, .int r2]) (st' := [.int (9 - r2)]) (h' := h) (by decide +kernel) rfl (pc' := 43) rfl (s_retI (M := mX1_saidBy) (by decide +kernel) rfl)) (fun _ => s_run (M := mX1_saidBy) [(.iload 4, 2, (0, 0), 0)] (ls' := [.ref 3, .int p1, .int p2, .int p3, .int r2]) (st' := [.int r2]) (h' := h) (by decide +kernel) rfl (pc' := 43) rfl (s_retI (M := mX1_saidBy) (by decide +kernel) rfl))))))))))))
set_option maxRecDepth 20000 in
set_option maxHeartbeats 4000000 in
theorem c_X1_canSee_3 (h : HS) (p1 : Int32) (p2 : Int32) : CSim mX1_canSee (cZ_ h) [.ref 3, .int p1, .int p2] h (f_X1_canSee h 3 p1 p2) :=
  csim_of (by decide +kernel) rfl (Nat.le_of_ble_eq_true rfl) (ls := [.ref 3, .int p1, .int p2]) rfl (by
    unfold f_X1_canSee
    exact s_run (M := mX1_canSee) [(.aload_n 0, 1, (0, 0), 0), (.iload_n 1, 1, (0, 0), 0)] (ls' := [.ref 3, .int p1, .int p2]) (st' := [.int p1, .ref 3]) (h' := h) (by decide +kernel) rfl (pc' := 2) rfl (s_cVZ ckX1_canSee_78 [.int p1] 3 (st := []) rfl rfl rfl (by decide) (Nat.le_of_ble_eq_true rfl) (by decide +kernel) (c_X1_isPerson_3 _ _) (fun r1 => s_bif_eq (M := mX1_canSee) (off := 28) (tgt := 33) (by decide +kernel) (by decide +kernel) (fun _ => s_run (M := mX1_canSee) [(.aload_n 0, 1, (0, 0), 0), (.iload_n 2, 1, (0, 0), 0)] (ls' := [.ref 3, .int p1, .int p2]) (st' := [.int p2, .ref 3]) (h' := h) (by decide +kernel) rfl (pc' := 10) rfl (s_cVZ ckX1_canSee_84 [.int p2] 3 (st := []) rfl rfl rfl (by decide) (Nat.le_of_ble_eq_true rfl) (by decide +kernel) (c_X1_isMatter_3 _ _) (fun r2 => s_bif_eq (M := mX1_canSee) (off := 20) (tgt := 33) (by decide +kernel) (by decide +kernel) (fun _ => s_run (M := mX1_canSee) [(.aload_n 0, 1, (0, 0), 0), (.getfield 9, 3, (1, 6), 0), (.iload_n 2, 1, (0, 0), 0)] (ls' := [.ref 3, .int p1, .int p2]) (st' := [.int p2, .ref 4]) (h' := h) (by decide +kernel) rfl (pc' := 21) rfl (s_iald (M := mX1_canSee) (n := 4) (by decide +kernel) (by decide) (fun r3 => s_run (M := mX1_canSee) [(.iload_n 1, 1, (0, 0), 0), (.ishr, 1, (0, 0), 0), (.iconst 1, 1, (0, 0), 1), (.iand, 1, (0, 0), 0)] (ls' := [.ref 3, .int p1, .int p2]) (st' := [.int ((r3 >>> (p1 &&& 31)) &&& 1)]) (h' := h) (by decide +kernel) rfl (pc' := 26) rfl (s_if_ne (M := mX1_canSee) (off := 7) (tgt := 33) (by decide +kernel) (by decide +kernel) (fun _ => s_run (M := mX1_canSee) [(.iconst 1, 1, (0, 0), 1), (.goto 4, 3, (34, 0), 0)] (ls' := [.ref 3, .int p1, .int p2]) (st' := [.int 1]) (h' := h) (by decide +kernel) rfl (pc' := 34) rfl (s_retZ (M := mX1_canSee) (v := true) (by decide +kernel) rfl)) (fun _ => s_run (M := mX1_canSee) [(.iconst 0, 1, (0, 0), 0)] (ls' := [.ref 3, .int p1, .int p2]) (st' := [.int 0]) (h' := h) (by decide +kernel) rfl (pc' := 34) rfl (s_retZ (M := mX1_canSee) (v := false) (by decide +kernel) rfl)))))) (fun _ => s_run (M := mX1_canSee) [(.iconst 0, 1, (0, 0), 0)] (ls' := [.ref 3, .int p1, .int p2]) (st' := [.int 0]) (h' := h) (by decide +kernel) rfl (pc' := 34) rfl (s_retZ (M := mX1_canSee) (v := false) (by decide +kernel) rfl))))) (fun _ => s_run (M := mX1_canSee) [(.iconst 0, 1, (0, 0), 0)] (ls' := [.ref 3, .int p1, .int p2]) (st' := [.int 0]) (h' := h) (by decide +kernel) rfl (pc' := 34) rfl (s_retZ (M := mX1_canSee) (v := false) (by decide +kernel) rfl)))))
set_option maxRecDepth 20000 in
set_option maxHeartbeats 4000000 in
theorem c_X1_letSee_3 (h : HS) (p1 : Int32) (p2 : Int32) : CSim mX1_letSee cV_ [.ref 3, .int p1, .int p2] h (f_X1_letSee h 3 p1 p2) :=
  csim_of (by decide +kernel) rfl (Nat.le_of_ble_eq_true rfl) (ls := [.ref 3, .int p1, .int p2]) rfl (by
    unfold f_X1_letSee
    exact s_run (M := mX1_letSee) [(.aload_n 0, 1, (0, 0), 0), (.iload_n 2, 1, (0, 0), 0)] (ls' := [.ref 3, .int p1, .int p2]) (st' := [.int p2, .ref 3]) (h' := h) (by decide +kernel) rfl (pc' := 2) rfl (s_cVZ ckX1_letSee_84 [.int p2] 3 (st := []) rfl rfl rfl (by decide) (Nat.le_of_ble_eq_true rfl) (by decide +kernel) (c_X1_isMatter_3 _ _) (fun r1 => s_bif_eq (M := mX1_letSee) (off := 15) (tgt := 20) (by decide +kernel) (by decide +kernel) (fun _ => s_run (M := mX1_letSee) [(.aload_n 0, 1, (0, 0), 0), (.getfield 9, 3, (1, 6), 0), (.iload_n 2, 1, (0, 0), 0), (.dup2, 1, (0, 0), 0)] (ls' := [.ref 3, .int p1, .int p2]) (st' := [.int p2, .ref 4, .int p2, .ref 4]) (h' := h) (by decide +kernel) rfl (pc' := 14) rfl (s_iald (M := mX1_letSee) (n := 4) (by decide +kernel) (by decide) (fun r2 => s_run (M := mX1_letSee) [(.iconst 1, 1, (0, 0), 1), (.iload_n 1, 1, (0, 0), 0), (.ishl, 1, (0, 0), 0), (.ior, 1, (0, 0), 0)] (ls' := [.ref 3, .int p1, .int p2]) (st' := [.int (r2 ||| (1 <<< (p1 &&& 31))), .int p2, .ref 4]) (h' := h) (by decide +kernel) rfl (pc' := 19) rfl (s_iast (M := mX1_letSee) (n := 4) (by decide +kernel) (by decide) (fun h3 => s_retV (M := mX1_letSee) (by decide +kernel) rfl))))) (fun _ => s_retV (M := mX1_letSee) (by decide +kernel) rfl))))
set_option maxRecDepth 20000 in
set_option maxHeartbeats 4000000 in
theorem c_J6_bitCount_0f7a4 (h : HS) (p0 : Int32) : CSim mJ6_bitCount_0f7a4 (cI_ h) [.int p0] h (f_J6_bitCount_0f7a4 h p0) :=
  csim_of (by decide +kernel) rfl (Nat.le_of_ble_eq_true rfl) (ls := [.int p0]) rfl (by
    unfold f_J6_bitCount_0f7a4
    exact s_run (M := mJ6_bitCount_0f7a4) [(.iload_n 0, 1, (0, 0), 0), (.iload_n 0, 1, (0, 0), 0), (.iconst 1, 1, (0, 0), 1), (.iushr, 1, (0, 0), 0)] (ls' := [.int p0]) (st' := [.int (((p0).toUInt32 >>> ((1 : Int32).toUInt32 &&& Int32.toUInt32 31)).toInt32), .int p0]) (h' := h) (by decide +kernel) rfl (pc' := 4) rfl (s_ldcw (M := mJ6_bitCount_0f7a4) (idx := 265) (v := 1431655765) 337 (by decide +kernel) (by decide +kernel) (s_run (M := mJ6_bitCount_0f7a4) [(.iand, 1, (0, 0), 0), (.isub, 1, (0, 0), 0), (.istore_n 0, 1, (0, 0), 0)] (ls' := [.int (p0 - ((((p0).toUInt32 >>> ((1 : Int32).toUInt32 &&& Int32.toUInt32 31)).toInt32) &&& 1431655765))]) (st' := []) (h' := h) (by decide +kernel) rfl (pc' := 10) rfl (s_lt ((p0 - ((((p0).toUInt32 >>> ((1 : Int32).toUInt32 &&& Int32.toUInt32 31)).toInt32) &&& 1431655765)) : Int32) (fun v1 => [.int v1]) (fun _ => []) (fun _ => h) (fun v1 => s_run (M := mJ6_bitCount_0f7a4) [(.iload_n 0, 1, (0, 0), 0)] (ls' := [.int v1]) (st' := [.int v1]) (h' := h) (by decide +kernel) rfl (pc' := 11) rfl (s_ldcw (M := mJ6_bitCount_0f7a4) (idx := 266) (v := 858993459) 338 (by decide +kernel) (by decide +kernel) (s_run (M := mJ6_bitCount_0f7a4) [(.iand, 1, (0, 0), 0), (.iload_n 0, 1, (0, 0), 0), (.iconst 2, 1, (0, 0), 2), (.iushr, 1, (0, 0), 0)] (ls' := [.int v1]) (st' := [.int (((v1).toUInt32 >>> ((2 : Int32).toUInt32 &&& Int32.toUInt32 31)).toInt32), .int (v1 &&& 858993459)]) (h' := h) (by decide +kernel) rfl (pc' := 18) rfl (s_ldcw (M := mJ6_bitCount_0f7a4) (idx := 266) (v := 858993459) 338 (by decide +kernel) (by decide +kernel) (s_run (M := mJ6_bitCount_0f7a4) [(.iand, 1, (0, 0), 0), (.iadd, 1, (0, 0), 0), (.istore_n 0, 1, (0, 0), 0)] (ls' := [.int ((v1 &&& 858993459) + ((((v1).toUInt32 >>> ((2 : Int32).toUInt32 &&& Int32.toUInt32 31)).toInt32) &&& 858993459))]) (st' := []) (h' := h) (by decide +kernel) rfl (pc' := 24) rfl (s_lt (((v1 &&& 858993459) + ((((v1).toUInt32 >>> ((2 : Int32).toUInt32 &&& Int32.toUInt32 31)).toInt32) &&& 858993459)) : Int32) (fun v2 => [.int v2]) (fun _ => []) (fun _ => h) (fun v2 => s_run (M := mJ6_bitCount_0f7a4) [(.iload_n 0, 1, (0, 0), 0), (.iload_n 0, 1, (0, 0), 0), (.iconst 4, 1, (0, 0), 4), (.iushr, 1, (0, 0), 0), (.iadd, 1, (0, 0), 0)] (ls' := [.int v2]) (st' := [.int (v2 + (((v2).toUInt32 >>> ((4 : Int32).toUInt32 &&& Int32.toUInt32 31)).toInt32))]) (h' := h) (by decide +kernel) rfl (pc' := 29) rfl (s_ldcw (M := mJ6_bitCount_0f7a4) (idx := 267) (v := 252645135) 339 (by decide +kernel) (by decide +kernel) (s_run (M := mJ6_bitCount_0f7a4) [(.iand, 1, (0, 0), 0), (.istore_n 0, 1, (0, 0), 0)] (ls' := [.int ((v2 + (((v2).toUInt32 >>> ((4 : Int32).toUInt32 &&& Int32.toUInt32 31)).toInt32)) &&& 252645135)]) (st' := []) (h' := h) (by decide +kernel) rfl (pc' := 34) rfl (s_lt (((v2 + (((v2).toUInt32 >>> ((4 : Int32).toUInt32 &&& Int32.toUInt32 31)).toInt32)) &&& 252645135) : Int32) (fun v3 => [.int v3]) (fun _ => []) (fun _ => h) (fun v3 => s_run (M := mJ6_bitCount_0f7a4) [(.iload_n 0, 1, (0, 0), 0), (.iload_n 0, 1, (0, 0), 0), (.bipush 8, 2, (0, 0), 8), (.iushr, 1, (0, 0), 0), (.iadd, 1, (0, 0), 0), (.istore_n 0, 1, (0, 0), 0)] (ls' := [.int (v3 + (((v3).toUInt32 >>> ((8 : Int32).toUInt32 &&& Int32.toUInt32 31)).toInt32))]) (st' := []) (h' := h) (by decide +kernel) rfl (pc' := 41) rfl (s_lt ((v3 + (((v3).toUInt32 >>> ((8 : Int32).toUInt32 &&& Int32.toUInt32 31)).toInt32)) : Int32) (fun v4 => [.int v4]) (fun _ => []) (fun _ => h) (fun v4 => s_run (M := mJ6_bitCount_0f7a4) [(.iload_n 0, 1, (0, 0), 0), (.iload_n 0, 1, (0, 0), 0), (.bipush 16, 2, (0, 0), 16), (.iushr, 1, (0, 0), 0), (.iadd, 1, (0, 0), 0), (.istore_n 0, 1, (0, 0), 0)] (ls' := [.int (v4 + (((v4).toUInt32 >>> ((16 : Int32).toUInt32 &&& Int32.toUInt32 31)).toInt32))]) (st' := []) (h' := h) (by decide +kernel) rfl (pc' := 48) rfl (s_lt ((v4 + (((v4).toUInt32 >>> ((16 : Int32).toUInt32 &&& Int32.toUInt32 31)).toInt32)) : Int32) (fun v5 => [.int v5]) (fun _ => []) (fun _ => h) (fun v5 => s_run (M := mJ6_bitCount_0f7a4) [(.iload_n 0, 1, (0, 0), 0), (.bipush 63, 2, (0, 0), 63), (.iand, 1, (0, 0), 0)] (ls' := [.int v5]) (st' := [.int (v5 &&& 63)]) (h' := h) (by decide +kernel) rfl (pc' := 52) rfl (s_retI (M := mJ6_bitCount_0f7a4) (by decide +kernel) rfl))))))))))))))))))))
theorem ckX1_isCouple_78 : ckV mX1_isCouple mX1_isPerson 78 1 220 221 222 38 223 = true := by decide +kernel
theorem ckX1_isCouple_97 : ckV mX1_isCouple mX1_seersOf 97 2 316 302 303 38 304 = true := by decide +kernel
set_option maxRecDepth 20000 in
set_option maxHeartbeats 4000000 in
theorem c_X1_isCouple_3 (h : HS) (p1 : Int32) (p2 : Int32) (p3 : Int32) : CSim mX1_isCouple (cZ_ h) [.ref 3, .int p1, .int p2, .int p3] h (f_X1_isCouple h 3 p1 p2 p3) :=
  csim_of (by decide +kernel) rfl (Nat.le_of_ble_eq_true rfl) (ls := [.ref 3, .int p1, .int p2, .int p3]) rfl (by
    unfold f_X1_isCouple
    exact s_run (M := mX1_isCouple) [(.iload_n 1, 1, (0, 0), 0), (.iload_n 2, 1, (0, 0), 0)] (ls' := [.ref 3, .int p1, .int p2, .int p3]) (st' := [.int p2, .int p1]) (h' := h) (by decide +kernel) rfl (pc' := 2) rfl (s_icmp_eq (M := mX1_isCouple) (off := 51) (tgt := 53) (by decide +kernel) (by decide +kernel) (fun _ => s_run (M := mX1_isCouple) [(.iconst 0, 1, (0, 0), 0)] (ls' := [.ref 3, .int p1, .int p2, .int p3]) (st' := [.int 0]) (h' := h) (by decide +kernel) rfl (pc' := 54) rfl (s_retZ (M := mX1_isCouple) (v := false) (by decide +kernel) rfl)) (fun _ => s_run (M := mX1_isCouple) [(.aload_n 0, 1, (0, 0), 0), (.iload_n 1, 1, (0, 0), 0)] (ls' := [.ref 3, .int p1, .int p2, .int p3]) (st' := [.int p1, .ref 3]) (h' := h) (by decide +kernel) rfl (pc' := 7) rfl (s_cVZ ckX1_isCouple_78 [.int p1] 3 (st := []) rfl rfl rfl (by decide) (Nat.le_of_ble_eq_true rfl) (by decide +kernel) (c_X1_isPerson_3 _ _) (fun r1 => s_bif_eq (M := mX1_isCouple) (off := 43) (tgt := 53) (by decide +kernel) (by decide +kernel) (fun _ => s_run (M := mX1_isCouple) [(.aload_n 0, 1, (0, 0), 0), (.iload_n 2, 1, (0, 0), 0)] (ls' := [.ref 3, .int p1, .int p2, .int p3]) (st' := [.int p2, .ref 3]) (h' := h) (by decide +kernel) rfl (pc' := 15) rfl (s_cVZ ckX1_isCouple_78 [.int p2] 3 (st := []) rfl rfl rfl (by decide) (Nat.le_of_ble_eq_true rfl) (by decide +kernel) (c_X1_isPerson_3 _ _) (fun r2 => s_bif_eq (M := mX1_isCouple) (off := 35) (tgt := 53) (by decide +kernel) (by decide +kernel) (fun _ => s_run (M := mX1_isCouple) [(.aload_n 0, 1, (0, 0), 0), (.iload_n 3, 1, (0, 0), 0), (.iconst 0, 1, (0, 0), 0)] (ls' := [.ref 3, .int p1, .int p2, .int p3]) (st' := [.int 0, .int p3, .ref 3]) (h' := h) (by decide +kernel) rfl (pc' := 24) rfl (s_cVI ckX1_isCouple_97 [.int p3, .int 0] 3 (st := []) rfl rfl rfl (by decide) (Nat.le_of_ble_eq_true rfl) (by decide +kernel) (c_X1_seersOf_3 _ _ _) (fun r3 => s_run (M := mX1_isCouple) [(.iload_n 1, 1, (0, 0), 0), (.ishr, 1, (0, 0), 0), (.iconst 1, 1, (0, 0), 1), (.iand, 1, (0, 0), 0), (.iconst 1, 1, (0, 0), 1)] (ls' := [.ref 3, .int p1, .int p2, .int p3]) (st' := [.int 1, .int ((r3 >>> (p1 &&& 31)) &&& 1)]) (h' := h) (by decide +kernel) rfl (pc' := 32) rfl (s_icmp_ne (M := mX1_isCouple) (off := 21) (tgt := 53) (by decide +kernel) (by decide +kernel) (fun _ => s_run (M := mX1_isCouple) [(.aload_n 0, 1, (0, 0), 0), (.iload_n 3, 1, (0, 0), 0), (.iconst 1, 1, (0, 0), 1)] (ls' := [.ref 3, .int p1, .int p2, .int p3]) (st' := [.int 1, .int p3, .ref 3]) (h' := h) (by decide +kernel) rfl (pc' := 38) rfl (s_cVI ckX1_isCouple_97 [.int p3, .int 1] 3 (st := []) rfl rfl rfl (by decide) (Nat.le_of_ble_eq_true rfl) (by decide +kernel) (c_X1_seersOf_3 _ _ _) (fun r4 => s_run (M := mX1_isCouple) [(.iload_n 2, 1, (0, 0), 0), (.ishr, 1, (0, 0), 0), (.iconst 1, 1, (0, 0), 1), (.iand, 1, (0, 0), 0), (.iconst 1, 1, (0, 0), 1)] (ls' := [.ref 3, .int p1, .int p2, .int p3]) (st' := [.int 1, .int ((r4 >>> (p2 &&& 31)) &&& 1)]) (h' := h) (by decide +kernel) rfl (pc' := 46) rfl (s_icmp_ne (M := mX1_isCouple) (off := 7) (tgt := 53) (by decide +kernel) (by decide +kernel) (fun _ => s_run (M := mX1_isCouple) [(.iconst 1, 1, (0, 0), 1), (.goto 4, 3, (54, 0), 0)] (ls' := [.ref 3, .int p1, .int p2, .int p3]) (st' := [.int 1]) (h' := h) (by decide +kernel) rfl (pc' := 54) rfl (s_retZ (M := mX1_isCouple) (v := true) (by decide +kernel) rfl)) (fun _ => s_run (M := mX1_isCouple) [(.iconst 0, 1, (0, 0), 0)] (ls' := [.ref 3, .int p1, .int p2, .int p3]) (st' := [.int 0]) (h' := h) (by decide +kernel) rfl (pc' := 54) rfl (s_retZ (M := mX1_isCouple) (v := false) (by decide +kernel) rfl)))))) (fun _ => s_run (M := mX1_isCouple) [(.iconst 0, 1, (0, 0), 0)] (ls' := [.ref 3, .int p1, .int p2, .int p3]) (st' := [.int 0]) (h' := h) (by decide +kernel) rfl (pc' := 54) rfl (s_retZ (M := mX1_isCouple) (v := false) (by decide +kernel) rfl)))))) (fun _ => s_run (M := mX1_isCouple) [(.iconst 0, 1, (0, 0), 0)] (ls' := [.ref 3, .int p1, .int p2, .int p3]) (st' := [.int 0]) (h' := h) (by decide +kernel) rfl (pc' := 54) rfl (s_retZ (M := mX1_isCouple) (v := false) (by decide +kernel) rfl))))) (fun _ => s_run (M := mX1_isCouple) [(.iconst 0, 1, (0, 0), 0)] (ls' := [.ref 3, .int p1, .int p2, .int p3]) (st' := [.int 0]) (h' := h) (by decide +kernel) rfl (pc' := 54) rfl (s_retZ (M := mX1_isCouple) (v := false) (by decide +kernel) rfl)))))))
theorem ckX1_canLearn_84 : ckV mX1_canLearn mX1_isMatter 84 1 224 225 226 38 227 = true := by decide +kernel
theorem ckX1_canLearn_87 : ckV mX1_canLearn mX1_knownAs 87 1 348 298 299 38 300 = true := by decide +kernel
theorem ckX1_canLearn_107 : ckV mX1_canLearn mX1_isCouple 107 3 349 350 351 38 352 = true := by decide +kernel
set_option maxRecDepth 20000 in
set_option maxHeartbeats 4000000 in
theorem c_X1_canLearn_3 (h : HS) (p1 : Int32) (p2 : Int32) (p3 : Int32) : CSim mX1_canLearn (cZ_ h) [.ref 3, .int p1, .int p2, .int p3] h (f_X1_canLearn h 3 p1 p2 p3) :=
  csim_of (by decide +kernel) rfl (Nat.le_of_ble_eq_true rfl) (ls := [.ref 3, .int p1, .int p2, .int p3]) rfl (by
    unfold f_X1_canLearn
    exact s_run (M := mX1_canLearn) [(.aload_n 0, 1, (0, 0), 0), (.iload_n 3, 1, (0, 0), 0)] (ls' := [.ref 3, .int p1, .int p2, .int p3]) (st' := [.int p3, .ref 3]) (h' := h) (by decide +kernel) rfl (pc' := 2) rfl (s_cVZ ckX1_canLearn_84 [.int p3] 3 (st := []) rfl rfl rfl (by decide) (Nat.le_of_ble_eq_true rfl) (by decide +kernel) (c_X1_isMatter_3 _ _) (fun r1 => s_bif_eq (M := mX1_canLearn) (off := 27) (tgt := 32) (by decide +kernel) (by decide +kernel) (fun _ => s_run (M := mX1_canLearn) [(.aload_n 0, 1, (0, 0), 0), (.iload_n 3, 1, (0, 0), 0)] (ls' := [.ref 3, .int p1, .int p2, .int p3]) (st' := [.int p3, .ref 3]) (h' := h) (by decide +kernel) rfl (pc' := 10) rfl (s_cVI ckX1_canLearn_87 [.int p3] 3 (st := []) rfl rfl rfl (by decide) (Nat.le_of_ble_eq_true rfl) (by decide +kernel) (c_X1_knownAs_3 _ _) (fun r2 => s_run (M := mX1_canLearn) [(.bipush (-9), 2, (0, 0), (-9))] (ls' := [.ref 3, .int p1, .int p2, .int p3]) (st' := [.int (-9), .int r2]) (h' := h) (by decide +kernel) rfl (pc' := 15) rfl (s_icmp_ne (M := mX1_canLearn) (off := 17) (tgt := 32) (by decide +kernel) (by decide +kernel) (fun _ => s_run (M := mX1_canLearn) [(.aload_n 0, 1, (0, 0), 0), (.iload_n 1, 1, (0, 0), 0), (.iload_n 2, 1, (0, 0), 0), (.iload_n 3, 1, (0, 0), 0)] (ls' := [.ref 3, .int p1, .int p2, .int p3]) (st' := [.int p3, .int p2, .int p1, .ref 3]) (h' := h) (by decide +kernel) rfl (pc' := 22) rfl (s_cVZ ckX1_canLearn_107 [.int p1, .int p2, .int p3] 3 (st := []) rfl rfl rfl (by decide) (Nat.le_of_ble_eq_true rfl) (by decide +kernel) (c_X1_isCouple_3 _ _ _ _) (fun r3 => s_bif_eq (M := mX1_canLearn) (off := 7) (tgt := 32) (by decide +kernel) (by decide +kernel) (fun _ => s_run (M := mX1_canLearn) [(.iconst 1, 1, (0, 0), 1), (.goto 4, 3, (33, 0), 0)] (ls' := [.ref 3, .int p1, .int p2, .int p3]) (st' := [.int 1]) (h' := h) (by decide +kernel) rfl (pc' := 33) rfl (s_retZ (M := mX1_canLearn) (v := true) (by decide +kernel) rfl)) (fun _ => s_run (M := mX1_canLearn) [(.iconst 0, 1, (0, 0), 0)] (ls' := [.ref 3, .int p1, .int p2, .int p3]) (st' := [.int 0]) (h' := h) (by decide +kernel) rfl (pc' := 33) rfl (s_retZ (M := mX1_canLearn) (v := false) (by decide +kernel) rfl))))) (fun _ => s_run (M := mX1_canLearn) [(.iconst 0, 1, (0, 0), 0)] (ls' := [.ref 3, .int p1, .int p2, .int p3]) (st' := [.int 0]) (h' := h) (by decide +kernel) rfl (pc' := 33) rfl (s_retZ (M := mX1_canLearn) (v := false) (by decide +kernel) rfl)))))) (fun _ => s_run (M := mX1_canLearn) [(.iconst 0, 1, (0, 0), 0)] (ls' := [.ref 3, .int p1, .int p2, .int p3]) (st' := [.int 0]) (h' := h) (by decide +kernel) rfl (pc' := 33) rfl (s_retZ (M := mX1_canLearn) (v := false) (by decide +kernel) rfl)))))
theorem ckX1_toldBy_103 : ckV mX1_toldBy mX1_saidBy 103 3 357 313 314 38 315 = true := by decide +kernel
set_option maxRecDepth 20000 in
set_option maxHeartbeats 4000000 in
theorem c_X1_toldBy_3 (h : HS) (p1 : Int32) (p2 : Int32) (p3 : Int32) : CSim mX1_toldBy (cI_ h) [.ref 3, .int p1, .int p2, .int p3] h (f_X1_toldBy h 3 p1 p2 p3) :=
  csim_of (by decide +kernel) rfl (Nat.le_of_ble_eq_true rfl) (ls := [.ref 3, .int p1, .int p2, .int p3]) rfl (by
    unfold f_X1_toldBy
    exact s_run (M := mX1_toldBy) [(.bipush 10, 2, (0, 0), 10), (.aload_n 0, 1, (0, 0), 0), (.iload_n 1, 1, (0, 0), 0), (.iload_n 3, 1, (0, 0), 0), (.iconst 0, 1, (0, 0), 0)] (ls' := [.ref 3, .int p1, .int p2, .int p3]) (st' := [.int 0, .int p3, .int p1, .ref 3, .int 10]) (h' := h) (by decide +kernel) rfl (pc' := 6) rfl (s_cVI ckX1_toldBy_103 [.int p1, .int p3, .int 0] 3 (st := [.int 10]) rfl rfl rfl (by decide) (Nat.le_of_ble_eq_true rfl) (by decide +kernel) (c_X1_saidBy_3 _ _ _ _) (fun r1 => s_run (M := mX1_toldBy) [(.imul, 1, (0, 0), 0), (.aload_n 0, 1, (0, 0), 0), (.iload_n 2, 1, (0, 0), 0), (.iload_n 3, 1, (0, 0), 0), (.iconst 1, 1, (0, 0), 1)] (ls' := [.ref 3, .int p1, .int p2, .int p3]) (st' := [.int 1, .int p3, .int p2, .ref 3, .int (10 * r1)]) (h' := h) (by decide +kernel) rfl (pc' := 14) rfl (s_cVI ckX1_toldBy_103 [.int p2, .int p3, .int 1] 3 (st := [.int (10 * r1)]) rfl rfl rfl (by decide) (Nat.le_of_ble_eq_true rfl) (by decide +kernel) (c_X1_saidBy_3 _ _ _ _) (fun r2 => s_run (M := mX1_toldBy) [(.iadd, 1, (0, 0), 0)] (ls' := [.ref 3, .int p1, .int p2, .int p3]) (st' := [.int ((10 * r1) + r2)]) (h' := h) (by decide +kernel) rfl (pc' := 18) rfl (s_retI (M := mX1_toldBy) (by decide +kernel) rfl))))))
theorem ckX1_setKnown_84 : ckV mX1_setKnown mX1_isMatter 84 1 224 225 226 38 227 = true := by decide +kernel
set_option maxRecDepth 20000 in
set_option maxHeartbeats 4000000 in
theorem c_X1_setKnown_3 (h : HS) (p1 : Int32) (p2 : Int32) : CSim mX1_setKnown cV_ [.ref 3, .int p1, .int p2] h (f_X1_setKnown h 3 p1 p2) :=
  csim_of (by decide +kernel) rfl (Nat.le_of_ble_eq_true rfl) (ls := [.ref 3, .int p1, .int p2]) rfl (by
    unfold f_X1_setKnown
    exact s_run (M := mX1_setKnown) [(.aload_n 0, 1, (0, 0), 0), (.iload_n 1, 1, (0, 0), 0)] (ls' := [.ref 3, .int p1, .int p2]) (st' := [.int p1, .ref 3]) (h' := h) (by decide +kernel) rfl (pc' := 2) rfl (s_cVZ ckX1_setKnown_84 [.int p1] 3 (st := []) rfl rfl rfl (by decide) (Nat.le_of_ble_eq_true rfl) (by decide +kernel) (c_X1_isMatter_3 _ _) (fun r1 => s_bif_eq (M := mX1_setKnown) (off := 10) (tgt := 15) (by decide +kernel) (by decide +kernel) (fun _ => s_run (M := mX1_setKnown) [(.aload_n 0, 1, (0, 0), 0), (.getfield 21, 3, (1, 9), 0), (.iload_n 1, 1, (0, 0), 0), (.iload_n 2, 1, (0, 0), 0)] (ls' := [.ref 3, .int p1, .int p2]) (st' := [.int p2, .int p1, .ref 7]) (h' := h) (by decide +kernel) rfl (pc' := 14) rfl (s_iast (M := mX1_setKnown) (n := 4) (by decide +kernel) (by decide) (fun h2 => s_retV (M := mX1_setKnown) (by decide +kernel) rfl))) (fun _ => s_retV (M := mX1_setKnown) (by decide +kernel) rfl))))
theorem ckX1_canLoseGlass_78 : ckV mX1_canLoseGlass mX1_isPerson 78 1 220 221 222 38 223 = true := by decide +kernel
theorem ckX1_canLoseGlass_100 : ckV mX1_canLoseGlass mX1_kindOf 100 1 318 273 274 38 275 = true := by decide +kernel
set_option maxRecDepth 20000 in
set_option maxHeartbeats 4000000 in
theorem c_X1_canLoseGlass_3 (h : HS) (p1 : Int32) : CSim mX1_canLoseGlass (cZ_ h) [.ref 3, .int p1] h (f_X1_canLoseGlass h 3 p1) :=
  csim_of (by decide +kernel) rfl (Nat.le_of_ble_eq_true rfl) (ls := [.ref 3, .int p1]) rfl (by
    unfold f_X1_canLoseGlass
    exact s_run (M := mX1_canLoseGlass) [(.aload_n 0, 1, (0, 0), 0), (.iload_n 1, 1, (0, 0), 0)] (ls' := [.ref 3, .int p1]) (st' := [.int p1, .ref 3]) (h' := h) (by decide +kernel) rfl (pc' := 2) rfl (s_cVZ ckX1_canLoseGlass_78 [.int p1] 3 (st := []) rfl rfl rfl (by decide) (Nat.le_of_ble_eq_true rfl) (by decide +kernel) (c_X1_isPerson_3 _ _) (fun r1 => s_bif_eq (M := mX1_canLoseGlass) (off := 16) (tgt := 21) (by decide +kernel) (by decide +kernel) (fun _ => s_run (M := mX1_canLoseGlass) [(.aload_n 0, 1, (0, 0), 0), (.iload_n 1, 1, (0, 0), 0)] (ls' := [.ref 3, .int p1]) (st' := [.int p1, .ref 3]) (h' := h) (by decide +kernel) rfl (pc' := 10) rfl (s_cVI ckX1_canLoseGlass_100 [.int p1] 3 (st := []) rfl rfl rfl (by decide) (Nat.le_of_ble_eq_true rfl) (by decide +kernel) (c_X1_kindOf_3 _ _) (fun r2 => s_run (M := mX1_canLoseGlass) [(.iconst 3, 1, (0, 0), 3)] (ls' := [.ref 3, .int p1]) (st' := [.int 3, .int r2]) (h' := h) (by decide +kernel) rfl (pc' := 14) rfl (s_icmp_eq (M := mX1_canLoseGlass) (off := 7) (tgt := 21) (by decide +kernel) (by decide +kernel) (fun _ => s_run (M := mX1_canLoseGlass) [(.iconst 0, 1, (0, 0), 0)] (ls' := [.ref 3, .int p1]) (st' := [.int 0]) (h' := h) (by decide +kernel) rfl (pc' := 22) rfl (s_retZ (M := mX1_canLoseGlass) (v := false) (by decide +kernel) rfl)) (fun _ => s_run (M := mX1_canLoseGlass) [(.iconst 1, 1, (0, 0), 1), (.goto 4, 3, (22, 0), 0)] (ls' := [.ref 3, .int p1]) (st' := [.int 1]) (h' := h) (by decide +kernel) rfl (pc' := 22) rfl (s_retZ (M := mX1_canLoseGlass) (v := true) (by decide +kernel) rfl)))))) (fun _ => s_run (M := mX1_canLoseGlass) [(.iconst 0, 1, (0, 0), 0)] (ls' := [.ref 3, .int p1]) (st' := [.int 0]) (h' := h) (by decide +kernel) rfl (pc' := 22) rfl (s_retZ (M := mX1_canLoseGlass) (v := false) (by decide +kernel) rfl)))))
theorem ckX1_fine_78 : ckV mX1_fine mX1_isPerson 78 1 220 221 222 38 223 = true := by decide +kernel
set_option maxRecDepth 20000 in
set_option maxHeartbeats 4000000 in
theorem c_X1_fine_3 (h : HS) (p1 : Int32) (p2 : Int32) : CSim mX1_fine cV_ [.ref 3, .int p1, .int p2] h (f_X1_fine h 3 p1 p2) :=
  csim_of (by decide +kernel) rfl (Nat.le_of_ble_eq_true rfl) (ls := [.ref 3, .int p1, .int p2]) rfl (by
    unfold f_X1_fine
    exact s_run (M := mX1_fine) [(.aload_n 0, 1, (0, 0), 0), (.iload_n 1, 1, (0, 0), 0)] (ls' := [.ref 3, .int p1, .int p2]) (st' := [.int p1, .ref 3]) (h' := h) (by decide +kernel) rfl (pc' := 2) rfl (s_cVZ ckX1_fine_78 [.int p1] 3 (st := []) rfl rfl rfl (by decide) (Nat.le_of_ble_eq_true rfl) (by decide +kernel) (c_X1_isPerson_3 _ _) (fun r1 => s_bif_eq (M := mX1_fine) (off := 13) (tgt := 18) (by decide +kernel) (by decide +kernel) (fun _ => s_run (M := mX1_fine) [(.aload_n 0, 1, (0, 0), 0), (.getfield 24, 3, (1, 10), 0), (.iload_n 1, 1, (0, 0), 0), (.dup2, 1, (0, 0), 0)] (ls' := [.ref 3, .int p1, .int p2]) (st' := [.int p1, .ref 8, .int p1, .ref 8]) (h' := h) (by decide +kernel) rfl (pc' := 14) rfl (s_iald (M := mX1_fine) (n := 6) (by decide +kernel) (by decide) (fun r2 => s_run (M := mX1_fine) [(.iload_n 2, 1, (0, 0), 0), (.iadd, 1, (0, 0), 0)] (ls' := [.ref 3, .int p1, .int p2]) (st' := [.int (r2 + p2), .int p1, .ref 8]) (h' := h) (by decide +kernel) rfl (pc' := 17) rfl (s_iast (M := mX1_fine) (n := 6) (by decide +kernel) (by decide) (fun h3 => s_retV (M := mX1_fine) (by decide +kernel) rfl))))) (fun _ => s_retV (M := mX1_fine) (by decide +kernel) rfl))))
set_option maxRecDepth 20000 in
set_option maxHeartbeats 4000000 in
theorem c_X1_setKind_3 (h : HS) (p1 : Int32) (p2 : Int32) : CSim mX1_setKind cV_ [.ref 3, .int p1, .int p2] h (f_X1_setKind h 3 p1 p2) :=
  csim_of (by decide +kernel) rfl (Nat.le_of_ble_eq_true rfl) (ls := [.ref 3, .int p1, .int p2]) rfl (by
    unfold f_X1_setKind
    exact s_run (M := mX1_setKind) [(.aload_n 0, 1, (0, 0), 0), (.iload_n 2, 1, (0, 0), 0), (.iconst 1, 1, (0, 0), 1)] (ls' := [.ref 3, .int p1, .int p2]) (st' := [.int 1, .int p2, .ref 3]) (h' := h) (by decide +kernel) rfl (pc' := 3) rfl (s_jn (fun (j2 : Int32 → Option HS) => ∀ (t1 : Int32), Sim none mX1_setKind cV_ 23 [.ref 3, .int p1, .int p2] [.int t1, .ref 3] h (j2 t1)) (fun t1 => s_run (M := mX1_setKind) [(.putfield 37, 3, (1, 3), 0)] (ls' := [.ref 3, .int p1, .int p2]) (st' := []) (h' := (hset h 3 3 t1)) (by decide +kernel) rfl (pc' := 26) rfl (s_lt ((hset h 3 3 t1)) (fun _ => [.ref 3, .int p1, .int p2]) (fun _ => []) (fun h4 => h4) (fun h4 => s_run (M := mX1_setKind) [(.aload_n 0, 1, (0, 0), 0), (.iload_n 2, 1, (0, 0), 0), (.iconst 2, 1, (0, 0), 2)] (ls' := [.ref 3, .int p1, .int p2]) (st' := [.int 2, .int p2, .ref 3]) (h' := h4) (by decide +kernel) rfl (pc' := 29) rfl (s_jn (fun (j6 : Int32 → Option HS) => ∀ (t5 : Int32), Sim none mX1_setKind cV_ 49 [.ref 3, .int p1, .int p2] [.int t5, .ref 3] h4 (j6 t5)) (fun t5 => s_run (M := mX1_setKind) [(.putfield 40, 3, (1, 4), 0)] (ls' := [.ref 3, .int p1, .int p2]) (st' := []) (h' := (hset h4 3 4 t5)) (by decide +kernel) rfl (pc' := 52) rfl (s_lt ((hset h4 3 4 t5)) (fun _ => [.ref 3, .int p1, .int p2]) (fun _ => []) (fun h8 => h8) (fun h8 => s_run (M := mX1_setKind) [(.aload_n 0, 1, (0, 0), 0), (.iload_n 2, 1, (0, 0), 0), (.iconst 3, 1, (0, 0), 3)] (ls' := [.ref 3, .int p1, .int p2]) (st' := [.int 3, .int p2, .ref 3]) (h' := h8) (by decide +kernel) rfl (pc' := 55) rfl (s_jn (fun (j10 : Int32 → Option HS) => ∀ (t9 : Int32), Sim none mX1_setKind cV_ 75 [.null, .null, .null] [.int t9, .ref 3] h8 (j10 t9)) (fun t9 => s_run (M := mX1_setKind) [(.putfield 43, 3, (1, 5), 0)] (ls' := [.null, .null, .null]) (st' := []) (h' := (hset h8 3 5 t9)) (by decide +kernel) rfl (pc' := 78) rfl (s_lt ((hset h8 3 5 t9)) (fun _ => [.null, .null, .null]) (fun _ => []) (fun h12 => h12) (fun h12 => s_retV (M := mX1_setKind) (by decide +kernel) rfl))) (fun j10 J11 => s_icmp_ne (M := mX1_setKind) (off := 12) (tgt := 67) (by decide +kernel) (by decide +kernel) (fun _ => s_run (M := mX1_setKind) [(.aload_n 0, 1, (0, 0), 0), (.getfield 43, 3, (1, 5), 0), (.iload_n 1, 1, (0, 0), 0), (.ior, 1, (0, 0), 0), (.goto 11, 3, (75, 0), 0)] (ls' := [.ref 3, .int p1, .int p2]) (st' := [.int ((h8.1 3 5) ||| p1), .ref 3]) (h' := h8) (by decide +kernel) rfl (pc' := 75) rfl (s_wk (ls' := [.null, .null, .null]) ⟨Or.inl rfl, Or.inl rfl, Or.inl rfl, trivial⟩ (J11 ((h8.1 3 5) ||| p1)))) (fun _ => s_run (M := mX1_setKind) [(.aload_n 0, 1, (0, 0), 0), (.getfield 43, 3, (1, 5), 0), (.iload_n 1, 1, (0, 0), 0), (.iconst (-1), 1, (0, 0), (-1)), (.ixor, 1, (0, 0), 0), (.iand, 1, (0, 0), 0)] (ls' := [.ref 3, .int p1, .int p2]) (st' := [.int ((h8.1 3 5) &&& (p1 ^^^ (-1))), .ref 3]) (h' := h8) (by decide +kernel) rfl (pc' := 75) rfl (s_wk (ls' := [.null, .null, .null]) ⟨Or.inl rfl, Or.inl rfl, Or.inl rfl, trivial⟩ (J11 ((h8.1 3 5) &&& (p1 ^^^ (-1))))))))))) (fun j6 J7 => s_icmp_ne (M := mX1_setKind) (off := 12) (tgt := 41) (by decide +kernel) (by decide +kernel) (fun _ => s_run (M := mX1_setKind) [(.aload_n 0, 1, (0, 0), 0), (.getfield 40, 3, (1, 4), 0), (.iload_n 1, 1, (0, 0), 0), (.ior, 1, (0, 0), 0), (.goto 11, 3, (49, 0), 0)] (ls' := [.ref 3, .int p1, .int p2]) (st' := [.int ((h4.1 3 4) ||| p1), .ref 3]) (h' := h4) (by decide +kernel) rfl (pc' := 49) rfl (J7 ((h4.1 3 4) ||| p1))) (fun _ => s_run (M := mX1_setKind) [(.aload_n 0, 1, (0, 0), 0), (.getfield 40, 3, (1, 4), 0), (.iload_n 1, 1, (0, 0), 0), (.iconst (-1), 1, (0, 0), (-1)), (.ixor, 1, (0, 0), 0), (.iand, 1, (0, 0), 0)] (ls' := [.ref 3, .int p1, .int p2]) (st' := [.int ((h4.1 3 4) &&& (p1 ^^^ (-1))), .ref 3]) (h' := h4) (by decide +kernel) rfl (pc' := 49) rfl (J7 ((h4.1 3 4) &&& (p1 ^^^ (-1)))))))))) (fun j2 J3 => s_icmp_ne (M := mX1_setKind) (off := 12) (tgt := 15) (by decide +kernel) (by decide +kernel) (fun _ => s_run (M := mX1_setKind) [(.aload_n 0, 1, (0, 0), 0), (.getfield 37, 3, (1, 3), 0), (.iload_n 1, 1, (0, 0), 0), (.ior, 1, (0, 0), 0), (.goto 11, 3, (23, 0), 0)] (ls' := [.ref 3, .int p1, .int p2]) (st' := [.int ((h.1 3 3) ||| p1), .ref 3]) (h' := h) (by decide +kernel) rfl (pc' := 23) rfl (J3 ((h.1 3 3) ||| p1))) (fun _ => s_run (M := mX1_setKind) [(.aload_n 0, 1, (0, 0), 0), (.getfield 37, 3, (1, 3), 0), (.iload_n 1, 1, (0, 0), 0), (.iconst (-1), 1, (0, 0), (-1)), (.ixor, 1, (0, 0), 0), (.iand, 1, (0, 0), 0)] (ls' := [.ref 3, .int p1, .int p2]) (st' := [.int ((h.1 3 3) &&& (p1 ^^^ (-1))), .ref 3]) (h' := h) (by decide +kernel) rfl (pc' := 23) rfl (J3 ((h.1 3 3) &&& (p1 ^^^ (-1))))))))
theorem ckX1_loseGlass_100 : ckV mX1_loseGlass mX1_kindOf 100 1 318 273 274 38 275 = true := by decide +kernel
theorem ckX1_loseGlass_122 : ckV mX1_loseGlass mX1_fine 122 2 378 379 380 38 381 = true := by decide +kernel
theorem ckX1_loseGlass_71 : ckV mX1_loseGlass mX1_setKind 71 2 243 244 245 38 246 = true := by decide +kernel
set_option maxRecDepth 20000 in
set_option maxHeartbeats 4000000 in
theorem c_X1_loseGlass_3 (h : HS) (p1 : Int32) : CSim mX1_loseGlass cV_ [.ref 3, .int p1] h (f_X1_loseGlass h 3 p1) :=
  csim_of (by decide +kernel) rfl (Nat.le_of_ble_eq_true rfl) (ls := [.ref 3, .int p1, .null]) rfl (by
    unfold f_X1_loseGlass
    exact s_run (M := mX1_loseGlass) [(.iconst 1, 1, (0, 0), 1), (.iload_n 1, 1, (0, 0), 0), (.ishl, 1, (0, 0), 0), (.istore_n 2, 1, (0, 0), 0)] (ls' := [.ref 3, .int p1, .int (1 <<< (p1 &&& 31))]) (st' := []) (h' := h) (by decide +kernel) rfl (pc' := 4) rfl (s_lt ((1 <<< (p1 &&& 31)) : Int32) (fun v1 => [.ref 3, .int p1, .int v1]) (fun _ => []) (fun _ => h) (fun v1 => s_run (M := mX1_loseGlass) [(.aload_n 0, 1, (0, 0), 0), (.iload_n 1, 1, (0, 0), 0)] (ls' := [.ref 3, .int p1, .int v1]) (st' := [.int p1, .ref 3]) (h' := h) (by decide +kernel) rfl (pc' := 6) rfl (s_cVI ckX1_loseGlass_100 [.int p1] 3 (st := []) rfl rfl rfl (by decide) (Nat.le_of_ble_eq_true rfl) (by decide +kernel) (c_X1_kindOf_3 _ _) (fun r2 => s_run (M := mX1_loseGlass) [(.iconst 2, 1, (0, 0), 2)] (ls' := [.ref 3, .int p1, .int v1]) (st' := [.int 2, .int r2]) (h' := h) (by decide +kernel) rfl (pc' := 10) rfl (s_jn (fun (j4 : HS → Option HS) => ∀ (h3 : HS), Sim none mX1_loseGlass cV_ 32 [.ref 3, .int p1, .null] [] h3 (j4 h3)) (fun h3 => s_run (M := mX1_loseGlass) [(.aload_n 0, 1, (0, 0), 0), (.iload_n 1, 1, (0, 0), 0), (.iconst 1, 1, (0, 0), 1)] (ls' := [.ref 3, .int p1, .null]) (st' := [.int 1, .int p1, .ref 3]) (h' := h3) (by decide +kernel) rfl (pc' := 35) rfl (s_cVV ckX1_loseGlass_122 [.int p1, .int 1] 3 (st := []) rfl rfl rfl (by decide) (Nat.le_of_ble_eq_true rfl) (by decide +kernel) (c_X1_fine_3 _ _ _) (fun h7 => s_retV (M := mX1_loseGlass) (by decide +kernel) rfl))) (fun j4 J5 => s_icmp_ne (M := mX1_loseGlass) (off := 12) (tgt := 22) (by decide +kernel) (by decide +kernel) (fun _ => s_run (M := mX1_loseGlass) [(.aload_n 0, 1, (0, 0), 0), (.iload_n 2, 1, (0, 0), 0), (.iconst 0, 1, (0, 0), 0)] (ls' := [.ref 3, .int p1, .int v1]) (st' := [.int 0, .int v1, .ref 3]) (h' := h) (by decide +kernel) rfl (pc' := 16) rfl (s_cVV ckX1_loseGlass_71 [.int v1, .int 0] 3 (st := []) rfl rfl rfl (by decide) (Nat.le_of_ble_eq_true rfl) (by decide +kernel) (c_X1_setKind_3 _ _ _) (fun h10 => s_run (M := mX1_loseGlass) [(.goto 13, 3, (32, 0), 0)] (ls' := [.ref 3, .int p1, .int v1]) (st' := []) (h' := h10) (by decide +kernel) rfl (pc' := 32) rfl (s_wk (ls' := [.ref 3, .int p1, .null]) ⟨Or.inr rfl, Or.inr rfl, Or.inl rfl, trivial⟩ (J5 h10))))) (fun _ => s_run (M := mX1_loseGlass) [(.aload_n 0, 1, (0, 0), 0), (.dup, 1, (0, 0), 0), (.getfield 34, 3, (1, 2), 0), (.iload_n 2, 1, (0, 0), 0), (.ixor, 1, (0, 0), 0), (.putfield 34, 3, (1, 2), 0)] (ls' := [.ref 3, .int p1, .int v1]) (st' := []) (h' := (hset h 3 2 ((h.1 3 2) ^^^ v1))) (by decide +kernel) rfl (pc' := 32) rfl (s_lt ((hset h 3 2 ((h.1 3 2) ^^^ v1))) (fun _ => [.ref 3, .int p1, .int v1]) (fun _ => []) (fun h8 => h8) (fun h8 => s_wk (ls' := [.ref 3, .int p1, .null]) ⟨Or.inr rfl, Or.inr rfl, Or.inl rfl, trivial⟩ (J5 h8)))))))))))
theorem ckX1_regainGlass_122 : ckV mX1_regainGlass mX1_fine 122 2 378 379 380 38 381 = true := by decide +kernel
theorem ckX1_regainGlass_71 : ckV mX1_regainGlass mX1_setKind 71 2 243 244 245 38 246 = true := by decide +kernel
set_option maxRecDepth 20000 in
set_option maxHeartbeats 4000000 in
theorem c_X1_regainGlass_3 (h : HS) (p1 : Int32) (p2 : Int32) : CSim mX1_regainGlass cV_ [.ref 3, .int p1, .int p2] h (f_X1_regainGlass h 3 p1 p2) :=
  csim_of (by decide +kernel) rfl (Nat.le_of_ble_eq_true rfl) (ls := [.ref 3, .int p1, .int p2, .null]) rfl (by
    unfold f_X1_regainGlass
    exact s_run (M := mX1_regainGlass) [(.iconst 1, 1, (0, 0), 1), (.iload_n 1, 1, (0, 0), 0), (.ishl, 1, (0, 0), 0), (.istore_n 3, 1, (0, 0), 0)] (ls' := [.ref 3, .int p1, .int p2, .int (1 <<< (p1 &&& 31))]) (st' := []) (h' := h) (by decide +kernel) rfl (pc' := 4) rfl (s_lt ((1 <<< (p1 &&& 31)) : Int32) (fun v1 => [.ref 3, .int p1, .int p2, .int v1]) (fun _ => []) (fun _ => h) (fun v1 => s_run (M := mX1_regainGlass) [(.iload_n 2, 1, (0, 0), 0), (.iconst 2, 1, (0, 0), 2)] (ls' := [.ref 3, .int p1, .int p2, .int v1]) (st' := [.int 2, .int p2]) (h' := h) (by decide +kernel) rfl (pc' := 6) rfl (s_jn (fun (j3 : HS → Option HS) => ∀ (h2 : HS), Sim none mX1_regainGlass cV_ 28 [.ref 3, .int p1, .null, .null] [] h2 (j3 h2)) (fun h2 => s_run (M := mX1_regainGlass) [(.aload_n 0, 1, (0, 0), 0), (.iload_n 1, 1, (0, 0), 0), (.iconst (-1), 1, (0, 0), (-1))] (ls' := [.ref 3, .int p1, .null, .null]) (st' := [.int (-1), .int p1, .ref 3]) (h' := h2) (by decide +kernel) rfl (pc' := 31) rfl (s_cVV ckX1_regainGlass_122 [.int p1, .int (-1)] 3 (st := []) rfl rfl rfl (by decide) (Nat.le_of_ble_eq_true rfl) (by decide +kernel) (c_X1_fine_3 _ _ _) (fun h6 => s_retV (M := mX1_regainGlass) (by decide +kernel) rfl))) (fun j3 J4 => s_icmp_ne (M := mX1_regainGlass) (off := 12) (tgt := 18) (by decide +kernel) (by decide +kernel) (fun _ => s_run (M := mX1_regainGlass) [(.aload_n 0, 1, (0, 0), 0), (.iload_n 3, 1, (0, 0), 0), (.iconst 2, 1, (0, 0), 2)] (ls' := [.ref 3, .int p1, .int p2, .int v1]) (st' := [.int 2, .int v1, .ref 3]) (h' := h) (by decide +kernel) rfl (pc' := 12) rfl (s_cVV ckX1_regainGlass_71 [.int v1, .int 2] 3 (st := []) rfl rfl rfl (by decide) (Nat.le_of_ble_eq_true rfl) (by decide +kernel) (c_X1_setKind_3 _ _ _) (fun h9 => s_run (M := mX1_regainGlass) [(.goto 13, 3, (28, 0), 0)] (ls' := [.ref 3, .int p1, .int p2, .int v1]) (st' := []) (h' := h9) (by decide +kernel) rfl (pc' := 28) rfl (s_wk (ls' := [.ref 3, .int p1, .null, .null]) ⟨Or.inr rfl, Or.inr rfl, Or.inl rfl, Or.inl rfl, trivial⟩ (J4 h9))))) (fun _ => s_run (M := mX1_regainGlass) [(.aload_n 0, 1, (0, 0), 0), (.dup, 1, (0, 0), 0), (.getfield 34, 3, (1, 2), 0), (.iload_n 3, 1, (0, 0), 0), (.ixor, 1, (0, 0), 0), (.putfield 34, 3, (1, 2), 0)] (ls' := [.ref 3, .int p1, .int p2, .int v1]) (st' := []) (h' := (hset h 3 2 ((h.1 3 2) ^^^ v1))) (by decide +kernel) rfl (pc' := 28) rfl (s_lt ((hset h 3 2 ((h.1 3 2) ^^^ v1))) (fun _ => [.ref 3, .int p1, .int p2, .int v1]) (fun _ => []) (fun h7 => h7) (fun h7 => s_wk (ls' := [.ref 3, .int p1, .null, .null]) ⟨Or.inr rfl, Or.inr rfl, Or.inl rfl, Or.inl rfl, trivial⟩ (J4 h7)))))))))
theorem ckX1_letUnsee_84 : ckV mX1_letUnsee mX1_isMatter 84 1 224 225 226 38 227 = true := by decide +kernel
set_option maxRecDepth 20000 in
set_option maxHeartbeats 4000000 in
theorem c_X1_letUnsee_3 (h : HS) (p1 : Int32) (p2 : Int32) : CSim mX1_letUnsee cV_ [.ref 3, .int p1, .int p2] h (f_X1_letUnsee h 3 p1 p2) :=
  csim_of (by decide +kernel) rfl (Nat.le_of_ble_eq_true rfl) (ls := [.ref 3, .int p1, .int p2]) rfl (by
    unfold f_X1_letUnsee
    exact s_run (M := mX1_letUnsee) [(.aload_n 0, 1, (0, 0), 0), (.iload_n 2, 1, (0, 0), 0)] (ls' := [.ref 3, .int p1, .int p2]) (st' := [.int p2, .ref 3]) (h' := h) (by decide +kernel) rfl (pc' := 2) rfl (s_cVZ ckX1_letUnsee_84 [.int p2] 3 (st := []) rfl rfl rfl (by decide) (Nat.le_of_ble_eq_true rfl) (by decide +kernel) (c_X1_isMatter_3 _ _) (fun r1 => s_bif_eq (M := mX1_letUnsee) (off := 17) (tgt := 22) (by decide +kernel) (by decide +kernel) (fun _ => s_run (M := mX1_letUnsee) [(.aload_n 0, 1, (0, 0), 0), (.getfield 9, 3, (1, 6), 0), (.iload_n 2, 1, (0, 0), 0), (.dup2, 1, (0, 0), 0)] (ls' := [.ref 3, .int p1, .int p2]) (st' := [.int p2, .ref 4, .int p2, .ref 4]) (h' := h) (by decide +kernel) rfl (pc' := 14) rfl (s_iald (M := mX1_letUnsee) (n := 4) (by decide +kernel) (by decide) (fun r2 => s_run (M := mX1_letUnsee) [(.iconst 1, 1, (0, 0), 1), (.iload_n 1, 1, (0, 0), 0), (.ishl, 1, (0, 0), 0), (.iconst (-1), 1, (0, 0), (-1)), (.ixor, 1, (0, 0), 0), (.iand, 1, (0, 0), 0)] (ls' := [.ref 3, .int p1, .int p2]) (st' := [.int (r2 &&& ((1 <<< (p1 &&& 31)) ^^^ (-1))), .int p2, .ref 4]) (h' := h) (by decide +kernel) rfl (pc' := 21) rfl (s_iast (M := mX1_letUnsee) (n := 4) (by decide +kernel) (by decide) (fun h3 => s_retV (M := mX1_letUnsee) (by decide +kernel) rfl))))) (fun _ => s_retV (M := mX1_letUnsee) (by decide +kernel) rfl))))
theorem ckX1_firstCoupleOf_107 : ckV mX1_firstCoupleOf mX1_isCouple 107 3 349 350 351 38 352 = true := by decide +kernel
set_option maxRecDepth 20000 in
set_option maxHeartbeats 4000000 in
theorem c_X1_firstCoupleOf_3 (h : HS) (p1 : Int32) : CSim mX1_firstCoupleOf (cI_ h) [.ref 3, .int p1] h (f_X1_firstCoupleOf h 3 p1) :=
  csim_of (by decide +kernel) rfl (Nat.le_of_ble_eq_true rfl) (ls := [.ref 3, .int p1, .null, .null]) rfl (by
    unfold f_X1_firstCoupleOf
    exact s_run (M := mX1_firstCoupleOf) [(.iconst 0, 1, (0, 0), 0), (.istore_n 2, 1, (0, 0), 0)] (ls' := [.ref 3, .int p1, .int 0, .null]) (st' := []) (h' := h) (by decide +kernel) rfl (pc' := 2) rfl (s_loop1 (fun (i1 : Int32) => [.ref 3, .int p1, .int i1, .null]) (fun (i1 : Int32) => h) (fun rec2 H3 (i1 : Int32) => s_run (M := mX1_firstCoupleOf) [(.iload_n 2, 1, (0, 0), 0), (.aload_n 0, 1, (0, 0), 0), (.getfield 27, 3, (1, 0), 0)] (ls' := [.ref 3, .int p1, .int i1, .null]) (st' := [.int (h.1 3 0), .int i1]) (h' := h) (by decide +kernel) rfl (pc' := 7) rfl (s_icmp_ge (M := mX1_firstCoupleOf) (off := 42) (tgt := 49) (by decide +kernel) (by decide +kernel) (fun _ => s_run (M := mX1_firstCoupleOf) [(.iconst 0, 1, (0, 0), 0), (.istore_n 3, 1, (0, 0), 0)] (ls' := [.ref 3, .int p1, .int i1, .int 0]) (st' := []) (h' := h) (by decide +kernel) rfl (pc' := 12) rfl (s_loop1 (fun (i4 : Int32) => [.ref 3, .int p1, .int i1, .int i4]) (fun (i4 : Int32) => h) (fun rec5 H6 (i4 : Int32) => s_run (M := mX1_firstCoupleOf) [(.iload_n 3, 1, (0, 0), 0), (.aload_n 0, 1, (0, 0), 0), (.getfield 27, 3, (1, 0), 0)] (ls' := [.ref 3, .int p1, .int i1, .int i4]) (st' := [.int (h.1 3 0), .int i4]) (h' := h) (by decide +kernel) rfl (pc' := 17) rfl (s_icmp_ge (M := mX1_firstCoupleOf) (off := 26) (tgt := 43) (by decide +kernel) (by decide +kernel) (fun _ => s_run (M := mX1_firstCoupleOf) [(.aload_n 0, 1, (0, 0), 0), (.iload_n 2, 1, (0, 0), 0), (.iload_n 3, 1, (0, 0), 0), (.iload_n 1, 1, (0, 0), 0)] (ls' := [.ref 3, .int p1, .int i1, .int i4]) (st' := [.int p1, .int i4, .int i1, .ref 3]) (h' := h) (by decide +kernel) rfl (pc' := 24) rfl (s_cVZ ckX1_firstCoupleOf_107 [.int i1, .int i4, .int p1] 3 (st := []) rfl rfl rfl (by decide) (Nat.le_of_ble_eq_true rfl) (by decide +kernel) (c_X1_isCouple_3 _ _ _ _) (fun r7 => s_bif_eq (M := mX1_firstCoupleOf) (off := 10) (tgt := 37) (by decide +kernel) (by decide +kernel) (fun _ => s_run (M := mX1_firstCoupleOf) [(.bipush 10, 2, (0, 0), 10), (.iload_n 2, 1, (0, 0), 0), (.imul, 1, (0, 0), 0), (.iload_n 3, 1, (0, 0), 0), (.iadd, 1, (0, 0), 0)] (ls' := [.ref 3, .int p1, .int i1, .int i4]) (st' := [.int ((10 * i1) + i4)]) (h' := h) (by decide +kernel) rfl (pc' := 36) rfl (s_retI (M := mX1_firstCoupleOf) (by decide +kernel) rfl)) (fun _ => s_run (M := mX1_firstCoupleOf) [(.iinc 3 1, 3, (0, 0), 1), (.goto (-28), 3, (12, 0), 0)] (ls' := [.ref 3, .int p1, .int i1, .int (i4 + 1)]) (st' := []) (h' := h) (by decide +kernel) rfl (pc' := 12) rfl (H6 (i4 + 1)))))) (fun _ => s_run (M := mX1_firstCoupleOf) [(.iinc 2 1, 3, (0, 0), 1), (.goto (-44), 3, (2, 0), 0)] (ls' := [.ref 3, .int p1, .int (i1 + 1), .int i4]) (st' := []) (h' := h) (by decide +kernel) rfl (pc' := 2) rfl (s_wk (ls' := [.ref 3, .int p1, .int (i1 + 1), .null]) ⟨Or.inr rfl, Or.inr rfl, Or.inr rfl, Or.inl rfl, trivial⟩ (H3 (i1 + 1)))))) 400 0)) (fun _ => s_run (M := mX1_firstCoupleOf) [(.bipush (-9), 2, (0, 0), (-9))] (ls' := [.ref 3, .int p1, .int i1, .null]) (st' := [.int (-9)]) (h' := h) (by decide +kernel) rfl (pc' := 51) rfl (s_retI (M := mX1_firstCoupleOf) (by decide +kernel) rfl)))) 400 0))
theorem ckX1_asItIs_93 : ckV mX1_asItIs mX1_halfOf 93 2 317 294 295 38 296 = true := by decide +kernel
set_option maxRecDepth 20000 in
set_option maxHeartbeats 4000000 in
theorem c_X1_asItIs_3 (h : HS) (p1 : Int32) : CSim mX1_asItIs (cI_ h) [.ref 3, .int p1] h (f_X1_asItIs h 3 p1) :=
  csim_of (by decide +kernel) rfl (Nat.le_of_ble_eq_true rfl) (ls := [.ref 3, .int p1]) rfl (by
    unfold f_X1_asItIs
    exact s_run (M := mX1_asItIs) [(.bipush 10, 2, (0, 0), 10), (.aload_n 0, 1, (0, 0), 0), (.iload_n 1, 1, (0, 0), 0), (.iconst 0, 1, (0, 0), 0)] (ls' := [.ref 3, .int p1]) (st' := [.int 0, .int p1, .ref 3, .int 10]) (h' := h) (by decide +kernel) rfl (pc' := 5) rfl (s_cVI ckX1_asItIs_93 [.int p1, .int 0] 3 (st := [.int 10]) rfl rfl rfl (by decide) (Nat.le_of_ble_eq_true rfl) (by decide +kernel) (c_X1_halfOf_3 _ _ _) (fun r1 => s_run (M := mX1_asItIs) [(.imul, 1, (0, 0), 0), (.aload_n 0, 1, (0, 0), 0), (.iload_n 1, 1, (0, 0), 0), (.iconst 1, 1, (0, 0), 1)] (ls' := [.ref 3, .int p1]) (st' := [.int 1, .int p1, .ref 3, .int (10 * r1)]) (h' := h) (by decide +kernel) rfl (pc' := 12) rfl (s_cVI ckX1_asItIs_93 [.int p1, .int 1] 3 (st := [.int (10 * r1)]) rfl rfl rfl (by decide) (Nat.le_of_ble_eq_true rfl) (by decide +kernel) (c_X1_halfOf_3 _ _ _) (fun r2 => s_run (M := mX1_asItIs) [(.iadd, 1, (0, 0), 0)] (ls' := [.ref 3, .int p1]) (st' := [.int ((10 * r1) + r2)]) (h' := h) (by decide +kernel) rfl (pc' := 16) rfl (s_retI (M := mX1_asItIs) (by decide +kernel) rfl))))))
theorem ckX1_couplesOf_107 : ckV mX1_couplesOf mX1_isCouple 107 3 349 350 351 38 352 = true := by decide +kernel
theorem ckX1_couplesOf_111 : ckV mX1_couplesOf mX1_toldBy 111 3 407 354 355 38 356 = true := by decide +kernel
theorem ckX1_couplesOf_90 : ckV mX1_couplesOf mX1_asItIs 90 1 408 409 410 38 411 = true := by decide +kernel
set_option maxRecDepth 20000 in
set_option maxHeartbeats 4000000 in
theorem c_X1_couplesOf_3 (h : HS) (p1 : Int32) (p2 : Int32) : CSim mX1_couplesOf (cI_ h) [.ref 3, .int p1, .int p2] h (f_X1_couplesOf h 3 p1 p2) :=
  csim_of (by decide +kernel) rfl (Nat.le_of_ble_eq_true rfl) (ls := [.ref 3, .int p1, .int p2, .null, .null, .null]) rfl (by
    unfold f_X1_couplesOf
    exact s_run (M := mX1_couplesOf) [(.iconst 0, 1, (0, 0), 0), (.istore_n 3, 1, (0, 0), 0), (.iconst 0, 1, (0, 0), 0), (.istore 4, 2, (0, 0), 0)] (ls' := [.ref 3, .int p1, .int p2, .int 0, .int 0, .null]) (st' := []) (h' := h) (by decide +kernel) rfl (pc' := 5) rfl (s_loop2 (fun (i1 : Int32) (i2 : Int32) => [.ref 3, .int p1, .int p2, .int i1, .int i2, .null]) (fun (i1 : Int32) (i2 : Int32) => h) (fun rec3 H4 (i1 : Int32) (i2 : Int32) => s_run (M := mX1_couplesOf) [(.iload 4, 2, (0, 0), 0), (.aload_n 0, 1, (0, 0), 0), (.getfield 27, 3, (1, 0), 0)] (ls' := [.ref 3, .int p1, .int p2, .int i1, .int i2, .null]) (st' := [.int (h.1 3 0), .int i2]) (h' := h) (by decide +kernel) rfl (pc' := 11) rfl (s_icmp_ge (M := mX1_couplesOf) (off := 63) (tgt := 74) (by decide +kernel) (by decide +kernel) (fun _ => s_run (M := mX1_couplesOf) [(.iconst 0, 1, (0, 0), 0), (.istore 5, 2, (0, 0), 0)] (ls' := [.ref 3, .int p1, .int p2, .int i1, .int i2, .int 0]) (st' := []) (h' := h) (by decide +kernel) rfl (pc' := 17) rfl (s_loop2 (fun (i5 : Int32) (i6 : Int32) => [.ref 3, .int p1, .int p2, .int i5, .int i2, .int i6]) (fun (i5 : Int32) (i6 : Int32) => h) (fun rec7 H8 (i5 : Int32) (i6 : Int32) => s_run (M := mX1_couplesOf) [(.iload 5, 2, (0, 0), 0), (.aload_n 0, 1, (0, 0), 0), (.getfield 27, 3, (1, 0), 0)] (ls' := [.ref 3, .int p1, .int p2, .int i5, .int i2, .int i6]) (st' := [.int (h.1 3 0), .int i6]) (h' := h) (by decide +kernel) rfl (pc' := 23) rfl (s_icmp_ge (M := mX1_couplesOf) (off := 45) (tgt := 68) (by decide +kernel) (by decide +kernel) (fun _ => s_run (M := mX1_couplesOf) [(.aload_n 0, 1, (0, 0), 0), (.iload 4, 2, (0, 0), 0), (.iload 5, 2, (0, 0), 0), (.iload_n 1, 1, (0, 0), 0)] (ls' := [.ref 3, .int p1, .int p2, .int i5, .int i2, .int i6]) (st' := [.int p1, .int i6, .int i2, .ref 3]) (h' := h) (by decide +kernel) rfl (pc' := 32) rfl (s_cVZ ckX1_couplesOf_107 [.int i2, .int i6, .int p1] 3 (st := []) rfl rfl rfl (by decide) (Nat.le_of_ble_eq_true rfl) (by decide +kernel) (c_X1_isCouple_3 _ _ _ _) (fun r9 => s_jn (fun (j11 : Int32 → Option Int32) => ∀ (w10 : Int32), Sim none mX1_couplesOf (cI_ h) 62 [.ref 3, .int p1, .int p2, .int w10, .int i2, .int i6] [] h (j11 w10)) (fun w10 => s_run (M := mX1_couplesOf) [(.iinc 5 1, 3, (0, 0), 1), (.goto (-48), 3, (17, 0), 0)] (ls' := [.ref 3, .int p1, .int p2, .int w10, .int i2, .int (i6 + 1)]) (st' := []) (h' := h) (by decide +kernel) rfl (pc' := 17) rfl (H8 w10 (i6 + 1))) (fun j11 J12 => s_bif_eq (M := mX1_couplesOf) (off := 27) (tgt := 62) (by decide +kernel) (by decide +kernel) (fun _ => s_run (M := mX1_couplesOf) [(.iload_n 2, 1, (0, 0), 0)] (ls' := [.ref 3, .int p1, .int p2, .int i5, .int i2, .int i6]) (st' := [.int p2]) (h' := h) (by decide +kernel) rfl (pc' := 39) rfl (s_jn (fun (j13 : Option Int32) => Sim none mX1_couplesOf (cI_ h) 59 [.ref 3, .int p1, .int p2, .int i5, .int i2, .int i6] [] h (j13)) (s_run (M := mX1_couplesOf) [(.iinc 3 1, 3, (0, 0), 1)] (ls' := [.ref 3, .int p1, .int p2, .int (i5 + 1), .int i2, .int i6]) (st' := []) (h' := h) (by decide +kernel) rfl (pc' := 62) rfl (J12 (i5 + 1))) (fun j13 J14 => s_if_eq (M := mX1_couplesOf) (off := 20) (tgt := 59) (by decide +kernel) (by decide +kernel) (fun _ => J14) (fun _ => s_run (M := mX1_couplesOf) [(.aload_n 0, 1, (0, 0), 0), (.iload 4, 2, (0, 0), 0), (.iload 5, 2, (0, 0), 0), (.iload_n 1, 1, (0, 0), 0)] (ls' := [.ref 3, .int p1, .int p2, .int i5, .int i2, .int i6]) (st' := [.int p1, .int i6, .int i2, .ref 3]) (h' := h) (by decide +kernel) rfl (pc' := 48) rfl (s_cVI ckX1_couplesOf_111 [.int i2, .int i6, .int p1] 3 (st := []) rfl rfl rfl (by decide) (Nat.le_of_ble_eq_true rfl) (by decide +kernel) (c_X1_toldBy_3 _ _ _ _) (fun r15 => s_run (M := mX1_couplesOf) [(.aload_n 0, 1, (0, 0), 0), (.iload_n 1, 1, (0, 0), 0)] (ls' := [.ref 3, .int p1, .int p2, .int i5, .int i2, .int i6]) (st' := [.int p1, .ref 3, .int r15]) (h' := h) (by decide +kernel) rfl (pc' := 53) rfl (s_cVI ckX1_couplesOf_90 [.int p1] 3 (st := [.int r15]) rfl rfl rfl (by decide) (Nat.le_of_ble_eq_true rfl) (by decide +kernel) (c_X1_asItIs_3 _ _) (fun r16 => s_icmp_ne (M := mX1_couplesOf) (off := 6) (tgt := 62) (by decide +kernel) (by decide +kernel) (fun _ => J14) (fun _ => J12 i5))))))))) (fun _ => J12 i5))))) (fun _ => s_run (M := mX1_couplesOf) [(.iinc 4 1, 3, (0, 0), 1), (.goto (-66), 3, (5, 0), 0)] (ls' := [.ref 3, .int p1, .int p2, .int i5, .int (i2 + 1), .int i6]) (st' := []) (h' := h) (by decide +kernel) rfl (pc' := 5) rfl (s_wk (ls' := [.ref 3, .int p1, .int p2, .int i5, .int (i2 + 1), .null]) ⟨Or.inr rfl, Or.inr rfl, Or.inr rfl, Or.inr rfl, Or.inr rfl, Or.inl rfl, trivial⟩ (H4 i5 (i2 + 1)))))) 400 i1 0)) (fun _ => s_run (M := mX1_couplesOf) [(.iload_n 3, 1, (0, 0), 0)] (ls' := [.ref 3, .int p1, .int p2, .int i1, .int i2, .null]) (st' := [.int i1]) (h' := h) (by decide +kernel) rfl (pc' := 75) rfl (s_retI (M := mX1_couplesOf) (by decide +kernel) rfl)))) 400 0 0))
set_option maxRecDepth 20000 in
set_option maxHeartbeats 4000000 in
theorem c_X1_everybody_3 (h : HS) : CSim mX1_everybody (cI_ h) [.ref 3] h (f_X1_everybody h 3) :=
  csim_of (by decide +kernel) rfl (Nat.le_of_ble_eq_true rfl) (ls := [.ref 3]) rfl (by
    unfold f_X1_everybody
    exact s_run (M := mX1_everybody) [(.iconst 1, 1, (0, 0), 1), (.aload_n 0, 1, (0, 0), 0), (.getfield 27, 3, (1, 0), 0), (.ishl, 1, (0, 0), 0), (.iconst 1, 1, (0, 0), 1), (.isub, 1, (0, 0), 0)] (ls' := [.ref 3]) (st' := [.int ((1 <<< ((h.1 3 0) &&& 31)) - 1)]) (h' := h) (by decide +kernel) rfl (pc' := 8) rfl (s_retI (M := mX1_everybody) (by decide +kernel) rfl))
theorem ckX1_hasCoupleAmong_97 : ckV mX1_hasCoupleAmong mX1_seersOf 97 2 316 302 303 38 304 = true := by decide +kernel
theorem ckX1_hasCoupleAmong_114 : ckS mX1_hasCoupleAmong mJ6_bitCount_0f7a4 114 1 432 335 42 336 = true := by decide +kernel
set_option maxRecDepth 20000 in
set_option maxHeartbeats 4000000 in
theorem c_X1_hasCoupleAmong_3 (h : HS) (p1 : Int32) (p2 : Int32) : CSim mX1_hasCoupleAmong (cZ_ h) [.ref 3, .int p1, .int p2] h (f_X1_hasCoupleAmong h 3 p1 p2) :=
  csim_of (by decide +kernel) rfl (Nat.le_of_ble_eq_true rfl) (ls := [.ref 3, .int p1, .int p2, .null, .null]) rfl (by
    unfold f_X1_hasCoupleAmong
    exact s_run (M := mX1_hasCoupleAmong) [(.aload_n 0, 1, (0, 0), 0), (.iload_n 1, 1, (0, 0), 0), (.iconst 0, 1, (0, 0), 0)] (ls' := [.ref 3, .int p1, .int p2, .null, .null]) (st' := [.int 0, .int p1, .ref 3]) (h' := h) (by decide +kernel) rfl (pc' := 3) rfl (s_cVI ckX1_hasCoupleAmong_97 [.int p1, .int 0] 3 (st := []) rfl rfl rfl (by decide) (Nat.le_of_ble_eq_true rfl) (by decide +kernel) (c_X1_seersOf_3 _ _ _) (fun r1 => s_run (M := mX1_hasCoupleAmong) [(.iload_n 2, 1, (0, 0), 0), (.iand, 1, (0, 0), 0), (.istore_n 3, 1, (0, 0), 0)] (ls' := [.ref 3, .int p1, .int p2, .int (r1 &&& p2), .null]) (st' := []) (h' := h) (by decide +kernel) rfl (pc' := 9) rfl (s_lt ((r1 &&& p2) : Int32) (fun v2 => [.ref 3, .int p1, .int p2, .int v2, .null]) (fun _ => []) (fun _ => h) (fun v2 => s_run (M := mX1_hasCoupleAmong) [(.aload_n 0, 1, (0, 0), 0), (.iload_n 1, 1, (0, 0), 0), (.iconst 1, 1, (0, 0), 1)] (ls' := [.ref 3, .int p1, .int p2, .int v2, .null]) (st' := [.int 1, .int p1, .ref 3]) (h' := h) (by decide +kernel) rfl (pc' := 12) rfl (s_cVI ckX1_hasCoupleAmong_97 [.int p1, .int 1] 3 (st := []) rfl rfl rfl (by decide) (Nat.le_of_ble_eq_true rfl) (by decide +kernel) (c_X1_seersOf_3 _ _ _) (fun r3 => s_run (M := mX1_hasCoupleAmong) [(.iload_n 2, 1, (0, 0), 0), (.iand, 1, (0, 0), 0), (.istore 4, 2, (0, 0), 0)] (ls' := [.ref 3, .int p1, .int p2, .int v2, .int (r3 &&& p2)]) (st' := []) (h' := h) (by decide +kernel) rfl (pc' := 19) rfl (s_lt ((r3 &&& p2) : Int32) (fun v4 => [.ref 3, .int p1, .int p2, .int v2, .int v4]) (fun _ => []) (fun _ => h) (fun v4 => s_run (M := mX1_hasCoupleAmong) [(.iload_n 3, 1, (0, 0), 0)] (ls' := [.ref 3, .int p1, .int p2, .int v2, .int v4]) (st' := [.int v2]) (h' := h) (by decide +kernel) rfl (pc' := 20) rfl (s_if_eq (M := mX1_hasCoupleAmong) (off := 23) (tgt := 43) (by decide +kernel) (by decide +kernel) (fun _ => s_run (M := mX1_hasCoupleAmong) [(.iconst 0, 1, (0, 0), 0)] (ls' := [.ref 3, .int p1, .int p2, .int v2, .int v4]) (st' := [.int 0]) (h' := h) (by decide +kernel) rfl (pc' := 44) rfl (s_retZ (M := mX1_hasCoupleAmong) (v := false) (by decide +kernel) rfl)) (fun _ => s_run (M := mX1_hasCoupleAmong) [(.iload 4, 2, (0, 0), 0)] (ls' := [.ref 3, .int p1, .int p2, .int v2, .int v4]) (st' := [.int v4]) (h' := h) (by decide +kernel) rfl (pc' := 25) rfl (s_if_eq (M := mX1_hasCoupleAmong) (off := 18) (tgt := 43) (by decide +kernel) (by decide +kernel) (fun _ => s_run (M := mX1_hasCoupleAmong) [(.iconst 0, 1, (0, 0), 0)] (ls' := [.ref 3, .int p1, .int p2, .int v2, .int v4]) (st' := [.int 0]) (h' := h) (by decide +kernel) rfl (pc' := 44) rfl (s_retZ (M := mX1_hasCoupleAmong) (v := false) (by decide +kernel) rfl)) (fun _ => s_run (M := mX1_hasCoupleAmong) [(.iload_n 3, 1, (0, 0), 0), (.iload 4, 2, (0, 0), 0), (.ior, 1, (0, 0), 0)] (ls' := [.ref 3, .int p1, .int p2, .int v2, .int v4]) (st' := [.int (v2 ||| v4)]) (h' := h) (by decide +kernel) rfl (pc' := 32) rfl (s_cSI ckX1_hasCoupleAmong_114 [.int (v2 ||| v4)] (st := []) rfl rfl (Nat.le_of_ble_eq_true rfl) (by decide +kernel) (c_J6_bitCount_0f7a4 _ _) (fun r5 => s_run (M := mX1_hasCoupleAmong) [(.iconst 1, 1, (0, 0), 1)] (ls' := [.ref 3, .int p1, .int p2, .int v2, .int v4]) (st' := [.int 1, .int r5]) (h' := h) (by decide +kernel) rfl (pc' := 36) rfl (s_icmp_le (M := mX1_hasCoupleAmong) (off := 7) (tgt := 43) (by decide +kernel) (by decide +kernel) (fun _ => s_run (M := mX1_hasCoupleAmong) [(.iconst 1, 1, (0, 0), 1), (.goto 4, 3, (44, 0), 0)] (ls' := [.ref 3, .int p1, .int p2, .int v2, .int v4]) (st' := [.int 1]) (h' := h) (by decide +kernel) rfl (pc' := 44) rfl (s_retZ (M := mX1_hasCoupleAmong) (v := true) (by decide +kernel) rfl)) (fun _ => s_run (M := mX1_hasCoupleAmong) [(.iconst 0, 1, (0, 0), 0)] (ls' := [.ref 3, .int p1, .int p2, .int v2, .int v4]) (st' := [.int 0]) (h' := h) (by decide +kernel) rfl (pc' := 44) rfl (s_retZ (M := mX1_hasCoupleAmong) (v := false) (by decide +kernel) rfl))))))))))))))))))
theorem ckX1_knowableAmong_119 : ckV mX1_knowableAmong mX1_hasCoupleAmong 119 2 428 429 430 38 431 = true := by decide +kernel
set_option maxRecDepth 20000 in
set_option maxHeartbeats 4000000 in
theorem c_X1_knowableAmong_3 (h : HS) (p1 : Int32) : CSim mX1_knowableAmong (cI_ h) [.ref 3, .int p1] h (f_X1_knowableAmong h 3 p1) :=
  csim_of (by decide +kernel) rfl (Nat.le_of_ble_eq_true rfl) (ls := [.ref 3, .int p1, .null, .null]) rfl (by
    unfold f_X1_knowableAmong
    exact s_run (M := mX1_knowableAmong) [(.iconst 0, 1, (0, 0), 0), (.istore_n 2, 1, (0, 0), 0), (.iconst 0, 1, (0, 0), 0), (.istore_n 3, 1, (0, 0), 0)] (ls' := [.ref 3, .int p1, .int 0, .int 0]) (st' := []) (h' := h) (by decide +kernel) rfl (pc' := 4) rfl (s_loop2 (fun (i1 : Int32) (i2 : Int32) => [.ref 3, .int p1, .int i1, .int i2]) (fun (i1 : Int32) (i2 : Int32) => h) (fun rec3 H4 (i1 : Int32) (i2 : Int32) => s_run (M := mX1_knowableAmong) [(.iload_n 3, 1, (0, 0), 0), (.aload_n 0, 1, (0, 0), 0), (.getfield 31, 3, (1, 1), 0)] (ls' := [.ref 3, .int p1, .int i1, .int i2]) (st' := [.int (h.1 3 1), .int i2]) (h' := h) (by decide +kernel) rfl (pc' := 9) rfl (s_icmp_ge (M := mX1_knowableAmong) (off := 24) (tgt := 33) (by decide +kernel) (by decide +kernel) (fun _ => s_run (M := mX1_knowableAmong) [(.aload_n 0, 1, (0, 0), 0), (.iload_n 3, 1, (0, 0), 0), (.iload_n 1, 1, (0, 0), 0)] (ls' := [.ref 3, .int p1, .int i1, .int i2]) (st' := [.int p1, .int i2, .ref 3]) (h' := h) (by decide +kernel) rfl (pc' := 15) rfl (s_cVZ ckX1_knowableAmong_119 [.int i2, .int p1] 3 (st := []) rfl rfl rfl (by decide) (Nat.le_of_ble_eq_true rfl) (by decide +kernel) (c_X1_hasCoupleAmong_3 _ _ _) (fun r5 => s_jn (fun (j7 : Int32 → Option Int32) => ∀ (w6 : Int32), Sim none mX1_knowableAmong (cI_ h) 27 [.ref 3, .int p1, .int w6, .int i2] [] h (j7 w6)) (fun w6 => s_run (M := mX1_knowableAmong) [(.iinc 3 1, 3, (0, 0), 1), (.goto (-26), 3, (4, 0), 0)] (ls' := [.ref 3, .int p1, .int w6, .int (i2 + 1)]) (st' := []) (h' := h) (by decide +kernel) rfl (pc' := 4) rfl (H4 w6 (i2 + 1))) (fun j7 J8 => s_bif_eq (M := mX1_knowableAmong) (off := 9) (tgt := 27) (by decide +kernel) (by decide +kernel) (fun _ => s_run (M := mX1_knowableAmong) [(.iload_n 2, 1, (0, 0), 0), (.iconst 1, 1, (0, 0), 1), (.iload_n 3, 1, (0, 0), 0), (.ishl, 1, (0, 0), 0), (.ior, 1, (0, 0), 0), (.istore_n 2, 1, (0, 0), 0)] (ls' := [.ref 3, .int p1, .int (i1 ||| (1 <<< (i2 &&& 31))), .int i2]) (st' := []) (h' := h) (by decide +kernel) rfl (pc' := 27) rfl (s_lt ((i1 ||| (1 <<< (i2 &&& 31))) : Int32) (fun v9 => [.ref 3, .int p1, .int v9, .int i2]) (fun _ => []) (fun _ => h) (fun v9 => J8 v9))) (fun _ => J8 i1))))) (fun _ => s_run (M := mX1_knowableAmong) [(.iload_n 2, 1, (0, 0), 0)] (ls' := [.ref 3, .int p1, .int i1, .int i2]) (st' := [.int i1]) (h' := h) (by decide +kernel) rfl (pc' := 34) rfl (s_retI (M := mX1_knowableAmong) (by decide +kernel) rfl)))) 400 0 0))
theorem ckX1_areCoupleForSome_107 : ckV mX1_areCoupleForSome mX1_isCouple 107 3 349 350 351 38 352 = true := by decide +kernel
set_option maxRecDepth 20000 in
set_option maxHeartbeats 4000000 in
theorem c_X1_areCoupleForSome_3 (h : HS) (p1 : Int32) (p2 : Int32) : CSim mX1_areCoupleForSome (cZ_ h) [.ref 3, .int p1, .int p2] h (f_X1_areCoupleForSome h 3 p1 p2) :=
  csim_of (by decide +kernel) rfl (Nat.le_of_ble_eq_true rfl) (ls := [.ref 3, .int p1, .int p2, .null]) rfl (by
    unfold f_X1_areCoupleForSome
    exact s_run (M := mX1_areCoupleForSome) [(.iconst 0, 1, (0, 0), 0), (.istore_n 3, 1, (0, 0), 0)] (ls' := [.ref 3, .int p1, .int p2, .int 0]) (st' := []) (h' := h) (by decide +kernel) rfl (pc' := 2) rfl (s_loop1 (fun (i1 : Int32) => [.ref 3, .int p1, .int p2, .int i1]) (fun (i1 : Int32) => h) (fun rec2 H3 (i1 : Int32) => s_run (M := mX1_areCoupleForSome) [(.iload_n 3, 1, (0, 0), 0), (.aload_n 0, 1, (0, 0), 0), (.getfield 31, 3, (1, 1), 0)] (ls' := [.ref 3, .int p1, .int p2, .int i1]) (st' := [.int (h.1 3 1), .int i1]) (h' := h) (by decide +kernel) rfl (pc' := 7) rfl (s_icmp_ge (M := mX1_areCoupleForSome) (off := 31) (tgt := 38) (by decide +kernel) (by decide +kernel) (fun _ => s_run (M := mX1_areCoupleForSome) [(.aload_n 0, 1, (0, 0), 0), (.iload_n 1, 1, (0, 0), 0), (.iload_n 2, 1, (0, 0), 0), (.iload_n 3, 1, (0, 0), 0)] (ls' := [.ref 3, .int p1, .int p2, .int i1]) (st' := [.int i1, .int p2, .int p1, .ref 3]) (h' := h) (by decide +kernel) rfl (pc' := 14) rfl (s_cVZ ckX1_areCoupleForSome_107 [.int p1, .int p2, .int i1] 3 (st := []) rfl rfl rfl (by decide) (Nat.le_of_ble_eq_true rfl) (by decide +kernel) (c_X1_isCouple_3 _ _ _ _) (fun r4 => s_bif_ne (M := mX1_areCoupleForSome) (off := 13) (tgt := 30) (by decide +kernel) (by decide +kernel) (fun _ => s_run (M := mX1_areCoupleForSome) [(.iconst 1, 1, (0, 0), 1)] (ls' := [.ref 3, .int p1, .int p2, .int i1]) (st' := [.int 1]) (h' := h) (by decide +kernel) rfl (pc' := 31) rfl (s_retZ (M := mX1_areCoupleForSome) (v := true) (by decide +kernel) rfl)) (fun _ => s_run (M := mX1_areCoupleForSome) [(.aload_n 0, 1, (0, 0), 0), (.iload_n 2, 1, (0, 0), 0), (.iload_n 1, 1, (0, 0), 0), (.iload_n 3, 1, (0, 0), 0)] (ls' := [.ref 3, .int p1, .int p2, .int i1]) (st' := [.int i1, .int p1, .int p2, .ref 3]) (h' := h) (by decide +kernel) rfl (pc' := 24) rfl (s_cVZ ckX1_areCoupleForSome_107 [.int p2, .int p1, .int i1] 3 (st := []) rfl rfl rfl (by decide) (Nat.le_of_ble_eq_true rfl) (by decide +kernel) (c_X1_isCouple_3 _ _ _ _) (fun r5 => s_bif_eq (M := mX1_areCoupleForSome) (off := 5) (tgt := 32) (by decide +kernel) (by decide +kernel) (fun _ => s_run (M := mX1_areCoupleForSome) [(.iconst 1, 1, (0, 0), 1)] (ls' := [.ref 3, .int p1, .int p2, .int i1]) (st' := [.int 1]) (h' := h) (by decide +kernel) rfl (pc' := 31) rfl (s_retZ (M := mX1_areCoupleForSome) (v := true) (by decide +kernel) rfl)) (fun _ => s_run (M := mX1_areCoupleForSome) [(.iinc 3 1, 3, (0, 0), 1), (.goto (-33), 3, (2, 0), 0)] (ls' := [.ref 3, .int p1, .int p2, .int (i1 + 1)]) (st' := []) (h' := h) (by decide +kernel) rfl (pc' := 2) rfl (H3 (i1 + 1))))))))) (fun _ => s_run (M := mX1_areCoupleForSome) [(.iconst 0, 1, (0, 0), 0)] (ls' := [.ref 3, .int p1, .int p2, .int i1]) (st' := [.int 0]) (h' := h) (by decide +kernel) rfl (pc' := 39) rfl (s_retZ (M := mX1_areCoupleForSome) (v := false) (by decide +kernel) rfl)))) 400 0))
set_option maxRecDepth 20000 in
set_option maxHeartbeats 4000000 in
theorem c_X1_become_9_3 (h : HS) : CSim mX1_become cV_ [.ref 9, .ref 3] h (f_X1_become h 9 3) :=
  csim_of (by decide +kernel) rfl (Nat.le_of_ble_eq_true rfl) (ls := [.ref 9, .ref 3, .null]) rfl (by
    unfold f_X1_become
    exact s_run (M := mX1_become) [(.aload_n 0, 1, (0, 0), 0), (.aload_n 1, 1, (0, 0), 0), (.getfield 27, 3, (1, 0), 0), (.putfield 27, 3, (1, 0), 0)] (ls' := [.ref 9, .ref 3, .null]) (st' := []) (h' := (hset h 9 0 (h.1 3 0))) (by decide +kernel) rfl (pc' := 8) rfl (s_lt ((hset h 9 0 (h.1 3 0))) (fun _ => [.ref 9, .ref 3, .null]) (fun _ => []) (fun h1 => h1) (fun h1 => s_run (M := mX1_become) [(.aload_n 0, 1, (0, 0), 0), (.aload_n 1, 1, (0, 0), 0), (.getfield 31, 3, (1, 1), 0), (.putfield 31, 3, (1, 1), 0)] (ls' := [.ref 9, .ref 3, .null]) (st' := []) (h' := (hset h1 9 1 (h1.1 3 1))) (by decide +kernel) rfl (pc' := 16) rfl (s_lt ((hset h1 9 1 (h1.1 3 1))) (fun _ => [.ref 9, .ref 3, .null]) (fun _ => []) (fun h2 => h2) (fun h2 => s_run (M := mX1_become) [(.aload_n 0, 1, (0, 0), 0), (.aload_n 1, 1, (0, 0), 0), (.getfield 34, 3, (1, 2), 0), (.putfield 34, 3, (1, 2), 0)] (ls' := [.ref 9, .ref 3, .null]) (st' := []) (h' := (hset h2 9 2 (h2.1 3 2))) (by decide +kernel) rfl (pc' := 24) rfl (s_lt ((hset h2 9 2 (h2.1 3 2))) (fun _ => [.ref 9, .ref 3, .null]) (fun _ => []) (fun h3 => h3) (fun h3 => s_run (M := mX1_become) [(.aload_n 0, 1, (0, 0), 0), (.aload_n 1, 1, (0, 0), 0), (.getfield 37, 3, (1, 3), 0), (.putfield 37, 3, (1, 3), 0)] (ls' := [.ref 9, .ref 3, .null]) (st' := []) (h' := (hset h3 9 3 (h3.1 3 3))) (by decide +kernel) rfl (pc' := 32) rfl (s_lt ((hset h3 9 3 (h3.1 3 3))) (fun _ => [.ref 9, .ref 3, .null]) (fun _ => []) (fun h4 => h4) (fun h4 => s_run (M := mX1_become) [(.aload_n 0, 1, (0, 0), 0), (.aload_n 1, 1, (0, 0), 0), (.getfield 40, 3, (1, 4), 0), (.putfield 40, 3, (1, 4), 0)] (ls' := [.ref 9, .ref 3, .null]) (st' := []) (h' := (hset h4 9 4 (h4.1 3 4))) (by decide +kernel) rfl (pc' := 40) rfl (s_lt ((hset h4 9 4 (h4.1 3 4))) (fun _ => [.ref 9, .ref 3, .null]) (fun _ => []) (fun h5 => h5) (fun h5 => s_run (M := mX1_become) [(.aload_n 0, 1, (0, 0), 0), (.aload_n 1, 1, (0, 0), 0), (.getfield 43, 3, (1, 5), 0), (.putfield 43, 3, (1, 5), 0)] (ls' := [.ref 9, .ref 3, .null]) (st' := []) (h' := (hset h5 9 5 (h5.1 3 5))) (by decide +kernel) rfl (pc' := 48) rfl (s_lt ((hset h5 9 5 (h5.1 3 5))) (fun _ => [.ref 9, .ref 3, .null]) (fun _ => []) (fun h6 => h6) (fun h6 => s_run (M := mX1_become) [(.iconst 0, 1, (0, 0), 0), (.istore_n 2, 1, (0, 0), 0)] (ls' := [.ref 9, .ref 3, .int 0]) (st' := []) (h' := h6) (by decide +kernel) rfl (pc' := 50) rfl (s_loop2 (fun (i7 : Int32) (h8 : HS) => [.ref 9, .ref 3, .int i7]) (fun (i7 : Int32) (h8 : HS) => h8) (fun rec9 H10 (i7 : Int32) (h8 : HS) => s_run (M := mX1_become) [(.iload_n 2, 1, (0, 0), 0), (.iconst 4, 1, (0, 0), 4)] (ls' := [.ref 9, .ref 3, .int i7]) (st' := [.int 4, .int i7]) (h' := h8) (by decide +kernel) rfl (pc' := 52) rfl (s_icmp_ge (M := mX1_become) (off := 57) (tgt := 109) (by decide +kernel) (by decide +kernel) (fun _ => s_run (M := mX1_become) [(.aload_n 0, 1, (0, 0), 0), (.getfield 9, 3, (1, 6), 0), (.iload_n 2, 1, (0, 0), 0), (.aload_n 1, 1, (0, 0), 0), (.getfield 9, 3, (1, 6), 0), (.iload_n 2, 1, (0, 0), 0)] (ls' := [.ref 9, .ref 3, .int i7]) (st' := [.int i7, .ref 4, .int i7, .ref 10]) (h' := h8) (by decide +kernel) rfl (pc' := 65) rfl (s_iald (M := mX1_become) (n := 4) (by decide +kernel) (by decide) (fun r17 => s_iast (M := mX1_become) (n := 4) (by decide +kernel) (by decide) (fun h18 => s_run (M := mX1_become) [(.aload_n 0, 1, (0, 0), 0), (.getfield 15, 3, (1, 7), 0), (.iload_n 2, 1, (0, 0), 0), (.aload_n 1, 1, (0, 0), 0), (.getfield 15, 3, (1, 7), 0), (.iload_n 2, 1, (0, 0), 0)] (ls' := [.ref 9, .ref 3, .int i7]) (st' := [.int i7, .ref 5, .int i7, .ref 11]) (h' := h18) (by decide +kernel) rfl (pc' := 77) rfl (s_iald (M := mX1_become) (n := 4) (by decide +kernel) (by decide) (fun r19 => s_iast (M := mX1_become) (n := 4) (by decide +kernel) (by decide) (fun h20 => s_run (M := mX1_become) [(.aload_n 0, 1, (0, 0), 0), (.getfield 18, 3, (1, 8), 0), (.iload_n 2, 1, (0, 0), 0), (.aload_n 1, 1, (0, 0), 0), (.getfield 18, 3, (1, 8), 0), (.iload_n 2, 1, (0, 0), 0)] (ls' := [.ref 9, .ref 3, .int i7]) (st' := [.int i7, .ref 6, .int i7, .ref 12]) (h' := h20) (by decide +kernel) rfl (pc' := 89) rfl (s_iald (M := mX1_become) (n := 4) (by decide +kernel) (by decide) (fun r21 => s_iast (M := mX1_become) (n := 4) (by decide +kernel) (by decide) (fun h22 => s_run (M := mX1_become) [(.aload_n 0, 1, (0, 0), 0), (.getfield 21, 3, (1, 9), 0), (.iload_n 2, 1, (0, 0), 0), (.aload_n 1, 1, (0, 0), 0), (.getfield 21, 3, (1, 9), 0), (.iload_n 2, 1, (0, 0), 0)] (ls' := [.ref 9, .ref 3, .int i7]) (st' := [.int i7, .ref 7, .int i7, .ref 13]) (h' := h22) (by decide +kernel) rfl (pc' := 101) rfl (s_iald (M := mX1_become) (n := 4) (by decide +kernel) (by decide) (fun r23 => s_iast (M := mX1_become) (n := 4) (by decide +kernel) (by decide) (fun h24 => s_run (M := mX1_become) [(.iinc 2 1, 3, (0, 0), 1), (.goto (-56), 3, (50, 0), 0)] (ls' := [.ref 9, .ref 3, .int (i7 + 1)]) (st' := []) (h' := h24) (by decide +kernel) rfl (pc' := 50) rfl (H10 (i7 + 1) h24)))))))))))))) (fun _ => s_run (M := mX1_become) [(.iconst 0, 1, (0, 0), 0), (.istore_n 2, 1, (0, 0), 0)] (ls' := [.ref 9, .ref 3, .int 0]) (st' := []) (h' := h8) (by decide +kernel) rfl (pc' := 111) rfl (s_loop2 (fun (i11 : Int32) (h12 : HS) => [.ref 9, .ref 3, .int i11]) (fun (i11 : Int32) (h12 : HS) => h12) (fun rec13 H14 (i11 : Int32) (h12 : HS) => s_run (M := mX1_become) [(.iload_n 2, 1, (0, 0), 0), (.bipush 6, 2, (0, 0), 6)] (ls' := [.ref 9, .ref 3, .int i11]) (st' := [.int 6, .int i11]) (h' := h12) (by decide +kernel) rfl (pc' := 114) rfl (s_icmp_ge (M := mX1_become) (off := 21) (tgt := 135) (by decide +kernel) (by decide +kernel) (fun _ => s_run (M := mX1_become) [(.aload_n 0, 1, (0, 0), 0), (.getfield 24, 3, (1, 10), 0), (.iload_n 2, 1, (0, 0), 0), (.aload_n 1, 1, (0, 0), 0), (.getfield 24, 3, (1, 10), 0), (.iload_n 2, 1, (0, 0), 0)] (ls' := [.ref 9, .ref 3, .int i11]) (st' := [.int i11, .ref 8, .int i11, .ref 14]) (h' := h12) (by decide +kernel) rfl (pc' := 127) rfl (s_iald (M := mX1_become) (n := 6) (by decide +kernel) (by decide) (fun r15 => s_iast (M := mX1_become) (n := 6) (by decide +kernel) (by decide) (fun h16 => s_run (M := mX1_become) [(.iinc 2 1, 3, (0, 0), 1), (.goto (-21), 3, (111, 0), 0)] (ls' := [.ref 9, .ref 3, .int (i11 + 1)]) (st' := []) (h' := h16) (by decide +kernel) rfl (pc' := 111) rfl (H14 (i11 + 1) h16))))) (fun _ => s_retV (M := mX1_become) (by decide +kernel) rfl))) 400 0 h8)))) 400 0 h6))))))))))))))
set_option maxRecDepth 20000 in
set_option maxHeartbeats 4000000 in
theorem c_X1_knownAs_9 (h : HS) (p1 : Int32) : CSim mX1_knownAs (cI_ h) [.ref 9, .int p1] h (f_X1_knownAs h 9 p1) :=
  csim_of (by decide +kernel) rfl (Nat.le_of_ble_eq_true rfl) (ls := [.ref 9, .int p1]) rfl (by
    unfold f_X1_knownAs
    exact s_run (M := mX1_knownAs) [(.aload_n 0, 1, (0, 0), 0), (.iload_n 1, 1, (0, 0), 0)] (ls' := [.ref 9, .int p1]) (st' := [.int p1, .ref 9]) (h' := h) (by decide +kernel) rfl (pc' := 2) rfl (s_cVZ ckX1_knownAs_84 [.int p1] 9 (st := []) rfl rfl rfl (by decide) (Nat.le_of_ble_eq_true rfl) (by decide +kernel) (c_X1_isMatter_9 _ _) (fun r1 => s_bif_eq (M := mX1_knownAs) (off := 12) (tgt := 17) (by decide +kernel) (by decide +kernel) (fun _ => s_run (M := mX1_knownAs) [(.aload_n 0, 1, (0, 0), 0), (.getfield 21, 3, (1, 9), 0), (.iload_n 1, 1, (0, 0), 0)] (ls' := [.ref 9, .int p1]) (st' := [.int p1, .ref 13]) (h' := h) (by decide +kernel) rfl (pc' := 13) rfl (s_iald (M := mX1_knownAs) (n := 4) (by decide +kernel) (by decide) (fun r2 => s_run (M := mX1_knownAs) [(.goto 5, 3, (19, 0), 0)] (ls' := [.ref 9, .int p1]) (st' := [.int r2]) (h' := h) (by decide +kernel) rfl (pc' := 19) rfl (s_retI (M := mX1_knownAs) (by decide +kernel) rfl)))) (fun _ => s_run (M := mX1_knownAs) [(.bipush (-9), 2, (0, 0), (-9))] (ls' := [.ref 9, .int p1]) (st' := [.int (-9)]) (h' := h) (by decide +kernel) rfl (pc' := 19) rfl (s_retI (M := mX1_knownAs) (by decide +kernel) rfl)))))
set_option maxRecDepth 20000 in
set_option maxHeartbeats 4000000 in
theorem c_X1_seersOf_9 (h : HS) (p1 : Int32) (p2 : Int32) : CSim mX1_seersOf (cI_ h) [.ref 9, .int p1, .int p2] h (f_X1_seersOf h 9 p1 p2) :=
  csim_of (by decide +kernel) rfl (Nat.le_of_ble_eq_true rfl) (ls := [.ref 9, .int p1, .int p2, .null]) rfl (by
    unfold f_X1_seersOf
    exact s_run (M := mX1_seersOf) [(.aload_n 0, 1, (0, 0), 0), (.iload_n 1, 1, (0, 0), 0)] (ls' := [.ref 9, .int p1, .int p2, .null]) (st' := [.int p1, .ref 9]) (h' := h) (by decide +kernel) rfl (pc' := 2) rfl (s_cVZ ckX1_seersOf_84 [.int p1] 9 (st := []) rfl rfl rfl (by decide) (Nat.le_of_ble_eq_true rfl) (by decide +kernel) (c_X1_isMatter_9 _ _) (fun r1 => s_bif_ne (M := mX1_seersOf) (off := 5) (tgt := 10) (by decide +kernel) (by decide +kernel) (fun _ => s_run (M := mX1_seersOf) [(.iload_n 2, 1, (0, 0), 0)] (ls' := [.ref 9, .int p1, .int p2, .null]) (st' := [.int p2]) (h' := h) (by decide +kernel) rfl (pc' := 11) rfl (s_jn (fun (j3 : Int32 → Option Int32) => ∀ (t2 : Int32), Sim none mX1_seersOf (cI_ h) 27 [.ref 9, .int p1, .null, .null] [.int t2] h (j3 t2)) (fun t2 => s_run (M := mX1_seersOf) [(.istore_n 3, 1, (0, 0), 0), (.aload_n 0, 1, (0, 0), 0), (.getfield 9, 3, (1, 6), 0), (.iload_n 1, 1, (0, 0), 0)] (ls' := [.ref 9, .int p1, .null, .int t2]) (st' := [.int p1, .ref 10]) (h' := h) (by decide +kernel) rfl (pc' := 33) rfl (s_iald (M := mX1_seersOf) (n := 4) (by decide +kernel) (by decide) (fun r5 => s_run (M := mX1_seersOf) [(.iload_n 3, 1, (0, 0), 0), (.aload_n 0, 1, (0, 0), 0), (.getfield 40, 3, (1, 4), 0), (.ior, 1, (0, 0), 0), (.iand, 1, (0, 0), 0), (.aload_n 0, 1, (0, 0), 0), (.getfield 43, 3, (1, 5), 0), (.iconst (-1), 1, (0, 0), (-1)), (.ixor, 1, (0, 0), 0), (.iand, 1, (0, 0), 0)] (ls' := [.ref 9, .int p1, .null, .int t2]) (st' := [.int ((r5 &&& (t2 ||| (h.1 9 4))) &&& ((h.1 9 5) ^^^ (-1)))]) (h' := h) (by decide +kernel) rfl (pc' := 48) rfl (s_retI (M := mX1_seersOf) (by decide +kernel) rfl)))) (fun j3 J4 => s_if_ne (M := mX1_seersOf) (off := 12) (tgt := 23) (by decide +kernel) (by decide +kernel) (fun _ => s_run (M := mX1_seersOf) [(.aload_n 0, 1, (0, 0), 0), (.getfield 34, 3, (1, 2), 0), (.iconst (-1), 1, (0, 0), (-1)), (.ixor, 1, (0, 0), 0), (.goto 7, 3, (27, 0), 0)] (ls' := [.ref 9, .int p1, .int p2, .null]) (st' := [.int ((h.1 9 2) ^^^ (-1))]) (h' := h) (by decide +kernel) rfl (pc' := 27) rfl (s_wk (ls' := [.ref 9, .int p1, .null, .null]) ⟨Or.inr rfl, Or.inr rfl, Or.inl rfl, Or.inl rfl, trivial⟩ (J4 ((h.1 9 2) ^^^ (-1))))) (fun _ => s_run (M := mX1_seersOf) [(.aload_n 0, 1, (0, 0), 0), (.getfield 34, 3, (1, 2), 0)] (ls' := [.ref 9, .int p1, .int p2, .null]) (st' := [.int (h.1 9 2)]) (h' := h) (by decide +kernel) rfl (pc' := 27) rfl (s_wk (ls' := [.ref 9, .int p1, .null, .null]) ⟨Or.inr rfl, Or.inr rfl, Or.inl rfl, Or.inl rfl, trivial⟩ (J4 (h.1 9 2))))))) (fun _ => s_run (M := mX1_seersOf) [(.iconst 0, 1, (0, 0), 0)] (ls' := [.ref 9, .int p1, .int p2, .null]) (st' := [.int 0]) (h' := h) (by decide +kernel) rfl (pc' := 9) rfl (s_retI (M := mX1_seersOf) (by decide +kernel) rfl)))))
set_option maxRecDepth 20000 in
set_option maxHeartbeats 4000000 in
theorem c_X1_isCouple_9 (h : HS) (p1 : Int32) (p2 : Int32) (p3 : Int32) : CSim mX1_isCouple (cZ_ h) [.ref 9, .int p1, .int p2, .int p3] h (f_X1_isCouple h 9 p1 p2 p3) :=
  csim_of (by decide +kernel) rfl (Nat.le_of_ble_eq_true rfl) (ls := [.ref 9, .int p1, .int p2, .int p3]) rfl (by
    unfold f_X1_isCouple
    exact s_run (M := mX1_isCouple) [(.iload_n 1, 1, (0, 0), 0), (.iload_n 2, 1, (0, 0), 0)] (ls' := [.ref 9, .int p1, .int p2, .int p3]) (st' := [.int p2, .int p1]) (h' := h) (by decide +kernel) rfl (pc' := 2) rfl (s_icmp_eq (M := mX1_isCouple) (off := 51) (tgt := 53) (by decide +kernel) (by decide +kernel) (fun _ => s_run (M := mX1_isCouple) [(.iconst 0, 1, (0, 0), 0)] (ls' := [.ref 9, .int p1, .int p2, .int p3]) (st' := [.int 0]) (h' := h) (by decide +kernel) rfl (pc' := 54) rfl (s_retZ (M := mX1_isCouple) (v := false) (by decide +kernel) rfl)) (fun _ => s_run (M := mX1_isCouple) [(.aload_n 0, 1, (0, 0), 0), (.iload_n 1, 1, (0, 0), 0)] (ls' := [.ref 9, .int p1, .int p2, .int p3]) (st' := [.int p1, .ref 9]) (h' := h) (by decide +kernel) rfl (pc' := 7) rfl (s_cVZ ckX1_isCouple_78 [.int p1] 9 (st := []) rfl rfl rfl (by decide) (Nat.le_of_ble_eq_true rfl) (by decide +kernel) (c_X1_isPerson_9 _ _) (fun r1 => s_bif_eq (M := mX1_isCouple) (off := 43) (tgt := 53) (by decide +kernel) (by decide +kernel) (fun _ => s_run (M := mX1_isCouple) [(.aload_n 0, 1, (0, 0), 0), (.iload_n 2, 1, (0, 0), 0)] (ls' := [.ref 9, .int p1, .int p2, .int p3]) (st' := [.int p2, .ref 9]) (h' := h) (by decide +kernel) rfl (pc' := 15) rfl (s_cVZ ckX1_isCouple_78 [.int p2] 9 (st := []) rfl rfl rfl (by decide) (Nat.le_of_ble_eq_true rfl) (by decide +kernel) (c_X1_isPerson_9 _ _) (fun r2 => s_bif_eq (M := mX1_isCouple) (off := 35) (tgt := 53) (by decide +kernel) (by decide +kernel) (fun _ => s_run (M := mX1_isCouple) [(.aload_n 0, 1, (0, 0), 0), (.iload_n 3, 1, (0, 0), 0), (.iconst 0, 1, (0, 0), 0)] (ls' := [.ref 9, .int p1, .int p2, .int p3]) (st' := [.int 0, .int p3, .ref 9]) (h' := h) (by decide +kernel) rfl (pc' := 24) rfl (s_cVI ckX1_isCouple_97 [.int p3, .int 0] 9 (st := []) rfl rfl rfl (by decide) (Nat.le_of_ble_eq_true rfl) (by decide +kernel) (c_X1_seersOf_9 _ _ _) (fun r3 => s_run (M := mX1_isCouple) [(.iload_n 1, 1, (0, 0), 0), (.ishr, 1, (0, 0), 0), (.iconst 1, 1, (0, 0), 1), (.iand, 1, (0, 0), 0), (.iconst 1, 1, (0, 0), 1)] (ls' := [.ref 9, .int p1, .int p2, .int p3]) (st' := [.int 1, .int ((r3 >>> (p1 &&& 31)) &&& 1)]) (h' := h) (by decide +kernel) rfl (pc' := 32) rfl (s_icmp_ne (M := mX1_isCouple) (off := 21) (tgt := 53) (by decide +kernel) (by decide +kernel) (fun _ => s_run (M := mX1_isCouple) [(.aload_n 0, 1, (0, 0), 0), (.iload_n 3, 1, (0, 0), 0), (.iconst 1, 1, (0, 0), 1)] (ls' := [.ref 9, .int p1, .int p2, .int p3]) (st' := [.int 1, .int p3, .ref 9]) (h' := h) (by decide +kernel) rfl (pc' := 38) rfl (s_cVI ckX1_isCouple_97 [.int p3, .int 1] 9 (st := []) rfl rfl rfl (by decide) (Nat.le_of_ble_eq_true rfl) (by decide +kernel) (c_X1_seersOf_9 _ _ _) (fun r4 => s_run (M := mX1_isCouple) [(.iload_n 2, 1, (0, 0), 0), (.ishr, 1, (0, 0), 0), (.iconst 1, 1, (0, 0), 1), (.iand, 1, (0, 0), 0), (.iconst 1, 1, (0, 0), 1)] (ls' := [.ref 9, .int p1, .int p2, .int p3]) (st' := [.int 1, .int ((r4 >>> (p2 &&& 31)) &&& 1)]) (h' := h) (by decide +kernel) rfl (pc' := 46) rfl (s_icmp_ne (M := mX1_isCouple) (off := 7) (tgt := 53) (by decide +kernel) (by decide +kernel) (fun _ => s_run (M := mX1_isCouple) [(.iconst 1, 1, (0, 0), 1), (.goto 4, 3, (54, 0), 0)] (ls' := [.ref 9, .int p1, .int p2, .int p3]) (st' := [.int 1]) (h' := h) (by decide +kernel) rfl (pc' := 54) rfl (s_retZ (M := mX1_isCouple) (v := true) (by decide +kernel) rfl)) (fun _ => s_run (M := mX1_isCouple) [(.iconst 0, 1, (0, 0), 0)] (ls' := [.ref 9, .int p1, .int p2, .int p3]) (st' := [.int 0]) (h' := h) (by decide +kernel) rfl (pc' := 54) rfl (s_retZ (M := mX1_isCouple) (v := false) (by decide +kernel) rfl)))))) (fun _ => s_run (M := mX1_isCouple) [(.iconst 0, 1, (0, 0), 0)] (ls' := [.ref 9, .int p1, .int p2, .int p3]) (st' := [.int 0]) (h' := h) (by decide +kernel) rfl (pc' := 54) rfl (s_retZ (M := mX1_isCouple) (v := false) (by decide +kernel) rfl)))))) (fun _ => s_run (M := mX1_isCouple) [(.iconst 0, 1, (0, 0), 0)] (ls' := [.ref 9, .int p1, .int p2, .int p3]) (st' := [.int 0]) (h' := h) (by decide +kernel) rfl (pc' := 54) rfl (s_retZ (M := mX1_isCouple) (v := false) (by decide +kernel) rfl))))) (fun _ => s_run (M := mX1_isCouple) [(.iconst 0, 1, (0, 0), 0)] (ls' := [.ref 9, .int p1, .int p2, .int p3]) (st' := [.int 0]) (h' := h) (by decide +kernel) rfl (pc' := 54) rfl (s_retZ (M := mX1_isCouple) (v := false) (by decide +kernel) rfl)))))))
set_option maxRecDepth 20000 in
set_option maxHeartbeats 4000000 in
theorem c_X1_canLearn_9 (h : HS) (p1 : Int32) (p2 : Int32) (p3 : Int32) : CSim mX1_canLearn (cZ_ h) [.ref 9, .int p1, .int p2, .int p3] h (f_X1_canLearn h 9 p1 p2 p3) :=
  csim_of (by decide +kernel) rfl (Nat.le_of_ble_eq_true rfl) (ls := [.ref 9, .int p1, .int p2, .int p3]) rfl (by
    unfold f_X1_canLearn
    exact s_run (M := mX1_canLearn) [(.aload_n 0, 1, (0, 0), 0), (.iload_n 3, 1, (0, 0), 0)] (ls' := [.ref 9, .int p1, .int p2, .int p3]) (st' := [.int p3, .ref 9]) (h' := h) (by decide +kernel) rfl (pc' := 2) rfl (s_cVZ ckX1_canLearn_84 [.int p3] 9 (st := []) rfl rfl rfl (by decide) (Nat.le_of_ble_eq_true rfl) (by decide +kernel) (c_X1_isMatter_9 _ _) (fun r1 => s_bif_eq (M := mX1_canLearn) (off := 27) (tgt := 32) (by decide +kernel) (by decide +kernel) (fun _ => s_run (M := mX1_canLearn) [(.aload_n 0, 1, (0, 0), 0), (.iload_n 3, 1, (0, 0), 0)] (ls' := [.ref 9, .int p1, .int p2, .int p3]) (st' := [.int p3, .ref 9]) (h' := h) (by decide +kernel) rfl (pc' := 10) rfl (s_cVI ckX1_canLearn_87 [.int p3] 9 (st := []) rfl rfl rfl (by decide) (Nat.le_of_ble_eq_true rfl) (by decide +kernel) (c_X1_knownAs_9 _ _) (fun r2 => s_run (M := mX1_canLearn) [(.bipush (-9), 2, (0, 0), (-9))] (ls' := [.ref 9, .int p1, .int p2, .int p3]) (st' := [.int (-9), .int r2]) (h' := h) (by decide +kernel) rfl (pc' := 15) rfl (s_icmp_ne (M := mX1_canLearn) (off := 17) (tgt := 32) (by decide +kernel) (by decide +kernel) (fun _ => s_run (M := mX1_canLearn) [(.aload_n 0, 1, (0, 0), 0), (.iload_n 1, 1, (0, 0), 0), (.iload_n 2, 1, (0, 0), 0), (.iload_n 3, 1, (0, 0), 0)] (ls' := [.ref 9, .int p1, .int p2, .int p3]) (st' := [.int p3, .int p2, .int p1, .ref 9]) (h' := h) (by decide +kernel) rfl (pc' := 22) rfl (s_cVZ ckX1_canLearn_107 [.int p1, .int p2, .int p3] 9 (st := []) rfl rfl rfl (by decide) (Nat.le_of_ble_eq_true rfl) (by decide +kernel) (c_X1_isCouple_9 _ _ _ _) (fun r3 => s_bif_eq (M := mX1_canLearn) (off := 7) (tgt := 32) (by decide +kernel) (by decide +kernel) (fun _ => s_run (M := mX1_canLearn) [(.iconst 1, 1, (0, 0), 1), (.goto 4, 3, (33, 0), 0)] (ls' := [.ref 9, .int p1, .int p2, .int p3]) (st' := [.int 1]) (h' := h) (by decide +kernel) rfl (pc' := 33) rfl (s_retZ (M := mX1_canLearn) (v := true) (by decide +kernel) rfl)) (fun _ => s_run (M := mX1_canLearn) [(.iconst 0, 1, (0, 0), 0)] (ls' := [.ref 9, .int p1, .int p2, .int p3]) (st' := [.int 0]) (h' := h) (by decide +kernel) rfl (pc' := 33) rfl (s_retZ (M := mX1_canLearn) (v := false) (by decide +kernel) rfl))))) (fun _ => s_run (M := mX1_canLearn) [(.iconst 0, 1, (0, 0), 0)] (ls' := [.ref 9, .int p1, .int p2, .int p3]) (st' := [.int 0]) (h' := h) (by decide +kernel) rfl (pc' := 33) rfl (s_retZ (M := mX1_canLearn) (v := false) (by decide +kernel) rfl)))))) (fun _ => s_run (M := mX1_canLearn) [(.iconst 0, 1, (0, 0), 0)] (ls' := [.ref 9, .int p1, .int p2, .int p3]) (st' := [.int 0]) (h' := h) (by decide +kernel) rfl (pc' := 33) rfl (s_retZ (M := mX1_canLearn) (v := false) (by decide +kernel) rfl)))))
set_option maxRecDepth 20000 in
set_option maxHeartbeats 4000000 in
theorem c_X1_halfOf_9 (h : HS) (p1 : Int32) (p2 : Int32) : CSim mX1_halfOf (cI_ h) [.ref 9, .int p1, .int p2] h (f_X1_halfOf h 9 p1 p2) :=
  csim_of (by decide +kernel) rfl (Nat.le_of_ble_eq_true rfl) (ls := [.ref 9, .int p1, .int p2]) rfl (by
    unfold f_X1_halfOf
    exact s_run (M := mX1_halfOf) [(.aload_n 0, 1, (0, 0), 0), (.iload_n 1, 1, (0, 0), 0)] (ls' := [.ref 9, .int p1, .int p2]) (st' := [.int p1, .ref 9]) (h' := h) (by decide +kernel) rfl (pc' := 2) rfl (s_cVZ ckX1_halfOf_84 [.int p1] 9 (st := []) rfl rfl rfl (by decide) (Nat.le_of_ble_eq_true rfl) (by decide +kernel) (c_X1_isMatter_9 _ _) (fun r1 => s_bif_ne (M := mX1_halfOf) (off := 6) (tgt := 11) (by decide +kernel) (by decide +kernel) (fun _ => s_run (M := mX1_halfOf) [(.iload_n 2, 1, (0, 0), 0)] (ls' := [.ref 9, .int p1, .int p2]) (st' := [.int p2]) (h' := h) (by decide +kernel) rfl (pc' := 12) rfl (s_if_ne (M := mX1_halfOf) (off := 12) (tgt := 24) (by decide +kernel) (by decide +kernel) (fun _ => s_run (M := mX1_halfOf) [(.aload_n 0, 1, (0, 0), 0), (.getfield 15, 3, (1, 7), 0), (.iload_n 1, 1, (0, 0), 0)] (ls' := [.ref 9, .int p1, .int p2]) (st' := [.int p1, .ref 11]) (h' := h) (by decide +kernel) rfl (pc' := 20) rfl (s_iald (M := mX1_halfOf) (n := 4) (by decide +kernel) (by decide) (fun r3 => s_run (M := mX1_halfOf) [(.goto 9, 3, (30, 0), 0)] (ls' := [.ref 9, .int p1, .int p2]) (st' := [.int r3]) (h' := h) (by decide +kernel) rfl (pc' := 30) rfl (s_retI (M := mX1_halfOf) (by decide +kernel) rfl)))) (fun _ => s_run (M := mX1_halfOf) [(.aload_n 0, 1, (0, 0), 0), (.getfield 18, 3, (1, 8), 0), (.iload_n 1, 1, (0, 0), 0)] (ls' := [.ref 9, .int p1, .int p2]) (st' := [.int p1, .ref 12]) (h' := h) (by decide +kernel) rfl (pc' := 29) rfl (s_iald (M := mX1_halfOf) (n := 4) (by decide +kernel) (by decide) (fun r2 => s_retI (M := mX1_halfOf) (by decide +kernel) rfl))))) (fun _ => s_run (M := mX1_halfOf) [(.bipush (-9), 2, (0, 0), (-9))] (ls' := [.ref 9, .int p1, .int p2]) (st' := [.int (-9)]) (h' := h) (by decide +kernel) rfl (pc' := 10) rfl (s_retI (M := mX1_halfOf) (by decide +kernel) rfl)))))
set_option maxRecDepth 20000 in
set_option maxHeartbeats 4000000 in
theorem c_X1_kindOf_9 (h : HS) (p1 : Int32) : CSim mX1_kindOf (cI_ h) [.ref 9, .int p1] h (f_X1_kindOf h 9 p1) :=
  csim_of (by decide +kernel) rfl (Nat.le_of_ble_eq_true rfl) (ls := [.ref 9, .int p1, .null]) rfl (by
    unfold f_X1_kindOf
    exact s_run (M := mX1_kindOf) [(.iconst 1, 1, (0, 0), 1), (.iload_n 1, 1, (0, 0), 0), (.ishl, 1, (0, 0), 0), (.istore_n 2, 1, (0, 0), 0)] (ls' := [.ref 9, .int p1, .int (1 <<< (p1 &&& 31))]) (st' := []) (h' := h) (by decide +kernel) rfl (pc' := 4) rfl (s_lt ((1 <<< (p1 &&& 31)) : Int32) (fun v1 => [.ref 9, .int p1, .int v1]) (fun _ => []) (fun _ => h) (fun v1 => s_run (M := mX1_kindOf) [(.aload_n 0, 1, (0, 0), 0), (.getfield 37, 3, (1, 3), 0), (.iload_n 2, 1, (0, 0), 0), (.iand, 1, (0, 0), 0)] (ls' := [.ref 9, .int p1, .int v1]) (st' := [.int ((h.1 9 3) &&& v1)]) (h' := h) (by decide +kernel) rfl (pc' := 10) rfl (s_if_eq (M := mX1_kindOf) (off := 5) (tgt := 15) (by decide +kernel) (by decide +kernel) (fun _ => s_run (M := mX1_kindOf) [(.aload_n 0, 1, (0, 0), 0), (.getfield 40, 3, (1, 4), 0), (.iload_n 2, 1, (0, 0), 0), (.iand, 1, (0, 0), 0)] (ls' := [.ref 9, .int p1, .int v1]) (st' := [.int ((h.1 9 4) &&& v1)]) (h' := h) (by decide +kernel) rfl (pc' := 21) rfl (s_if_eq (M := mX1_kindOf) (off := 5) (tgt := 26) (by decide +kernel) (by decide +kernel) (fun _ => s_run (M := mX1_kindOf) [(.aload_n 0, 1, (0, 0), 0), (.getfield 43, 3, (1, 5), 0), (.iload_n 2, 1, (0, 0), 0), (.iand, 1, (0, 0), 0)] (ls' := [.ref 9, .int p1, .int v1]) (st' := [.int ((h.1 9 5) &&& v1)]) (h' := h) (by decide +kernel) rfl (pc' := 32) rfl (s_if_eq (M := mX1_kindOf) (off := 7) (tgt := 39) (by decide +kernel) (by decide +kernel) (fun _ => s_run (M := mX1_kindOf) [(.iconst 0, 1, (0, 0), 0)] (ls' := [.ref 9, .int p1, .int v1]) (st' := [.int 0]) (h' := h) (by decide +kernel) rfl (pc' := 40) rfl (s_retI (M := mX1_kindOf) (by decide +kernel) rfl)) (fun _ => s_run (M := mX1_kindOf) [(.iconst 3, 1, (0, 0), 3), (.goto 4, 3, (40, 0), 0)] (ls' := [.ref 9, .int p1, .int v1]) (st' := [.int 3]) (h' := h) (by decide +kernel) rfl (pc' := 40) rfl (s_retI (M := mX1_kindOf) (by decide +kernel) rfl)))) (fun _ => s_run (M := mX1_kindOf) [(.iconst 2, 1, (0, 0), 2)] (ls' := [.ref 9, .int p1, .int v1]) (st' := [.int 2]) (h' := h) (by decide +kernel) rfl (pc' := 25) rfl (s_retI (M := mX1_kindOf) (by decide +kernel) rfl)))) (fun _ => s_run (M := mX1_kindOf) [(.iconst 1, 1, (0, 0), 1)] (ls' := [.ref 9, .int p1, .int v1]) (st' := [.int 1]) (h' := h) (by decide +kernel) rfl (pc' := 14) rfl (s_retI (M := mX1_kindOf) (by decide +kernel) rfl))))))
set_option maxRecDepth 20000 in
set_option maxHeartbeats 4000000 in
theorem c_X1_saidBy_9 (h : HS) (p1 : Int32) (p2 : Int32) (p3 : Int32) : CSim mX1_saidBy (cI_ h) [.ref 9, .int p1, .int p2, .int p3] h (f_X1_saidBy h 9 p1 p2 p3) :=
  csim_of (by decide +kernel) rfl (Nat.le_of_ble_eq_true rfl) (ls := [.ref 9, .int p1, .int p2, .int p3, .null]) rfl (by
    unfold f_X1_saidBy
    exact s_run (M := mX1_saidBy) [(.aload_n 0, 1, (0, 0), 0), (.iload_n 2, 1, (0, 0), 0), (.iload_n 3, 1, (0, 0), 0)] (ls' := [.ref 9, .int p1, .int p2, .int p3, .null]) (st' := [.int p3, .int p2, .ref 9]) (h' := h) (by decide +kernel) rfl (pc' := 3) rfl (s_cVI ckX1_saidBy_97 [.int p2, .int p3] 9 (st := []) rfl rfl rfl (by decide) (Nat.le_of_ble_eq_true rfl) (by decide +kernel) (c_X1_seersOf_9 _ _ _) (fun r1 => s_run (M := mX1_saidBy) [(.iload_n 1, 1, (0, 0), 0), (.ishr, 1, (0, 0), 0), (.iconst 1, 1, (0, 0), 1), (.iand, 1, (0, 0), 0)] (ls' := [.ref 9, .int p1, .int p2, .int p3, .null]) (st' := [.int ((r1 >>> (p1 &&& 31)) &&& 1)]) (h' := h) (by decide +kernel) rfl (pc' := 10) rfl (s_if_ne (M := mX1_saidBy) (off := 6) (tgt := 16) (by decide +kernel) (by decide +kernel) (fun _ => s_run (M := mX1_saidBy) [(.bipush (-9), 2, (0, 0), (-9))] (ls' := [.ref 9, .int p1, .int p2, .int p3, .null]) (st' := [.int (-9)]) (h' := h) (by decide +kernel) rfl (pc' := 15) rfl (s_retI (M := mX1_saidBy) (by decide +kernel) rfl)) (fun _ => s_run (M := mX1_saidBy) [(.aload_n 0, 1, (0, 0), 0), (.iload_n 2, 1, (0, 0), 0), (.iload_n 3, 1, (0, 0), 0)] (ls' := [.ref 9, .int p1, .int p2, .int p3, .null]) (st' := [.int p3, .int p2, .ref 9]) (h' := h) (by decide +kernel) rfl (pc' := 19) rfl (s_cVI ckX1_saidBy_93 [.int p2, .int p3] 9 (st := []) rfl rfl rfl (by decide) (Nat.le_of_ble_eq_true rfl) (by decide +kernel) (c_X1_halfOf_9 _ _ _) (fun r2 => s_run (M := mX1_saidBy) [(.istore 4, 2, (0, 0), 0), (.aload_n 0, 1, (0, 0), 0), (.iload_n 1, 1, (0, 0), 0)] (ls' := [.ref 9, .int p1, .int p2, .int p3, .int r2]) (st' := [.int p1, .ref 9]) (h' := h) (by decide +kernel) rfl (pc' := 26) rfl (s_cVI ckX1_saidBy_100 [.int p1] 9 (st := []) rfl rfl rfl (by decide) (Nat.le_of_ble_eq_true rfl) (by decide +kernel) (c_X1_kindOf_9 _ _) (fun r3 => s_run (M := mX1_saidBy) [(.iconst 1, 1, (0, 0), 1)] (ls' := [.ref 9, .int p1, .int p2, .int p3, .int r2]) (st' := [.int 1, .int r3]) (h' := h) (by decide +kernel) rfl (pc' := 30) rfl (s_icmp_ne (M := mX1_saidBy) (off := 11) (tgt := 41) (by decide +kernel) (by decide +kernel) (fun _ => s_run (M := mX1_saidBy) [(.bipush 9, 2, (0, 0), 9), (.iload 4, 2, (0, 0), 0), (.isub, 1, (0, 0), 0), (.goto 5, 3, (43, 0), 0)] (ls' := [.ref 9, .int p1, .int p2, .int p3, .int r2]) (st' := [.int (9 - r2)]) (h' := h) (by decide +kernel) rfl (pc' := 43) rfl (s_retI (M := mX1_saidBy) (by decide +kernel) rfl)) (fun _ => s_run (M := mX1_saidBy) [(.iload 4, 2, (0, 0), 0)] (ls' := [.ref 9, .int p1, .int p2, .int p3, .int r2]) (st' := [.int r2]) (h' := h) (by decide +kernel) rfl (pc' := 43) rfl (s_retI (M := mX1_saidBy) (by decide +kernel) rfl))))))))))))
set_option maxRecDepth 20000 in
set_option maxHeartbeats 4000000 in
theorem c_X1_toldBy_9 (h : HS) (p1 : Int32) (p2 : Int32) (p3 : Int32) : CSim mX1_toldBy (cI_ h) [.ref 9, .int p1, .int p2, .int p3] h (f_X1_toldBy h 9 p1 p2 p3) :=
  csim_of (by decide +kernel) rfl (Nat.le_of_ble_eq_true rfl) (ls := [.ref 9, .int p1, .int p2, .int p3]) rfl (by
    unfold f_X1_toldBy
    exact s_run (M := mX1_toldBy) [(.bipush 10, 2, (0, 0), 10), (.aload_n 0, 1, (0, 0), 0), (.iload_n 1, 1, (0, 0), 0), (.iload_n 3, 1, (0, 0), 0), (.iconst 0, 1, (0, 0), 0)] (ls' := [.ref 9, .int p1, .int p2, .int p3]) (st' := [.int 0, .int p3, .int p1, .ref 9, .int 10]) (h' := h) (by decide +kernel) rfl (pc' := 6) rfl (s_cVI ckX1_toldBy_103 [.int p1, .int p3, .int 0] 9 (st := [.int 10]) rfl rfl rfl (by decide) (Nat.le_of_ble_eq_true rfl) (by decide +kernel) (c_X1_saidBy_9 _ _ _ _) (fun r1 => s_run (M := mX1_toldBy) [(.imul, 1, (0, 0), 0), (.aload_n 0, 1, (0, 0), 0), (.iload_n 2, 1, (0, 0), 0), (.iload_n 3, 1, (0, 0), 0), (.iconst 1, 1, (0, 0), 1)] (ls' := [.ref 9, .int p1, .int p2, .int p3]) (st' := [.int 1, .int p3, .int p2, .ref 9, .int (10 * r1)]) (h' := h) (by decide +kernel) rfl (pc' := 14) rfl (s_cVI ckX1_toldBy_103 [.int p2, .int p3, .int 1] 9 (st := [.int (10 * r1)]) rfl rfl rfl (by decide) (Nat.le_of_ble_eq_true rfl) (by decide +kernel) (c_X1_saidBy_9 _ _ _ _) (fun r2 => s_run (M := mX1_toldBy) [(.iadd, 1, (0, 0), 0)] (ls' := [.ref 9, .int p1, .int p2, .int p3]) (st' := [.int ((10 * r1) + r2)]) (h' := h) (by decide +kernel) rfl (pc' := 18) rfl (s_retI (M := mX1_toldBy) (by decide +kernel) rfl))))))
set_option maxRecDepth 20000 in
set_option maxHeartbeats 4000000 in
theorem c_X1_setKnown_9 (h : HS) (p1 : Int32) (p2 : Int32) : CSim mX1_setKnown cV_ [.ref 9, .int p1, .int p2] h (f_X1_setKnown h 9 p1 p2) :=
  csim_of (by decide +kernel) rfl (Nat.le_of_ble_eq_true rfl) (ls := [.ref 9, .int p1, .int p2]) rfl (by
    unfold f_X1_setKnown
    exact s_run (M := mX1_setKnown) [(.aload_n 0, 1, (0, 0), 0), (.iload_n 1, 1, (0, 0), 0)] (ls' := [.ref 9, .int p1, .int p2]) (st' := [.int p1, .ref 9]) (h' := h) (by decide +kernel) rfl (pc' := 2) rfl (s_cVZ ckX1_setKnown_84 [.int p1] 9 (st := []) rfl rfl rfl (by decide) (Nat.le_of_ble_eq_true rfl) (by decide +kernel) (c_X1_isMatter_9 _ _) (fun r1 => s_bif_eq (M := mX1_setKnown) (off := 10) (tgt := 15) (by decide +kernel) (by decide +kernel) (fun _ => s_run (M := mX1_setKnown) [(.aload_n 0, 1, (0, 0), 0), (.getfield 21, 3, (1, 9), 0), (.iload_n 1, 1, (0, 0), 0), (.iload_n 2, 1, (0, 0), 0)] (ls' := [.ref 9, .int p1, .int p2]) (st' := [.int p2, .int p1, .ref 13]) (h' := h) (by decide +kernel) rfl (pc' := 14) rfl (s_iast (M := mX1_setKnown) (n := 4) (by decide +kernel) (by decide) (fun h2 => s_retV (M := mX1_setKnown) (by decide +kernel) rfl))) (fun _ => s_retV (M := mX1_setKnown) (by decide +kernel) rfl))))
theorem ckX1_isLearnt_147 : ckV mX1_isLearnt mX1_canLearn 147 3 506 345 346 38 347 = true := by decide +kernel
theorem ckX1_isLearnt_111 : ckV mX1_isLearnt mX1_toldBy 111 3 407 354 355 38 356 = true := by decide +kernel
theorem ckX1_isLearnt_137 : ckV mX1_isLearnt mX1_setKnown 137 2 495 359 360 38 361 = true := by decide +kernel
set_option maxRecDepth 20000 in
set_option maxHeartbeats 4000000 in
theorem c_X1_isLearnt_9 (h : HS) (p1 : Int32) (p2 : Int32) (p3 : Int32) : CSim mX1_isLearnt cZH_ [.ref 9, .int p1, .int p2, .int p3] h (f_X1_isLearnt h 9 p1 p2 p3) :=
  csim_of (by decide +kernel) rfl (Nat.le_of_ble_eq_true rfl) (ls := [.ref 9, .int p1, .int p2, .int p3, .null]) rfl (by
    unfold f_X1_isLearnt
    exact s_run (M := mX1_isLearnt) [(.aload_n 0, 1, (0, 0), 0), (.iload_n 1, 1, (0, 0), 0), (.iload_n 2, 1, (0, 0), 0), (.iload_n 3, 1, (0, 0), 0)] (ls' := [.ref 9, .int p1, .int p2, .int p3, .null]) (st' := [.int p3, .int p2, .int p1, .ref 9]) (h' := h) (by decide +kernel) rfl (pc' := 4) rfl (s_cVZ ckX1_isLearnt_147 [.int p1, .int p2, .int p3] 9 (st := []) rfl rfl rfl (by decide) (Nat.le_of_ble_eq_true rfl) (by decide +kernel) (c_X1_canLearn_9 _ _ _ _) (fun r1 => s_run (M := mX1_isLearnt) [(.istore 4, 2, (0, 0), 0), (.iload 4, 2, (0, 0), 0)] (ls' := [.ref 9, .int p1, .int p2, .int p3, .int (b2i r1)]) (st' := [.int (b2i r1)]) (h' := h) (by decide +kernel) rfl (pc' := 11) rfl (s_bif_eq (M := mX1_isLearnt) (off := 15) (tgt := 26) (by decide +kernel) (by decide +kernel) (fun _ => s_run (M := mX1_isLearnt) [(.aload_n 0, 1, (0, 0), 0), (.iload_n 3, 1, (0, 0), 0), (.aload_n 0, 1, (0, 0), 0), (.iload_n 1, 1, (0, 0), 0), (.iload_n 2, 1, (0, 0), 0), (.iload_n 3, 1, (0, 0), 0)] (ls' := [.ref 9, .int p1, .int p2, .int p3, .int (b2i r1)]) (st' := [.int p3, .int p2, .int p1, .ref 9, .int p3, .ref 9]) (h' := h) (by decide +kernel) rfl (pc' := 20) rfl (s_cVI ckX1_isLearnt_111 [.int p1, .int p2, .int p3] 9 (st := [.int p3, .ref 9]) rfl rfl rfl (by decide) (Nat.le_of_ble_eq_true rfl) (by decide +kernel) (c_X1_toldBy_9 _ _ _ _) (fun r2 => s_cVV ckX1_isLearnt_137 [.int p3, .int r2] 9 (st := []) rfl rfl rfl (by decide) (Nat.le_of_ble_eq_true rfl) (by decide +kernel) (c_X1_setKnown_9 _ _ _) (fun h4 => s_run (M := mX1_isLearnt) [(.iload 4, 2, (0, 0), 0)] (ls' := [.ref 9, .int p1, .int p2, .int p3, .int (b2i r1)]) (st' := [.int (b2i r1)]) (h' := h4) (by decide +kernel) rfl (pc' := 28) rfl (s_retZH (M := mX1_isLearnt) (v := r1) (by decide +kernel) rfl))))) (fun _ => s_run (M := mX1_isLearnt) [(.iload 4, 2, (0, 0), 0)] (ls' := [.ref 9, .int p1, .int p2, .int p3, .int (b2i r1)]) (st' := [.int (b2i r1)]) (h' := h) (by decide +kernel) rfl (pc' := 28) rfl (s_retZH (M := mX1_isLearnt) (v := r1) (by decide +kernel) rfl))))))
set_option maxRecDepth 20000 in
set_option maxHeartbeats 4000000 in
theorem c_X1_canLoseGlass_9 (h : HS) (p1 : Int32) : CSim mX1_canLoseGlass (cZ_ h) [.ref 9, .int p1] h (f_X1_canLoseGlass h 9 p1) :=
  csim_of (by decide +kernel) rfl (Nat.le_of_ble_eq_true rfl) (ls := [.ref 9, .int p1]) rfl (by
    unfold f_X1_canLoseGlass
    exact s_run (M := mX1_canLoseGlass) [(.aload_n 0, 1, (0, 0), 0), (.iload_n 1, 1, (0, 0), 0)] (ls' := [.ref 9, .int p1]) (st' := [.int p1, .ref 9]) (h' := h) (by decide +kernel) rfl (pc' := 2) rfl (s_cVZ ckX1_canLoseGlass_78 [.int p1] 9 (st := []) rfl rfl rfl (by decide) (Nat.le_of_ble_eq_true rfl) (by decide +kernel) (c_X1_isPerson_9 _ _) (fun r1 => s_bif_eq (M := mX1_canLoseGlass) (off := 16) (tgt := 21) (by decide +kernel) (by decide +kernel) (fun _ => s_run (M := mX1_canLoseGlass) [(.aload_n 0, 1, (0, 0), 0), (.iload_n 1, 1, (0, 0), 0)] (ls' := [.ref 9, .int p1]) (st' := [.int p1, .ref 9]) (h' := h) (by decide +kernel) rfl (pc' := 10) rfl (s_cVI ckX1_canLoseGlass_100 [.int p1] 9 (st := []) rfl rfl rfl (by decide) (Nat.le_of_ble_eq_true rfl) (by decide +kernel) (c_X1_kindOf_9 _ _) (fun r2 => s_run (M := mX1_canLoseGlass) [(.iconst 3, 1, (0, 0), 3)] (ls' := [.ref 9, .int p1]) (st' := [.int 3, .int r2]) (h' := h) (by decide +kernel) rfl (pc' := 14) rfl (s_icmp_eq (M := mX1_canLoseGlass) (off := 7) (tgt := 21) (by decide +kernel) (by decide +kernel) (fun _ => s_run (M := mX1_canLoseGlass) [(.iconst 0, 1, (0, 0), 0)] (ls' := [.ref 9, .int p1]) (st' := [.int 0]) (h' := h) (by decide +kernel) rfl (pc' := 22) rfl (s_retZ (M := mX1_canLoseGlass) (v := false) (by decide +kernel) rfl)) (fun _ => s_run (M := mX1_canLoseGlass) [(.iconst 1, 1, (0, 0), 1), (.goto 4, 3, (22, 0), 0)] (ls' := [.ref 9, .int p1]) (st' := [.int 1]) (h' := h) (by decide +kernel) rfl (pc' := 22) rfl (s_retZ (M := mX1_canLoseGlass) (v := true) (by decide +kernel) rfl)))))) (fun _ => s_run (M := mX1_canLoseGlass) [(.iconst 0, 1, (0, 0), 0)] (ls' := [.ref 9, .int p1]) (st' := [.int 0]) (h' := h) (by decide +kernel) rfl (pc' := 22) rfl (s_retZ (M := mX1_canLoseGlass) (v := false) (by decide +kernel) rfl)))))
set_option maxRecDepth 20000 in
set_option maxHeartbeats 4000000 in
theorem c_X1_fine_9 (h : HS) (p1 : Int32) (p2 : Int32) : CSim mX1_fine cV_ [.ref 9, .int p1, .int p2] h (f_X1_fine h 9 p1 p2) :=
  csim_of (by decide +kernel) rfl (Nat.le_of_ble_eq_true rfl) (ls := [.ref 9, .int p1, .int p2]) rfl (by
    unfold f_X1_fine
    exact s_run (M := mX1_fine) [(.aload_n 0, 1, (0, 0), 0), (.iload_n 1, 1, (0, 0), 0)] (ls' := [.ref 9, .int p1, .int p2]) (st' := [.int p1, .ref 9]) (h' := h) (by decide +kernel) rfl (pc' := 2) rfl (s_cVZ ckX1_fine_78 [.int p1] 9 (st := []) rfl rfl rfl (by decide) (Nat.le_of_ble_eq_true rfl) (by decide +kernel) (c_X1_isPerson_9 _ _) (fun r1 => s_bif_eq (M := mX1_fine) (off := 13) (tgt := 18) (by decide +kernel) (by decide +kernel) (fun _ => s_run (M := mX1_fine) [(.aload_n 0, 1, (0, 0), 0), (.getfield 24, 3, (1, 10), 0), (.iload_n 1, 1, (0, 0), 0), (.dup2, 1, (0, 0), 0)] (ls' := [.ref 9, .int p1, .int p2]) (st' := [.int p1, .ref 14, .int p1, .ref 14]) (h' := h) (by decide +kernel) rfl (pc' := 14) rfl (s_iald (M := mX1_fine) (n := 6) (by decide +kernel) (by decide) (fun r2 => s_run (M := mX1_fine) [(.iload_n 2, 1, (0, 0), 0), (.iadd, 1, (0, 0), 0)] (ls' := [.ref 9, .int p1, .int p2]) (st' := [.int (r2 + p2), .int p1, .ref 14]) (h' := h) (by decide +kernel) rfl (pc' := 17) rfl (s_iast (M := mX1_fine) (n := 6) (by decide +kernel) (by decide) (fun h3 => s_retV (M := mX1_fine) (by decide +kernel) rfl))))) (fun _ => s_retV (M := mX1_fine) (by decide +kernel) rfl))))
set_option maxRecDepth 20000 in
set_option maxHeartbeats 4000000 in
theorem c_X1_loseGlass_9 (h : HS) (p1 : Int32) : CSim mX1_loseGlass cV_ [.ref 9, .int p1] h (f_X1_loseGlass h 9 p1) :=
  csim_of (by decide +kernel) rfl (Nat.le_of_ble_eq_true rfl) (ls := [.ref 9, .int p1, .null]) rfl (by
    unfold f_X1_loseGlass
    exact s_run (M := mX1_loseGlass) [(.iconst 1, 1, (0, 0), 1), (.iload_n 1, 1, (0, 0), 0), (.ishl, 1, (0, 0), 0), (.istore_n 2, 1, (0, 0), 0)] (ls' := [.ref 9, .int p1, .int (1 <<< (p1 &&& 31))]) (st' := []) (h' := h) (by decide +kernel) rfl (pc' := 4) rfl (s_lt ((1 <<< (p1 &&& 31)) : Int32) (fun v1 => [.ref 9, .int p1, .int v1]) (fun _ => []) (fun _ => h) (fun v1 => s_run (M := mX1_loseGlass) [(.aload_n 0, 1, (0, 0), 0), (.iload_n 1, 1, (0, 0), 0)] (ls' := [.ref 9, .int p1, .int v1]) (st' := [.int p1, .ref 9]) (h' := h) (by decide +kernel) rfl (pc' := 6) rfl (s_cVI ckX1_loseGlass_100 [.int p1] 9 (st := []) rfl rfl rfl (by decide) (Nat.le_of_ble_eq_true rfl) (by decide +kernel) (c_X1_kindOf_9 _ _) (fun r2 => s_run (M := mX1_loseGlass) [(.iconst 2, 1, (0, 0), 2)] (ls' := [.ref 9, .int p1, .int v1]) (st' := [.int 2, .int r2]) (h' := h) (by decide +kernel) rfl (pc' := 10) rfl (s_jn (fun (j4 : HS → Option HS) => ∀ (h3 : HS), Sim none mX1_loseGlass cV_ 32 [.ref 9, .int p1, .null] [] h3 (j4 h3)) (fun h3 => s_run (M := mX1_loseGlass) [(.aload_n 0, 1, (0, 0), 0), (.iload_n 1, 1, (0, 0), 0), (.iconst 1, 1, (0, 0), 1)] (ls' := [.ref 9, .int p1, .null]) (st' := [.int 1, .int p1, .ref 9]) (h' := h3) (by decide +kernel) rfl (pc' := 35) rfl (s_cVV ckX1_loseGlass_122 [.int p1, .int 1] 9 (st := []) rfl rfl rfl (by decide) (Nat.le_of_ble_eq_true rfl) (by decide +kernel) (c_X1_fine_9 _ _ _) (fun h7 => s_retV (M := mX1_loseGlass) (by decide +kernel) rfl))) (fun j4 J5 => s_icmp_ne (M := mX1_loseGlass) (off := 12) (tgt := 22) (by decide +kernel) (by decide +kernel) (fun _ => s_run (M := mX1_loseGlass) [(.aload_n 0, 1, (0, 0), 0), (.iload_n 2, 1, (0, 0), 0), (.iconst 0, 1, (0, 0), 0)] (ls' := [.ref 9, .int p1, .int v1]) (st' := [.int 0, .int v1, .ref 9]) (h' := h) (by decide +kernel) rfl (pc' := 16) rfl (s_cVV ckX1_loseGlass_71 [.int v1, .int 0] 9 (st := []) rfl rfl rfl (by decide) (Nat.le_of_ble_eq_true rfl) (by decide +kernel) (c_X1_setKind_9 _ _ _) (fun h10 => s_run (M := mX1_loseGlass) [(.goto 13, 3, (32, 0), 0)] (ls' := [.ref 9, .int p1, .int v1]) (st' := []) (h' := h10) (by decide +kernel) rfl (pc' := 32) rfl (s_wk (ls' := [.ref 9, .int p1, .null]) ⟨Or.inr rfl, Or.inr rfl, Or.inl rfl, trivial⟩ (J5 h10))))) (fun _ => s_run (M := mX1_loseGlass) [(.aload_n 0, 1, (0, 0), 0), (.dup, 1, (0, 0), 0), (.getfield 34, 3, (1, 2), 0), (.iload_n 2, 1, (0, 0), 0), (.ixor, 1, (0, 0), 0), (.putfield 34, 3, (1, 2), 0)] (ls' := [.ref 9, .int p1, .int v1]) (st' := []) (h' := (hset h 9 2 ((h.1 9 2) ^^^ v1))) (by decide +kernel) rfl (pc' := 32) rfl (s_lt ((hset h 9 2 ((h.1 9 2) ^^^ v1))) (fun _ => [.ref 9, .int p1, .int v1]) (fun _ => []) (fun h8 => h8) (fun h8 => s_wk (ls' := [.ref 9, .int p1, .null]) ⟨Or.inr rfl, Or.inr rfl, Or.inl rfl, trivial⟩ (J5 h8)))))))))))
theorem ckX1_losesGlass_140 : ckV mX1_losesGlass mX1_canLoseGlass 140 1 500 371 372 38 373 = true := by decide +kernel
theorem ckX1_losesGlass_143 : ckV mX1_losesGlass mX1_loseGlass 143 1 501 375 376 38 377 = true := by decide +kernel
set_option maxRecDepth 20000 in
set_option maxHeartbeats 4000000 in
theorem c_X1_losesGlass_9 (h : HS) (p1 : Int32) : CSim mX1_losesGlass cZH_ [.ref 9, .int p1] h (f_X1_losesGlass h 9 p1) :=
  csim_of (by decide +kernel) rfl (Nat.le_of_ble_eq_true rfl) (ls := [.ref 9, .int p1, .null]) rfl (by
    unfold f_X1_losesGlass
    exact s_run (M := mX1_losesGlass) [(.aload_n 0, 1, (0, 0), 0), (.iload_n 1, 1, (0, 0), 0)] (ls' := [.ref 9, .int p1, .null]) (st' := [.int p1, .ref 9]) (h' := h) (by decide +kernel) rfl (pc' := 2) rfl (s_cVZ ckX1_losesGlass_140 [.int p1] 9 (st := []) rfl rfl rfl (by decide) (Nat.le_of_ble_eq_true rfl) (by decide +kernel) (c_X1_canLoseGlass_9 _ _) (fun r1 => s_run (M := mX1_losesGlass) [(.istore_n 2, 1, (0, 0), 0), (.iload_n 2, 1, (0, 0), 0)] (ls' := [.ref 9, .int p1, .int (b2i r1)]) (st' := [.int (b2i r1)]) (h' := h) (by decide +kernel) rfl (pc' := 7) rfl (s_bif_eq (M := mX1_losesGlass) (off := 8) (tgt := 15) (by decide +kernel) (by decide +kernel) (fun _ => s_run (M := mX1_losesGlass) [(.aload_n 0, 1, (0, 0), 0), (.iload_n 1, 1, (0, 0), 0)] (ls' := [.ref 9, .int p1, .int (b2i r1)]) (st' := [.int p1, .ref 9]) (h' := h) (by decide +kernel) rfl (pc' := 12) rfl (s_cVV ckX1_losesGlass_143 [.int p1] 9 (st := []) rfl rfl rfl (by decide) (Nat.le_of_ble_eq_true rfl) (by decide +kernel) (c_X1_loseGlass_9 _ _) (fun h3 => s_run (M := mX1_losesGlass) [(.iload_n 2, 1, (0, 0), 0)] (ls' := [.ref 9, .int p1, .int (b2i r1)]) (st' := [.int (b2i r1)]) (h' := h3) (by decide +kernel) rfl (pc' := 16) rfl (s_retZH (M := mX1_losesGlass) (v := r1) (by decide +kernel) rfl)))) (fun _ => s_run (M := mX1_losesGlass) [(.iload_n 2, 1, (0, 0), 0)] (ls' := [.ref 9, .int p1, .int (b2i r1)]) (st' := [.int (b2i r1)]) (h' := h) (by decide +kernel) rfl (pc' := 16) rfl (s_retZH (M := mX1_losesGlass) (v := r1) (by decide +kernel) rfl))))))
theorem ckX1_isForgotten_87 : ckV mX1_isForgotten mX1_knownAs 87 1 348 298 299 38 300 = true := by decide +kernel
theorem ckX1_isForgotten_137 : ckV mX1_isForgotten mX1_setKnown 137 2 495 359 360 38 361 = true := by decide +kernel
set_option maxRecDepth 20000 in
set_option maxHeartbeats 4000000 in
theorem c_X1_isForgotten_9 (h : HS) (p1 : Int32) : CSim mX1_isForgotten cZH_ [.ref 9, .int p1] h (f_X1_isForgotten h 9 p1) :=
  csim_of (by decide +kernel) rfl (Nat.le_of_ble_eq_true rfl) (ls := [.ref 9, .int p1, .null]) rfl (by
    unfold f_X1_isForgotten
    exact s_run (M := mX1_isForgotten) [(.aload_n 0, 1, (0, 0), 0), (.iload_n 1, 1, (0, 0), 0)] (ls' := [.ref 9, .int p1, .null]) (st' := [.int p1, .ref 9]) (h' := h) (by decide +kernel) rfl (pc' := 2) rfl (s_cVI ckX1_isForgotten_87 [.int p1] 9 (st := []) rfl rfl rfl (by decide) (Nat.le_of_ble_eq_true rfl) (by decide +kernel) (c_X1_knownAs_9 _ _) (fun r1 => s_run (M := mX1_isForgotten) [(.bipush (-9), 2, (0, 0), (-9))] (ls' := [.ref 9, .int p1, .null]) (st' := [.int (-9), .int r1]) (h' := h) (by decide +kernel) rfl (pc' := 7) rfl (s_jn (fun (j3 : Int32 → Option (Bool × HS)) => ∀ (t2 : Int32), Sim none mX1_isForgotten cZH_ 15 [.ref 9, .int p1, .null] [.int t2] h (j3 t2)) (fun t2 => s_run (M := mX1_isForgotten) [(.istore_n 2, 1, (0, 0), 0), (.iload_n 2, 1, (0, 0), 0)] (ls' := [.ref 9, .int p1, .int t2]) (st' := [.int t2]) (h' := h) (by decide +kernel) rfl (pc' := 17) rfl (s_if_eq (M := mX1_isForgotten) (off := 10) (tgt := 27) (by decide +kernel) (by decide +kernel) (fun _ => s_run (M := mX1_isForgotten) [(.iload_n 2, 1, (0, 0), 0)] (ls' := [.ref 9, .int p1, .int t2]) (st' := [.int t2]) (h' := h) (by decide +kernel) rfl (pc' := 28) rfl (s_retBH (M := mX1_isForgotten) (by decide +kernel) rfl)) (fun _ => s_run (M := mX1_isForgotten) [(.aload_n 0, 1, (0, 0), 0), (.iload_n 1, 1, (0, 0), 0), (.bipush (-9), 2, (0, 0), (-9))] (ls' := [.ref 9, .int p1, .int t2]) (st' := [.int (-9), .int p1, .ref 9]) (h' := h) (by decide +kernel) rfl (pc' := 24) rfl (s_cVV ckX1_isForgotten_137 [.int p1, .int (-9)] 9 (st := []) rfl rfl rfl (by decide) (Nat.le_of_ble_eq_true rfl) (by decide +kernel) (c_X1_setKnown_9 _ _ _) (fun h6 => s_run (M := mX1_isForgotten) [(.iload_n 2, 1, (0, 0), 0)] (ls' := [.ref 9, .int p1, .int t2]) (st' := [.int t2]) (h' := h6) (by decide +kernel) rfl (pc' := 28) rfl (s_retBH (M := mX1_isForgotten) (by decide +kernel) rfl)))))) (fun j3 J4 => s_icmp_eq (M := mX1_isForgotten) (off := 7) (tgt := 14) (by decide +kernel) (by decide +kernel) (fun _ => s_run (M := mX1_isForgotten) [(.iconst 0, 1, (0, 0), 0)] (ls' := [.ref 9, .int p1, .null]) (st' := [.int 0]) (h' := h) (by decide +kernel) rfl (pc' := 15) rfl (J4 0)) (fun _ => s_run (M := mX1_isForgotten) [(.iconst 1, 1, (0, 0), 1), (.goto 4, 3, (15, 0), 0)] (ls' := [.ref 9, .int p1, .null]) (st' := [.int 1]) (h' := h) (by decide +kernel) rfl (pc' := 15) rfl (J4 1)))))))
theorem ckX1_seesNow_64 : ckV mX1_seesNow mX1_canSee 64 2 216 217 218 38 219 = true := by decide +kernel
theorem ckX1_seesNow_67 : ckV mX1_seesNow mX1_letSee 67 2 251 252 253 38 254 = true := by decide +kernel
set_option maxRecDepth 20000 in
set_option maxHeartbeats 4000000 in
theorem c_X1_seesNow_9 (h : HS) (p1 : Int32) (p2 : Int32) : CSim mX1_seesNow cZH_ [.ref 9, .int p1, .int p2] h (f_X1_seesNow h 9 p1 p2) :=
  csim_of (by decide +kernel) rfl (Nat.le_of_ble_eq_true rfl) (ls := [.ref 9, .int p1, .int p2, .null]) rfl (by
    unfold f_X1_seesNow
    exact s_run (M := mX1_seesNow) [(.aload_n 0, 1, (0, 0), 0), (.iload_n 1, 1, (0, 0), 0), (.iload_n 2, 1, (0, 0), 0)] (ls' := [.ref 9, .int p1, .int p2, .null]) (st' := [.int p2, .int p1, .ref 9]) (h' := h) (by decide +kernel) rfl (pc' := 3) rfl (s_cVZ ckX1_seesNow_64 [.int p1, .int p2] 9 (st := []) rfl rfl rfl (by decide) (Nat.le_of_ble_eq_true rfl) (by decide +kernel) (c_X1_canSee_9 _ _ _) (fun r1 => s_run (M := mX1_seesNow) [(.istore_n 3, 1, (0, 0), 0), (.iload_n 3, 1, (0, 0), 0)] (ls' := [.ref 9, .int p1, .int p2, .int (b2i r1)]) (st' := [.int (b2i r1)]) (h' := h) (by decide +kernel) rfl (pc' := 8) rfl (s_bif_eq (M := mX1_seesNow) (off := 9) (tgt := 17) (by decide +kernel) (by decide +kernel) (fun _ => s_run (M := mX1_seesNow) [(.aload_n 0, 1, (0, 0), 0), (.iload_n 1, 1, (0, 0), 0), (.iload_n 2, 1, (0, 0), 0)] (ls' := [.ref 9, .int p1, .int p2, .int (b2i r1)]) (st' := [.int p2, .int p1, .ref 9]) (h' := h) (by decide +kernel) rfl (pc' := 14) rfl (s_cVV ckX1_seesNow_67 [.int p1, .int p2] 9 (st := []) rfl rfl rfl (by decide) (Nat.le_of_ble_eq_true rfl) (by decide +kernel) (c_X1_letSee_9 _ _ _) (fun h3 => s_run (M := mX1_seesNow) [(.iload_n 3, 1, (0, 0), 0)] (ls' := [.ref 9, .int p1, .int p2, .int (b2i r1)]) (st' := [.int (b2i r1)]) (h' := h3) (by decide +kernel) rfl (pc' := 18) rfl (s_retZH (M := mX1_seesNow) (v := r1) (by decide +kernel) rfl)))) (fun _ => s_run (M := mX1_seesNow) [(.iload_n 3, 1, (0, 0), 0)] (ls' := [.ref 9, .int p1, .int p2, .int (b2i r1)]) (st' := [.int (b2i r1)]) (h' := h) (by decide +kernel) rfl (pc' := 18) rfl (s_retZH (M := mX1_seesNow) (v := r1) (by decide +kernel) rfl))))))
theorem ckX1_doneAsTold_125 : ckV mX1_doneAsTold mX1_seesNow 125 2 487 488 489 38 490 = true := by decide +kernel
theorem ckX1_doneAsTold_128 : ckV mX1_doneAsTold mX1_isForgotten 128 1 491 492 493 38 494 = true := by decide +kernel
theorem ckX1_doneAsTold_131 : ckV mX1_doneAsTold mX1_losesGlass 131 1 496 497 498 38 499 = true := by decide +kernel
theorem ckX1_doneAsTold_134 : ckV mX1_doneAsTold mX1_isLearnt 134 3 502 503 504 38 505 = true := by decide +kernel
set_option maxRecDepth 20000 in
set_option maxHeartbeats 4000000 in
theorem c_X1_doneAsTold_9 (h : HS) (p1 : Int32) : CSim mX1_doneAsTold cZH_ [.ref 9, .int p1] h (f_X1_doneAsTold h 9 p1) :=
  csim_of (by decide +kernel) rfl (Nat.le_of_ble_eq_true rfl) (ls := [.ref 9, .int p1, .null, .null, .null]) rfl (by
    unfold f_X1_doneAsTold
    exact s_run (M := mX1_doneAsTold) [(.iload_n 1, 1, (0, 0), 0), (.bipush 100, 2, (0, 0), 100)] (ls' := [.ref 9, .int p1, .null, .null, .null]) (st' := [.int 100, .int p1]) (h' := h) (by decide +kernel) rfl (pc' := 3) rfl (s_idiv (M := mX1_doneAsTold) (by decide +kernel) (fun r1 => s_run (M := mX1_doneAsTold) [(.istore_n 2, 1, (0, 0), 0), (.iload_n 1, 1, (0, 0), 0), (.bipush 10, 2, (0, 0), 10)] (ls' := [.ref 9, .int p1, .int r1, .null, .null]) (st' := [.int 10, .int p1]) (h' := h) (by decide +kernel) rfl (pc' := 8) rfl (s_idiv (M := mX1_doneAsTold) (by decide +kernel) (fun r2 => s_run (M := mX1_doneAsTold) [(.bipush 10, 2, (0, 0), 10)] (ls' := [.ref 9, .int p1, .int r1, .null, .null]) (st' := [.int 10, .int r2]) (h' := h) (by decide +kernel) rfl (pc' := 11) rfl (s_irem (M := mX1_doneAsTold) (by decide +kernel) (fun r3 => s_run (M := mX1_doneAsTold) [(.istore_n 3, 1, (0, 0), 0), (.iload_n 1, 1, (0, 0), 0), (.bipush 10, 2, (0, 0), 10)] (ls' := [.ref 9, .int p1, .int r1, .int r3, .null]) (st' := [.int 10, .int p1]) (h' := h) (by decide +kernel) rfl (pc' := 16) rfl (s_irem (M := mX1_doneAsTold) (by decide +kernel) (fun r4 => s_run (M := mX1_doneAsTold) [(.istore 4, 2, (0, 0), 0), (.iload_n 2, 1, (0, 0), 0), (.iconst 1, 1, (0, 0), 1)] (ls' := [.ref 9, .int p1, .int r1, .int r3, .int r4]) (st' := [.int 1, .int r1]) (h' := h) (by decide +kernel) rfl (pc' := 21) rfl (s_icmp_ne (M := mX1_doneAsTold) (off := 11) (tgt := 32) (by decide +kernel) (by decide +kernel) (fun _ => s_run (M := mX1_doneAsTold) [(.aload_n 0, 1, (0, 0), 0), (.iload_n 3, 1, (0, 0), 0), (.iload 4, 2, (0, 0), 0)] (ls' := [.ref 9, .int p1, .int r1, .int r3, .int r4]) (st' := [.int r4, .int r3, .ref 9]) (h' := h) (by decide +kernel) rfl (pc' := 28) rfl (s_cVZH ckX1_doneAsTold_125 [.int r3, .int r4] 9 (st := []) rfl rfl rfl (by decide) (Nat.le_of_ble_eq_true rfl) (by decide +kernel) (c_X1_seesNow_9 _ _ _) (fun r11 h12 => s_retZH (M := mX1_doneAsTold) (v := r11) (by decide +kernel) rfl))) (fun _ => s_run (M := mX1_doneAsTold) [(.iload_n 2, 1, (0, 0), 0), (.iconst 2, 1, (0, 0), 2)] (ls' := [.ref 9, .int p1, .int r1, .int r3, .int r4]) (st' := [.int 2, .int r1]) (h' := h) (by decide +kernel) rfl (pc' := 34) rfl (s_icmp_ne (M := mX1_doneAsTold) (off := 22) (tgt := 56) (by decide +kernel) (by decide +kernel) (fun _ => s_run (M := mX1_doneAsTold) [(.iload_n 3, 1, (0, 0), 0)] (ls' := [.ref 9, .int p1, .int r1, .int r3, .int r4]) (st' := [.int r3]) (h' := h) (by decide +kernel) rfl (pc' := 38) rfl (s_if_ne (M := mX1_doneAsTold) (off := 16) (tgt := 54) (by decide +kernel) (by decide +kernel) (fun _ => s_run (M := mX1_doneAsTold) [(.aload_n 0, 1, (0, 0), 0), (.iload 4, 2, (0, 0), 0)] (ls' := [.ref 9, .int p1, .int r1, .int r3, .int r4]) (st' := [.int r4, .ref 9]) (h' := h) (by decide +kernel) rfl (pc' := 44) rfl (s_cVZH ckX1_doneAsTold_128 [.int r4] 9 (st := []) rfl rfl rfl (by decide) (Nat.le_of_ble_eq_true rfl) (by decide +kernel) (c_X1_isForgotten_9 _ _) (fun r9 h10 => s_bif_eq (M := mX1_doneAsTold) (off := 7) (tgt := 54) (by decide +kernel) (by decide +kernel) (fun _ => s_run (M := mX1_doneAsTold) [(.iconst 1, 1, (0, 0), 1), (.goto 4, 3, (55, 0), 0)] (ls' := [.ref 9, .int p1, .int r1, .int r3, .int r4]) (st' := [.int 1]) (h' := h10) (by decide +kernel) rfl (pc' := 55) rfl (s_retZH (M := mX1_doneAsTold) (v := true) (by decide +kernel) rfl)) (fun _ => s_run (M := mX1_doneAsTold) [(.iconst 0, 1, (0, 0), 0)] (ls' := [.ref 9, .int p1, .int r1, .int r3, .int r4]) (st' := [.int 0]) (h' := h10) (by decide +kernel) rfl (pc' := 55) rfl (s_retZH (M := mX1_doneAsTold) (v := false) (by decide +kernel) rfl))))) (fun _ => s_run (M := mX1_doneAsTold) [(.iconst 0, 1, (0, 0), 0)] (ls' := [.ref 9, .int p1, .int r1, .int r3, .int r4]) (st' := [.int 0]) (h' := h) (by decide +kernel) rfl (pc' := 55) rfl (s_retZH (M := mX1_doneAsTold) (v := false) (by decide +kernel) rfl)))) (fun _ => s_run (M := mX1_doneAsTold) [(.iload_n 2, 1, (0, 0), 0), (.iconst 3, 1, (0, 0), 3)] (ls' := [.ref 9, .int p1, .int r1, .int r3, .int r4]) (st' := [.int 3, .int r1]) (h' := h) (by decide +kernel) rfl (pc' := 58) rfl (s_icmp_ne (M := mX1_doneAsTold) (off := 22) (tgt := 80) (by decide +kernel) (by decide +kernel) (fun _ => s_run (M := mX1_doneAsTold) [(.iload_n 3, 1, (0, 0), 0)] (ls' := [.ref 9, .int p1, .int r1, .int r3, .int r4]) (st' := [.int r3]) (h' := h) (by decide +kernel) rfl (pc' := 62) rfl (s_if_ne (M := mX1_doneAsTold) (off := 16) (tgt := 78) (by decide +kernel) (by decide +kernel) (fun _ => s_run (M := mX1_doneAsTold) [(.aload_n 0, 1, (0, 0), 0), (.iload 4, 2, (0, 0), 0)] (ls' := [.ref 9, .int p1, .int r1, .int r3, .int r4]) (st' := [.int r4, .ref 9]) (h' := h) (by decide +kernel) rfl (pc' := 68) rfl (s_cVZH ckX1_doneAsTold_131 [.int r4] 9 (st := []) rfl rfl rfl (by decide) (Nat.le_of_ble_eq_true rfl) (by decide +kernel) (c_X1_losesGlass_9 _ _) (fun r7 h8 => s_bif_eq (M := mX1_doneAsTold) (off := 7) (tgt := 78) (by decide +kernel) (by decide +kernel) (fun _ => s_run (M := mX1_doneAsTold) [(.iconst 1, 1, (0, 0), 1), (.goto 4, 3, (79, 0), 0)] (ls' := [.ref 9, .int p1, .int r1, .int r3, .int r4]) (st' := [.int 1]) (h' := h8) (by decide +kernel) rfl (pc' := 79) rfl (s_retZH (M := mX1_doneAsTold) (v := true) (by decide +kernel) rfl)) (fun _ => s_run (M := mX1_doneAsTold) [(.iconst 0, 1, (0, 0), 0)] (ls' := [.ref 9, .int p1, .int r1, .int r3, .int r4]) (st' := [.int 0]) (h' := h8) (by decide +kernel) rfl (pc' := 79) rfl (s_retZH (M := mX1_doneAsTold) (v := false) (by decide +kernel) rfl))))) (fun _ => s_run (M := mX1_doneAsTold) [(.iconst 0, 1, (0, 0), 0)] (ls' := [.ref 9, .int p1, .int r1, .int r3, .int r4]) (st' := [.int 0]) (h' := h) (by decide +kernel) rfl (pc' := 79) rfl (s_retZH (M := mX1_doneAsTold) (v := false) (by decide +kernel) rfl)))) (fun _ => s_run (M := mX1_doneAsTold) [(.aload_n 0, 1, (0, 0), 0), (.iload_n 3, 1, (0, 0), 0), (.iload 4, 2, (0, 0), 0), (.iload_n 2, 1, (0, 0), 0), (.iconst 4, 1, (0, 0), 4), (.isub, 1, (0, 0), 0)] (ls' := [.ref 9, .int p1, .int r1, .int r3, .int r4]) (st' := [.int (r1 - 4), .int r4, .int r3, .ref 9]) (h' := h) (by decide +kernel) rfl (pc' := 87) rfl (s_cVZH ckX1_doneAsTold_134 [.int r3, .int r4, .int (r1 - 4)] 9 (st := []) rfl rfl rfl (by decide) (Nat.le_of_ble_eq_true rfl) (by decide +kernel) (c_X1_isLearnt_9 _ _ _ _) (fun r5 h6 => s_retZH (M := mX1_doneAsTold) (v := r5) (by decide +kernel) rfl)))))))))))))))))
theorem ckX1_areCouple_107 : ckV mX1_areCouple mX1_isCouple 107 3 349 350 351 38 352 = true := by decide +kernel
set_option maxRecDepth 20000 in
set_option maxHeartbeats 4000000 in
theorem c_X1_areCouple_3 (h : HS) (p1 : Int32) (p2 : Int32) (p3 : Int32) : CSim mX1_areCouple (cZ_ h) [.ref 3, .int p1, .int p2, .int p3] h (f_X1_areCouple h 3 p1 p2 p3) :=
  csim_of (by decide +kernel) rfl (Nat.le_of_ble_eq_true rfl) (ls := [.ref 3, .int p1, .int p2, .int p3]) rfl (by
    unfold f_X1_areCouple
    exact s_run (M := mX1_areCouple) [(.aload_n 0, 1, (0, 0), 0), (.iload_n 1, 1, (0, 0), 0), (.iload_n 2, 1, (0, 0), 0), (.iload_n 3, 1, (0, 0), 0)] (ls' := [.ref 3, .int p1, .int p2, .int p3]) (st' := [.int p3, .int p2, .int p1, .ref 3]) (h' := h) (by decide +kernel) rfl (pc' := 4) rfl (s_cVZ ckX1_areCouple_107 [.int p1, .int p2, .int p3] 3 (st := []) rfl rfl rfl (by decide) (Nat.le_of_ble_eq_true rfl) (by decide +kernel) (c_X1_isCouple_3 _ _ _ _) (fun r1 => s_bif_ne (M := mX1_areCouple) (off := 13) (tgt := 20) (by decide +kernel) (by decide +kernel) (fun _ => s_run (M := mX1_areCouple) [(.iconst 1, 1, (0, 0), 1), (.goto 4, 3, (25, 0), 0)] (ls' := [.ref 3, .int p1, .int p2, .int p3]) (st' := [.int 1]) (h' := h) (by decide +kernel) rfl (pc' := 25) rfl (s_retZ (M := mX1_areCouple) (v := true) (by decide +kernel) rfl)) (fun _ => s_run (M := mX1_areCouple) [(.aload_n 0, 1, (0, 0), 0), (.iload_n 2, 1, (0, 0), 0), (.iload_n 1, 1, (0, 0), 0), (.iload_n 3, 1, (0, 0), 0)] (ls' := [.ref 3, .int p1, .int p2, .int p3]) (st' := [.int p3, .int p1, .int p2, .ref 3]) (h' := h) (by decide +kernel) rfl (pc' := 14) rfl (s_cVZ ckX1_areCouple_107 [.int p2, .int p1, .int p3] 3 (st := []) rfl rfl rfl (by decide) (Nat.le_of_ble_eq_true rfl) (by decide +kernel) (c_X1_isCouple_3 _ _ _ _) (fun r2 => s_bif_eq (M := mX1_areCouple) (off := 7) (tgt := 24) (by decide +kernel) (by decide +kernel) (fun _ => s_run (M := mX1_areCouple) [(.iconst 1, 1, (0, 0), 1), (.goto 4, 3, (25, 0), 0)] (ls' := [.ref 3, .int p1, .int p2, .int p3]) (st' := [.int 1]) (h' := h) (by decide +kernel) rfl (pc' := 25) rfl (s_retZ (M := mX1_areCouple) (v := true) (by decide +kernel) rfl)) (fun _ => s_run (M := mX1_areCouple) [(.iconst 0, 1, (0, 0), 0)] (ls' := [.ref 3, .int p1, .int p2, .int p3]) (st' := [.int 0]) (h' := h) (by decide +kernel) rfl (pc' := 25) rfl (s_retZ (M := mX1_areCouple) (v := false) (by decide +kernel) rfl))))))))
theorem ckX1_passYear_125 : ckV mX1_passYear mX1_seesNow 125 2 487 488 489 38 490 = true := by decide +kernel
theorem ckX1_passYear_131 : ckV mX1_passYear mX1_losesGlass 131 1 496 497 498 38 499 = true := by decide +kernel
set_option maxRecDepth 20000 in
set_option maxHeartbeats 4000000 in
theorem c_X1_passYear_9 (h : HS) (p1 : Int32) : CSim mX1_passYear cV_ [.ref 9, .int p1] h (f_X1_passYear h 9 p1) :=
  csim_of (by decide +kernel) rfl (Nat.le_of_ble_eq_true rfl) (ls := [.ref 9, .int p1]) rfl (by
    unfold f_X1_passYear
    exact s_run (M := mX1_passYear) [(.iload_n 1, 1, (0, 0), 0), (.bipush 24, 2, (0, 0), 24)] (ls' := [.ref 9, .int p1]) (st' := [.int 24, .int p1]) (h' := h) (by decide +kernel) rfl (pc' := 3) rfl (s_icmp_ge (M := mX1_passYear) (off := 17) (tgt := 20) (by decide +kernel) (by decide +kernel) (fun _ => s_run (M := mX1_passYear) [(.aload_n 0, 1, (0, 0), 0), (.iload_n 1, 1, (0, 0), 0), (.iconst 4, 1, (0, 0), 4)] (ls' := [.ref 9, .int p1]) (st' := [.int 4, .int p1, .ref 9]) (h' := h) (by decide +kernel) rfl (pc' := 9) rfl (s_idiv (M := mX1_passYear) (by decide +kernel) (fun r3 => s_run (M := mX1_passYear) [(.iload_n 1, 1, (0, 0), 0), (.iconst 4, 1, (0, 0), 4)] (ls' := [.ref 9, .int p1]) (st' := [.int 4, .int p1, .int r3, .ref 9]) (h' := h) (by decide +kernel) rfl (pc' := 12) rfl (s_irem (M := mX1_passYear) (by decide +kernel) (fun r4 => s_cVZH ckX1_passYear_125 [.int r3, .int r4] 9 (st := []) rfl rfl rfl (by decide) (Nat.le_of_ble_eq_true rfl) (by decide +kernel) (c_X1_seesNow_9 _ _ _) (fun r5 h6 => s_run (M := mX1_passYear) [(.pop, 1, (0, 0), 0), (.goto 12, 3, (29, 0), 0)] (ls' := [.ref 9, .int p1]) (st' := []) (h' := h6) (by decide +kernel) rfl (pc' := 29) rfl (s_retV (M := mX1_passYear) (by decide +kernel) rfl))))))) (fun _ => s_run (M := mX1_passYear) [(.aload_n 0, 1, (0, 0), 0), (.iload_n 1, 1, (0, 0), 0), (.bipush 24, 2, (0, 0), 24), (.isub, 1, (0, 0), 0)] (ls' := [.ref 9, .int p1]) (st' := [.int (p1 - 24), .ref 9]) (h' := h) (by decide +kernel) rfl (pc' := 25) rfl (s_cVZH ckX1_passYear_131 [.int (p1 - 24)] 9 (st := []) rfl rfl rfl (by decide) (Nat.le_of_ble_eq_true rfl) (by decide +kernel) (c_X1_losesGlass_9 _ _) (fun r1 h2 => s_run (M := mX1_passYear) [(.pop, 1, (0, 0), 0)] (ls' := [.ref 9, .int p1]) (st' := []) (h' := h2) (by decide +kernel) rfl (pc' := 29) rfl (s_retV (M := mX1_passYear) (by decide +kernel) rfl))))))
set_option maxRecDepth 20000 in
set_option maxHeartbeats 4000000 in
theorem c_X1_everybody_9 (h : HS) : CSim mX1_everybody (cI_ h) [.ref 9] h (f_X1_everybody h 9) :=
  csim_of (by decide +kernel) rfl (Nat.le_of_ble_eq_true rfl) (ls := [.ref 9]) rfl (by
    unfold f_X1_everybody
    exact s_run (M := mX1_everybody) [(.iconst 1, 1, (0, 0), 1), (.aload_n 0, 1, (0, 0), 0), (.getfield 27, 3, (1, 0), 0), (.ishl, 1, (0, 0), 0), (.iconst 1, 1, (0, 0), 1), (.isub, 1, (0, 0), 0)] (ls' := [.ref 9]) (st' := [.int ((1 <<< ((h.1 9 0) &&& 31)) - 1)]) (h' := h) (by decide +kernel) rfl (pc' := 8) rfl (s_retI (M := mX1_everybody) (by decide +kernel) rfl))
set_option maxRecDepth 20000 in
set_option maxHeartbeats 4000000 in
theorem c_X1_hasCoupleAmong_9 (h : HS) (p1 : Int32) (p2 : Int32) : CSim mX1_hasCoupleAmong (cZ_ h) [.ref 9, .int p1, .int p2] h (f_X1_hasCoupleAmong h 9 p1 p2) :=
  csim_of (by decide +kernel) rfl (Nat.le_of_ble_eq_true rfl) (ls := [.ref 9, .int p1, .int p2, .null, .null]) rfl (by
    unfold f_X1_hasCoupleAmong
    exact s_run (M := mX1_hasCoupleAmong) [(.aload_n 0, 1, (0, 0), 0), (.iload_n 1, 1, (0, 0), 0), (.iconst 0, 1, (0, 0), 0)] (ls' := [.ref 9, .int p1, .int p2, .null, .null]) (st' := [.int 0, .int p1, .ref 9]) (h' := h) (by decide +kernel) rfl (pc' := 3) rfl (s_cVI ckX1_hasCoupleAmong_97 [.int p1, .int 0] 9 (st := []) rfl rfl rfl (by decide) (Nat.le_of_ble_eq_true rfl) (by decide +kernel) (c_X1_seersOf_9 _ _ _) (fun r1 => s_run (M := mX1_hasCoupleAmong) [(.iload_n 2, 1, (0, 0), 0), (.iand, 1, (0, 0), 0), (.istore_n 3, 1, (0, 0), 0)] (ls' := [.ref 9, .int p1, .int p2, .int (r1 &&& p2), .null]) (st' := []) (h' := h) (by decide +kernel) rfl (pc' := 9) rfl (s_lt ((r1 &&& p2) : Int32) (fun v2 => [.ref 9, .int p1, .int p2, .int v2, .null]) (fun _ => []) (fun _ => h) (fun v2 => s_run (M := mX1_hasCoupleAmong) [(.aload_n 0, 1, (0, 0), 0), (.iload_n 1, 1, (0, 0), 0), (.iconst 1, 1, (0, 0), 1)] (ls' := [.ref 9, .int p1, .int p2, .int v2, .null]) (st' := [.int 1, .int p1, .ref 9]) (h' := h) (by decide +kernel) rfl (pc' := 12) rfl (s_cVI ckX1_hasCoupleAmong_97 [.int p1, .int 1] 9 (st := []) rfl rfl rfl (by decide) (Nat.le_of_ble_eq_true rfl) (by decide +kernel) (c_X1_seersOf_9 _ _ _) (fun r3 => s_run (M := mX1_hasCoupleAmong) [(.iload_n 2, 1, (0, 0), 0), (.iand, 1, (0, 0), 0), (.istore 4, 2, (0, 0), 0)] (ls' := [.ref 9, .int p1, .int p2, .int v2, .int (r3 &&& p2)]) (st' := []) (h' := h) (by decide +kernel) rfl (pc' := 19) rfl (s_lt ((r3 &&& p2) : Int32) (fun v4 => [.ref 9, .int p1, .int p2, .int v2, .int v4]) (fun _ => []) (fun _ => h) (fun v4 => s_run (M := mX1_hasCoupleAmong) [(.iload_n 3, 1, (0, 0), 0)] (ls' := [.ref 9, .int p1, .int p2, .int v2, .int v4]) (st' := [.int v2]) (h' := h) (by decide +kernel) rfl (pc' := 20) rfl (s_if_eq (M := mX1_hasCoupleAmong) (off := 23) (tgt := 43) (by decide +kernel) (by decide +kernel) (fun _ => s_run (M := mX1_hasCoupleAmong) [(.iconst 0, 1, (0, 0), 0)] (ls' := [.ref 9, .int p1, .int p2, .int v2, .int v4]) (st' := [.int 0]) (h' := h) (by decide +kernel) rfl (pc' := 44) rfl (s_retZ (M := mX1_hasCoupleAmong) (v := false) (by decide +kernel) rfl)) (fun _ => s_run (M := mX1_hasCoupleAmong) [(.iload 4, 2, (0, 0), 0)] (ls' := [.ref 9, .int p1, .int p2, .int v2, .int v4]) (st' := [.int v4]) (h' := h) (by decide +kernel) rfl (pc' := 25) rfl (s_if_eq (M := mX1_hasCoupleAmong) (off := 18) (tgt := 43) (by decide +kernel) (by decide +kernel) (fun _ => s_run (M := mX1_hasCoupleAmong) [(.iconst 0, 1, (0, 0), 0)] (ls' := [.ref 9, .int p1, .int p2, .int v2, .int v4]) (st' := [.int 0]) (h' := h) (by decide +kernel) rfl (pc' := 44) rfl (s_retZ (M := mX1_hasCoupleAmong) (v := false) (by decide +kernel) rfl)) (fun _ => s_run (M := mX1_hasCoupleAmong) [(.iload_n 3, 1, (0, 0), 0), (.iload 4, 2, (0, 0), 0), (.ior, 1, (0, 0), 0)] (ls' := [.ref 9, .int p1, .int p2, .int v2, .int v4]) (st' := [.int (v2 ||| v4)]) (h' := h) (by decide +kernel) rfl (pc' := 32) rfl (s_cSI ckX1_hasCoupleAmong_114 [.int (v2 ||| v4)] (st := []) rfl rfl (Nat.le_of_ble_eq_true rfl) (by decide +kernel) (c_J6_bitCount_0f7a4 _ _) (fun r5 => s_run (M := mX1_hasCoupleAmong) [(.iconst 1, 1, (0, 0), 1)] (ls' := [.ref 9, .int p1, .int p2, .int v2, .int v4]) (st' := [.int 1, .int r5]) (h' := h) (by decide +kernel) rfl (pc' := 36) rfl (s_icmp_le (M := mX1_hasCoupleAmong) (off := 7) (tgt := 43) (by decide +kernel) (by decide +kernel) (fun _ => s_run (M := mX1_hasCoupleAmong) [(.iconst 1, 1, (0, 0), 1), (.goto 4, 3, (44, 0), 0)] (ls' := [.ref 9, .int p1, .int p2, .int v2, .int v4]) (st' := [.int 1]) (h' := h) (by decide +kernel) rfl (pc' := 44) rfl (s_retZ (M := mX1_hasCoupleAmong) (v := true) (by decide +kernel) rfl)) (fun _ => s_run (M := mX1_hasCoupleAmong) [(.iconst 0, 1, (0, 0), 0)] (ls' := [.ref 9, .int p1, .int p2, .int v2, .int v4]) (st' := [.int 0]) (h' := h) (by decide +kernel) rfl (pc' := 44) rfl (s_retZ (M := mX1_hasCoupleAmong) (v := false) (by decide +kernel) rfl))))))))))))))))))
set_option maxRecDepth 20000 in
set_option maxHeartbeats 4000000 in
theorem c_X1_knowableAmong_9 (h : HS) (p1 : Int32) : CSim mX1_knowableAmong (cI_ h) [.ref 9, .int p1] h (f_X1_knowableAmong h 9 p1) :=
  csim_of (by decide +kernel) rfl (Nat.le_of_ble_eq_true rfl) (ls := [.ref 9, .int p1, .null, .null]) rfl (by
    unfold f_X1_knowableAmong
    exact s_run (M := mX1_knowableAmong) [(.iconst 0, 1, (0, 0), 0), (.istore_n 2, 1, (0, 0), 0), (.iconst 0, 1, (0, 0), 0), (.istore_n 3, 1, (0, 0), 0)] (ls' := [.ref 9, .int p1, .int 0, .int 0]) (st' := []) (h' := h) (by decide +kernel) rfl (pc' := 4) rfl (s_loop2 (fun (i1 : Int32) (i2 : Int32) => [.ref 9, .int p1, .int i1, .int i2]) (fun (i1 : Int32) (i2 : Int32) => h) (fun rec3 H4 (i1 : Int32) (i2 : Int32) => s_run (M := mX1_knowableAmong) [(.iload_n 3, 1, (0, 0), 0), (.aload_n 0, 1, (0, 0), 0), (.getfield 31, 3, (1, 1), 0)] (ls' := [.ref 9, .int p1, .int i1, .int i2]) (st' := [.int (h.1 9 1), .int i2]) (h' := h) (by decide +kernel) rfl (pc' := 9) rfl (s_icmp_ge (M := mX1_knowableAmong) (off := 24) (tgt := 33) (by decide +kernel) (by decide +kernel) (fun _ => s_run (M := mX1_knowableAmong) [(.aload_n 0, 1, (0, 0), 0), (.iload_n 3, 1, (0, 0), 0), (.iload_n 1, 1, (0, 0), 0)] (ls' := [.ref 9, .int p1, .int i1, .int i2]) (st' := [.int p1, .int i2, .ref 9]) (h' := h) (by decide +kernel) rfl (pc' := 15) rfl (s_cVZ ckX1_knowableAmong_119 [.int i2, .int p1] 9 (st := []) rfl rfl rfl (by decide) (Nat.le_of_ble_eq_true rfl) (by decide +kernel) (c_X1_hasCoupleAmong_9 _ _ _) (fun r5 => s_jn (fun (j7 : Int32 → Option Int32) => ∀ (w6 : Int32), Sim none mX1_knowableAmong (cI_ h) 27 [.ref 9, .int p1, .int w6, .int i2] [] h (j7 w6)) (fun w6 => s_run (M := mX1_knowableAmong) [(.iinc 3 1, 3, (0, 0), 1), (.goto (-26), 3, (4, 0), 0)] (ls' := [.ref 9, .int p1, .int w6, .int (i2 + 1)]) (st' := []) (h' := h) (by decide +kernel) rfl (pc' := 4) rfl (H4 w6 (i2 + 1))) (fun j7 J8 => s_bif_eq (M := mX1_knowableAmong) (off := 9) (tgt := 27) (by decide +kernel) (by decide +kernel) (fun _ => s_run (M := mX1_knowableAmong) [(.iload_n 2, 1, (0, 0), 0), (.iconst 1, 1, (0, 0), 1), (.iload_n 3, 1, (0, 0), 0), (.ishl, 1, (0, 0), 0), (.ior, 1, (0, 0), 0), (.istore_n 2, 1, (0, 0), 0)] (ls' := [.ref 9, .int p1, .int (i1 ||| (1 <<< (i2 &&& 31))), .int i2]) (st' := []) (h' := h) (by decide +kernel) rfl (pc' := 27) rfl (s_lt ((i1 ||| (1 <<< (i2 &&& 31))) : Int32) (fun v9 => [.ref 9, .int p1, .int v9, .int i2]) (fun _ => []) (fun _ => h) (fun v9 => J8 v9))) (fun _ => J8 i1))))) (fun _ => s_run (M := mX1_knowableAmong) [(.iload_n 2, 1, (0, 0), 0)] (ls' := [.ref 9, .int p1, .int i1, .int i2]) (st' := [.int i1]) (h' := h) (by decide +kernel) rfl (pc' := 34) rfl (s_retI (M := mX1_knowableAmong) (by decide +kernel) rfl)))) 400 0 0))
set_option maxRecDepth 20000 in
set_option maxHeartbeats 4000000 in
theorem c_X1_become_15_3 (h : HS) : CSim mX1_become cV_ [.ref 15, .ref 3] h (f_X1_become h 15 3) :=
  csim_of (by decide +kernel) rfl (Nat.le_of_ble_eq_true rfl) (ls := [.ref 15, .ref 3, .null]) rfl (by
    unfold f_X1_become
    exact s_run (M := mX1_become) [(.aload_n 0, 1, (0, 0), 0), (.aload_n 1, 1, (0, 0), 0), (.getfield 27, 3, (1, 0), 0), (.putfield 27, 3, (1, 0), 0)] (ls' := [.ref 15, .ref 3, .null]) (st' := []) (h' := (hset h 15 0 (h.1 3 0))) (by decide +kernel) rfl (pc' := 8) rfl (s_lt ((hset h 15 0 (h.1 3 0))) (fun _ => [.ref 15, .ref 3, .null]) (fun _ => []) (fun h1 => h1) (fun h1 => s_run (M := mX1_become) [(.aload_n 0, 1, (0, 0), 0), (.aload_n 1, 1, (0, 0), 0), (.getfield 31, 3, (1, 1), 0), (.putfield 31, 3, (1, 1), 0)] (ls' := [.ref 15, .ref 3, .null]) (st' := []) (h' := (hset h1 15 1 (h1.1 3 1))) (by decide +kernel) rfl (pc' := 16) rfl (s_lt ((hset h1 15 1 (h1.1 3 1))) (fun _ => [.ref 15, .ref 3, .null]) (fun _ => []) (fun h2 => h2) (fun h2 => s_run (M := mX1_become) [(.aload_n 0, 1, (0, 0), 0), (.aload_n 1, 1, (0, 0), 0), (.getfield 34, 3, (1, 2), 0), (.putfield 34, 3, (1, 2), 0)] (ls' := [.ref 15, .ref 3, .null]) (st' := []) (h' := (hset h2 15 2 (h2.1 3 2))) (by decide +kernel) rfl (pc' := 24) rfl (s_lt ((hset h2 15 2 (h2.1 3 2))) (fun _ => [.ref 15, .ref 3, .null]) (fun _ => []) (fun h3 => h3) (fun h3 => s_run (M := mX1_become) [(.aload_n 0, 1, (0, 0), 0), (.aload_n 1, 1, (0, 0), 0), (.getfield 37, 3, (1, 3), 0), (.putfield 37, 3, (1, 3), 0)] (ls' := [.ref 15, .ref 3, .null]) (st' := []) (h' := (hset h3 15 3 (h3.1 3 3))) (by decide +kernel) rfl (pc' := 32) rfl (s_lt ((hset h3 15 3 (h3.1 3 3))) (fun _ => [.ref 15, .ref 3, .null]) (fun _ => []) (fun h4 => h4) (fun h4 => s_run (M := mX1_become) [(.aload_n 0, 1, (0, 0), 0), (.aload_n 1, 1, (0, 0), 0), (.getfield 40, 3, (1, 4), 0), (.putfield 40, 3, (1, 4), 0)] (ls' := [.ref 15, .ref 3, .null]) (st' := []) (h' := (hset h4 15 4 (h4.1 3 4))) (by decide +kernel) rfl (pc' := 40) rfl (s_lt ((hset h4 15 4 (h4.1 3 4))) (fun _ => [.ref 15, .ref 3, .null]) (fun _ => []) (fun h5 => h5) (fun h5 => s_run (M := mX1_become) [(.aload_n 0, 1, (0, 0), 0), (.aload_n 1, 1, (0, 0), 0), (.getfield 43, 3, (1, 5), 0), (.putfield 43, 3, (1, 5), 0)] (ls' := [.ref 15, .ref 3, .null]) (st' := []) (h' := (hset h5 15 5 (h5.1 3 5))) (by decide +kernel) rfl (pc' := 48) rfl (s_lt ((hset h5 15 5 (h5.1 3 5))) (fun _ => [.ref 15, .ref 3, .null]) (fun _ => []) (fun h6 => h6) (fun h6 => s_run (M := mX1_become) [(.iconst 0, 1, (0, 0), 0), (.istore_n 2, 1, (0, 0), 0)] (ls' := [.ref 15, .ref 3, .int 0]) (st' := []) (h' := h6) (by decide +kernel) rfl (pc' := 50) rfl (s_loop2 (fun (i7 : Int32) (h8 : HS) => [.ref 15, .ref 3, .int i7]) (fun (i7 : Int32) (h8 : HS) => h8) (fun rec9 H10 (i7 : Int32) (h8 : HS) => s_run (M := mX1_become) [(.iload_n 2, 1, (0, 0), 0), (.iconst 4, 1, (0, 0), 4)] (ls' := [.ref 15, .ref 3, .int i7]) (st' := [.int 4, .int i7]) (h' := h8) (by decide +kernel) rfl (pc' := 52) rfl (s_icmp_ge (M := mX1_become) (off := 57) (tgt := 109) (by decide +kernel) (by decide +kernel) (fun _ => s_run (M := mX1_become) [(.aload_n 0, 1, (0, 0), 0), (.getfield 9, 3, (1, 6), 0), (.iload_n 2, 1, (0, 0), 0), (.aload_n 1, 1, (0, 0), 0), (.getfield 9, 3, (1, 6), 0), (.iload_n 2, 1, (0, 0), 0)] (ls' := [.ref 15, .ref 3, .int i7]) (st' := [.int i7, .ref 4, .int i7, .ref 16]) (h' := h8) (by decide +kernel) rfl (pc' := 65) rfl (s_iald (M := mX1_become) (n := 4) (by decide +kernel) (by decide) (fun r17 => s_iast (M := mX1_become) (n := 4) (by decide +kernel) (by decide) (fun h18 => s_run (M := mX1_become) [(.aload_n 0, 1, (0, 0), 0), (.getfield 15, 3, (1, 7), 0), (.iload_n 2, 1, (0, 0), 0), (.aload_n 1, 1, (0, 0), 0), (.getfield 15, 3, (1, 7), 0), (.iload_n 2, 1, (0, 0), 0)] (ls' := [.ref 15, .ref 3, .int i7]) (st' := [.int i7, .ref 5, .int i7, .ref 17]) (h' := h18) (by decide +kernel) rfl (pc' := 77) rfl (s_iald (M := mX1_become) (n := 4) (by decide +kernel) (by decide) (fun r19 => s_iast (M := mX1_become) (n := 4) (by decide +kernel) (by decide) (fun h20 => s_run (M := mX1_become) [(.aload_n 0, 1, (0, 0), 0), (.getfield 18, 3, (1, 8), 0), (.iload_n 2, 1, (0, 0), 0), (.aload_n 1, 1, (0, 0), 0), (.getfield 18, 3, (1, 8), 0), (.iload_n 2, 1, (0, 0), 0)] (ls' := [.ref 15, .ref 3, .int i7]) (st' := [.int i7, .ref 6, .int i7, .ref 18]) (h' := h20) (by decide +kernel) rfl (pc' := 89) rfl (s_iald (M := mX1_become) (n := 4) (by decide +kernel) (by decide) (fun r21 => s_iast (M := mX1_become) (n := 4) (by decide +kernel) (by decide) (fun h22 => s_run (M := mX1_become) [(.aload_n 0, 1, (0, 0), 0), (.getfield 21, 3, (1, 9), 0), (.iload_n 2, 1, (0, 0), 0), (.aload_n 1, 1, (0, 0), 0), (.getfield 21, 3, (1, 9), 0), (.iload_n 2, 1, (0, 0), 0)] (ls' := [.ref 15, .ref 3, .int i7]) (st' := [.int i7, .ref 7, .int i7, .ref 19]) (h' := h22) (by decide +kernel) rfl (pc' := 101) rfl (s_iald (M := mX1_become) (n := 4) (by decide +kernel) (by decide) (fun r23 => s_iast (M := mX1_become) (n := 4) (by decide +kernel) (by decide) (fun h24 => s_run (M := mX1_become) [(.iinc 2 1, 3, (0, 0), 1), (.goto (-56), 3, (50, 0), 0)] (ls' := [.ref 15, .ref 3, .int (i7 + 1)]) (st' := []) (h' := h24) (by decide +kernel) rfl (pc' := 50) rfl (H10 (i7 + 1) h24)))))))))))))) (fun _ => s_run (M := mX1_become) [(.iconst 0, 1, (0, 0), 0), (.istore_n 2, 1, (0, 0), 0)] (ls' := [.ref 15, .ref 3, .int 0]) (st' := []) (h' := h8) (by decide +kernel) rfl (pc' := 111) rfl (s_loop2 (fun (i11 : Int32) (h12 : HS) => [.ref 15, .ref 3, .int i11]) (fun (i11 : Int32) (h12 : HS) => h12) (fun rec13 H14 (i11 : Int32) (h12 : HS) => s_run (M := mX1_become) [(.iload_n 2, 1, (0, 0), 0), (.bipush 6, 2, (0, 0), 6)] (ls' := [.ref 15, .ref 3, .int i11]) (st' := [.int 6, .int i11]) (h' := h12) (by decide +kernel) rfl (pc' := 114) rfl (s_icmp_ge (M := mX1_become) (off := 21) (tgt := 135) (by decide +kernel) (by decide +kernel) (fun _ => s_run (M := mX1_become) [(.aload_n 0, 1, (0, 0), 0), (.getfield 24, 3, (1, 10), 0), (.iload_n 2, 1, (0, 0), 0), (.aload_n 1, 1, (0, 0), 0), (.getfield 24, 3, (1, 10), 0), (.iload_n 2, 1, (0, 0), 0)] (ls' := [.ref 15, .ref 3, .int i11]) (st' := [.int i11, .ref 8, .int i11, .ref 20]) (h' := h12) (by decide +kernel) rfl (pc' := 127) rfl (s_iald (M := mX1_become) (n := 6) (by decide +kernel) (by decide) (fun r15 => s_iast (M := mX1_become) (n := 6) (by decide +kernel) (by decide) (fun h16 => s_run (M := mX1_become) [(.iinc 2 1, 3, (0, 0), 1), (.goto (-21), 3, (111, 0), 0)] (ls' := [.ref 15, .ref 3, .int (i11 + 1)]) (st' := []) (h' := h16) (by decide +kernel) rfl (pc' := 111) rfl (H14 (i11 + 1) h16))))) (fun _ => s_retV (M := mX1_become) (by decide +kernel) rfl))) 400 0 h8)))) 400 0 h6))))))))))))))
theorem ckX1_knownMatters_87 : ckV mX1_knownMatters mX1_knownAs 87 1 348 298 299 38 300 = true := by decide +kernel
set_option maxRecDepth 20000 in
set_option maxHeartbeats 4000000 in
theorem c_X1_knownMatters_3 (h : HS) : CSim mX1_knownMatters (cI_ h) [.ref 3] h (f_X1_knownMatters h 3) :=
  csim_of (by decide +kernel) rfl (Nat.le_of_ble_eq_true rfl) (ls := [.ref 3, .null, .null]) rfl (by
    unfold f_X1_knownMatters
    exact s_run (M := mX1_knownMatters) [(.iconst 0, 1, (0, 0), 0), (.istore_n 1, 1, (0, 0), 0), (.iconst 0, 1, (0, 0), 0), (.istore_n 2, 1, (0, 0), 0)] (ls' := [.ref 3, .int 0, .int 0]) (st' := []) (h' := h) (by decide +kernel) rfl (pc' := 4) rfl (s_loop2 (fun (i1 : Int32) (i2 : Int32) => [.ref 3, .int i1, .int i2]) (fun (i1 : Int32) (i2 : Int32) => h) (fun rec3 H4 (i1 : Int32) (i2 : Int32) => s_run (M := mX1_knownMatters) [(.iload_n 2, 1, (0, 0), 0), (.aload_n 0, 1, (0, 0), 0), (.getfield 31, 3, (1, 1), 0)] (ls' := [.ref 3, .int i1, .int i2]) (st' := [.int (h.1 3 1), .int i2]) (h' := h) (by decide +kernel) rfl (pc' := 9) rfl (s_icmp_ge (M := mX1_knownMatters) (off := 25) (tgt := 34) (by decide +kernel) (by decide +kernel) (fun _ => s_run (M := mX1_knownMatters) [(.aload_n 0, 1, (0, 0), 0), (.iload_n 2, 1, (0, 0), 0)] (ls' := [.ref 3, .int i1, .int i2]) (st' := [.int i2, .ref 3]) (h' := h) (by decide +kernel) rfl (pc' := 14) rfl (s_cVI ckX1_knownMatters_87 [.int i2] 3 (st := []) rfl rfl rfl (by decide) (Nat.le_of_ble_eq_true rfl) (by decide +kernel) (c_X1_knownAs_3 _ _) (fun r5 => s_run (M := mX1_knownMatters) [(.bipush (-9), 2, (0, 0), (-9))] (ls' := [.ref 3, .int i1, .int i2]) (st' := [.int (-9), .int r5]) (h' := h) (by decide +kernel) rfl (pc' := 19) rfl (s_jn (fun (j7 : Int32 → Option Int32) => ∀ (w6 : Int32), Sim none mX1_knownMatters (cI_ h) 28 [.ref 3, .int w6, .int i2] [] h (j7 w6)) (fun w6 => s_run (M := mX1_knownMatters) [(.iinc 2 1, 3, (0, 0), 1), (.goto (-27), 3, (4, 0), 0)] (ls' := [.ref 3, .int w6, .int (i2 + 1)]) (st' := []) (h' := h) (by decide +kernel) rfl (pc' := 4) rfl (H4 w6 (i2 + 1))) (fun j7 J8 => s_icmp_eq (M := mX1_knownMatters) (off := 9) (tgt := 28) (by decide +kernel) (by decide +kernel) (fun _ => J8 i1) (fun _ => s_run (M := mX1_knownMatters) [(.iload_n 1, 1, (0, 0), 0), (.iconst 1, 1, (0, 0), 1), (.iload_n 2, 1, (0, 0), 0), (.ishl, 1, (0, 0), 0), (.ior, 1, (0, 0), 0), (.istore_n 1, 1, (0, 0), 0)] (ls' := [.ref 3, .int (i1 ||| (1 <<< (i2 &&& 31))), .int i2]) (st' := []) (h' := h) (by decide +kernel) rfl (pc' := 28) rfl (s_lt ((i1 ||| (1 <<< (i2 &&& 31))) : Int32) (fun v9 => [.ref 3, .int v9, .int i2]) (fun _ => []) (fun _ => h) (fun v9 => J8 v9)))))))) (fun _ => s_run (M := mX1_knownMatters) [(.iload_n 1, 1, (0, 0), 0)] (ls' := [.ref 3, .int i1, .int i2]) (st' := [.int i1]) (h' := h) (by decide +kernel) rfl (pc' := 35) rfl (s_retI (M := mX1_knownMatters) (by decide +kernel) rfl)))) 400 0 0))
set_option maxRecDepth 20000 in
set_option maxHeartbeats 4000000 in
theorem c_X1_become_21_3 (h : HS) : CSim mX1_become cV_ [.ref 21, .ref 3] h (f_X1_become h 21 3) :=
  csim_of (by decide +kernel) rfl (Nat.le_of_ble_eq_true rfl) (ls := [.ref 21, .ref 3, .null]) rfl (by
    unfold f_X1_become
    exact s_run (M := mX1_become) [(.aload_n 0, 1, (0, 0), 0), (.aload_n 1, 1, (0, 0), 0), (.getfield 27, 3, (1, 0), 0), (.putfield 27, 3, (1, 0), 0)] (ls' := [.ref 21, .ref 3, .null]) (st' := []) (h' := (hset h 21 0 (h.1 3 0))) (by decide +kernel) rfl (pc' := 8) rfl (s_lt ((hset h 21 0 (h.1 3 0))) (fun _ => [.ref 21, .ref 3, .null]) (fun _ => []) (fun h1 => h1) (fun h1 => s_run (M := mX1_become) [(.aload_n 0, 1, (0, 0), 0), (.aload_n 1, 1, (0, 0), 0), (.getfield 31, 3, (1, 1), 0), (.putfield 31, 3, (1, 1), 0)] (ls' := [.ref 21, .ref 3, .null]) (st' := []) (h' := (hset h1 21 1 (h1.1 3 1))) (by decide +kernel) rfl (pc' := 16) rfl (s_lt ((hset h1 21 1 (h1.1 3 1))) (fun _ => [.ref 21, .ref 3, .null]) (fun _ => []) (fun h2 => h2) (fun h2 => s_run (M := mX1_become) [(.aload_n 0, 1, (0, 0), 0), (.aload_n 1, 1, (0, 0), 0), (.getfield 34, 3, (1, 2), 0), (.putfield 34, 3, (1, 2), 0)] (ls' := [.ref 21, .ref 3, .null]) (st' := []) (h' := (hset h2 21 2 (h2.1 3 2))) (by decide +kernel) rfl (pc' := 24) rfl (s_lt ((hset h2 21 2 (h2.1 3 2))) (fun _ => [.ref 21, .ref 3, .null]) (fun _ => []) (fun h3 => h3) (fun h3 => s_run (M := mX1_become) [(.aload_n 0, 1, (0, 0), 0), (.aload_n 1, 1, (0, 0), 0), (.getfield 37, 3, (1, 3), 0), (.putfield 37, 3, (1, 3), 0)] (ls' := [.ref 21, .ref 3, .null]) (st' := []) (h' := (hset h3 21 3 (h3.1 3 3))) (by decide +kernel) rfl (pc' := 32) rfl (s_lt ((hset h3 21 3 (h3.1 3 3))) (fun _ => [.ref 21, .ref 3, .null]) (fun _ => []) (fun h4 => h4) (fun h4 => s_run (M := mX1_become) [(.aload_n 0, 1, (0, 0), 0), (.aload_n 1, 1, (0, 0), 0), (.getfield 40, 3, (1, 4), 0), (.putfield 40, 3, (1, 4), 0)] (ls' := [.ref 21, .ref 3, .null]) (st' := []) (h' := (hset h4 21 4 (h4.1 3 4))) (by decide +kernel) rfl (pc' := 40) rfl (s_lt ((hset h4 21 4 (h4.1 3 4))) (fun _ => [.ref 21, .ref 3, .null]) (fun _ => []) (fun h5 => h5) (fun h5 => s_run (M := mX1_become) [(.aload_n 0, 1, (0, 0), 0), (.aload_n 1, 1, (0, 0), 0), (.getfield 43, 3, (1, 5), 0), (.putfield 43, 3, (1, 5), 0)] (ls' := [.ref 21, .ref 3, .null]) (st' := []) (h' := (hset h5 21 5 (h5.1 3 5))) (by decide +kernel) rfl (pc' := 48) rfl (s_lt ((hset h5 21 5 (h5.1 3 5))) (fun _ => [.ref 21, .ref 3, .null]) (fun _ => []) (fun h6 => h6) (fun h6 => s_run (M := mX1_become) [(.iconst 0, 1, (0, 0), 0), (.istore_n 2, 1, (0, 0), 0)] (ls' := [.ref 21, .ref 3, .int 0]) (st' := []) (h' := h6) (by decide +kernel) rfl (pc' := 50) rfl (s_loop2 (fun (i7 : Int32) (h8 : HS) => [.ref 21, .ref 3, .int i7]) (fun (i7 : Int32) (h8 : HS) => h8) (fun rec9 H10 (i7 : Int32) (h8 : HS) => s_run (M := mX1_become) [(.iload_n 2, 1, (0, 0), 0), (.iconst 4, 1, (0, 0), 4)] (ls' := [.ref 21, .ref 3, .int i7]) (st' := [.int 4, .int i7]) (h' := h8) (by decide +kernel) rfl (pc' := 52) rfl (s_icmp_ge (M := mX1_become) (off := 57) (tgt := 109) (by decide +kernel) (by decide +kernel) (fun _ => s_run (M := mX1_become) [(.aload_n 0, 1, (0, 0), 0), (.getfield 9, 3, (1, 6), 0), (.iload_n 2, 1, (0, 0), 0), (.aload_n 1, 1, (0, 0), 0), (.getfield 9, 3, (1, 6), 0), (.iload_n 2, 1, (0, 0), 0)] (ls' := [.ref 21, .ref 3, .int i7]) (st' := [.int i7, .ref 4, .int i7, .ref 22]) (h' := h8) (by decide +kernel) rfl (pc' := 65) rfl (s_iald (M := mX1_become) (n := 4) (by decide +kernel) (by decide) (fun r17 => s_iast (M := mX1_become) (n := 4) (by decide +kernel) (by decide) (fun h18 => s_run (M := mX1_become) [(.aload_n 0, 1, (0, 0), 0), (.getfield 15, 3, (1, 7), 0), (.iload_n 2, 1, (0, 0), 0), (.aload_n 1, 1, (0, 0), 0), (.getfield 15, 3, (1, 7), 0), (.iload_n 2, 1, (0, 0), 0)] (ls' := [.ref 21, .ref 3, .int i7]) (st' := [.int i7, .ref 5, .int i7, .ref 23]) (h' := h18) (by decide +kernel) rfl (pc' := 77) rfl (s_iald (M := mX1_become) (n := 4) (by decide +kernel) (by decide) (fun r19 => s_iast (M := mX1_become) (n := 4) (by decide +kernel) (by decide) (fun h20 => s_run (M := mX1_become) [(.aload_n 0, 1, (0, 0), 0), (.getfield 18, 3, (1, 8), 0), (.iload_n 2, 1, (0, 0), 0), (.aload_n 1, 1, (0, 0), 0), (.getfield 18, 3, (1, 8), 0), (.iload_n 2, 1, (0, 0), 0)] (ls' := [.ref 21, .ref 3, .int i7]) (st' := [.int i7, .ref 6, .int i7, .ref 24]) (h' := h20) (by decide +kernel) rfl (pc' := 89) rfl (s_iald (M := mX1_become) (n := 4) (by decide +kernel) (by decide) (fun r21 => s_iast (M := mX1_become) (n := 4) (by decide +kernel) (by decide) (fun h22 => s_run (M := mX1_become) [(.aload_n 0, 1, (0, 0), 0), (.getfield 21, 3, (1, 9), 0), (.iload_n 2, 1, (0, 0), 0), (.aload_n 1, 1, (0, 0), 0), (.getfield 21, 3, (1, 9), 0), (.iload_n 2, 1, (0, 0), 0)] (ls' := [.ref 21, .ref 3, .int i7]) (st' := [.int i7, .ref 7, .int i7, .ref 25]) (h' := h22) (by decide +kernel) rfl (pc' := 101) rfl (s_iald (M := mX1_become) (n := 4) (by decide +kernel) (by decide) (fun r23 => s_iast (M := mX1_become) (n := 4) (by decide +kernel) (by decide) (fun h24 => s_run (M := mX1_become) [(.iinc 2 1, 3, (0, 0), 1), (.goto (-56), 3, (50, 0), 0)] (ls' := [.ref 21, .ref 3, .int (i7 + 1)]) (st' := []) (h' := h24) (by decide +kernel) rfl (pc' := 50) rfl (H10 (i7 + 1) h24)))))))))))))) (fun _ => s_run (M := mX1_become) [(.iconst 0, 1, (0, 0), 0), (.istore_n 2, 1, (0, 0), 0)] (ls' := [.ref 21, .ref 3, .int 0]) (st' := []) (h' := h8) (by decide +kernel) rfl (pc' := 111) rfl (s_loop2 (fun (i11 : Int32) (h12 : HS) => [.ref 21, .ref 3, .int i11]) (fun (i11 : Int32) (h12 : HS) => h12) (fun rec13 H14 (i11 : Int32) (h12 : HS) => s_run (M := mX1_become) [(.iload_n 2, 1, (0, 0), 0), (.bipush 6, 2, (0, 0), 6)] (ls' := [.ref 21, .ref 3, .int i11]) (st' := [.int 6, .int i11]) (h' := h12) (by decide +kernel) rfl (pc' := 114) rfl (s_icmp_ge (M := mX1_become) (off := 21) (tgt := 135) (by decide +kernel) (by decide +kernel) (fun _ => s_run (M := mX1_become) [(.aload_n 0, 1, (0, 0), 0), (.getfield 24, 3, (1, 10), 0), (.iload_n 2, 1, (0, 0), 0), (.aload_n 1, 1, (0, 0), 0), (.getfield 24, 3, (1, 10), 0), (.iload_n 2, 1, (0, 0), 0)] (ls' := [.ref 21, .ref 3, .int i11]) (st' := [.int i11, .ref 8, .int i11, .ref 26]) (h' := h12) (by decide +kernel) rfl (pc' := 127) rfl (s_iald (M := mX1_become) (n := 6) (by decide +kernel) (by decide) (fun r15 => s_iast (M := mX1_become) (n := 6) (by decide +kernel) (by decide) (fun h16 => s_run (M := mX1_become) [(.iinc 2 1, 3, (0, 0), 1), (.goto (-21), 3, (111, 0), 0)] (ls' := [.ref 21, .ref 3, .int (i11 + 1)]) (st' := []) (h' := h16) (by decide +kernel) rfl (pc' := 111) rfl (H14 (i11 + 1) h16))))) (fun _ => s_retV (M := mX1_become) (by decide +kernel) rfl))) 400 0 h8)))) 400 0 h6))))))))))))))
set_option maxRecDepth 20000 in
set_option maxHeartbeats 4000000 in
theorem c_X1_become_3_15 (h : HS) : CSim mX1_become cV_ [.ref 3, .ref 15] h (f_X1_become h 3 15) :=
  csim_of (by decide +kernel) rfl (Nat.le_of_ble_eq_true rfl) (ls := [.ref 3, .ref 15, .null]) rfl (by
    unfold f_X1_become
    exact s_run (M := mX1_become) [(.aload_n 0, 1, (0, 0), 0), (.aload_n 1, 1, (0, 0), 0), (.getfield 27, 3, (1, 0), 0), (.putfield 27, 3, (1, 0), 0)] (ls' := [.ref 3, .ref 15, .null]) (st' := []) (h' := (hset h 3 0 (h.1 15 0))) (by decide +kernel) rfl (pc' := 8) rfl (s_lt ((hset h 3 0 (h.1 15 0))) (fun _ => [.ref 3, .ref 15, .null]) (fun _ => []) (fun h1 => h1) (fun h1 => s_run (M := mX1_become) [(.aload_n 0, 1, (0, 0), 0), (.aload_n 1, 1, (0, 0), 0), (.getfield 31, 3, (1, 1), 0), (.putfield 31, 3, (1, 1), 0)] (ls' := [.ref 3, .ref 15, .null]) (st' := []) (h' := (hset h1 3 1 (h1.1 15 1))) (by decide +kernel) rfl (pc' := 16) rfl (s_lt ((hset h1 3 1 (h1.1 15 1))) (fun _ => [.ref 3, .ref 15, .null]) (fun _ => []) (fun h2 => h2) (fun h2 => s_run (M := mX1_become) [(.aload_n 0, 1, (0, 0), 0), (.aload_n 1, 1, (0, 0), 0), (.getfield 34, 3, (1, 2), 0), (.putfield 34, 3, (1, 2), 0)] (ls' := [.ref 3, .ref 15, .null]) (st' := []) (h' := (hset h2 3 2 (h2.1 15 2))) (by decide +kernel) rfl (pc' := 24) rfl (s_lt ((hset h2 3 2 (h2.1 15 2))) (fun _ => [.ref 3, .ref 15, .null]) (fun _ => []) (fun h3 => h3) (fun h3 => s_run (M := mX1_become) [(.aload_n 0, 1, (0, 0), 0), (.aload_n 1, 1, (0, 0), 0), (.getfield 37, 3, (1, 3), 0), (.putfield 37, 3, (1, 3), 0)] (ls' := [.ref 3, .ref 15, .null]) (st' := []) (h' := (hset h3 3 3 (h3.1 15 3))) (by decide +kernel) rfl (pc' := 32) rfl (s_lt ((hset h3 3 3 (h3.1 15 3))) (fun _ => [.ref 3, .ref 15, .null]) (fun _ => []) (fun h4 => h4) (fun h4 => s_run (M := mX1_become) [(.aload_n 0, 1, (0, 0), 0), (.aload_n 1, 1, (0, 0), 0), (.getfield 40, 3, (1, 4), 0), (.putfield 40, 3, (1, 4), 0)] (ls' := [.ref 3, .ref 15, .null]) (st' := []) (h' := (hset h4 3 4 (h4.1 15 4))) (by decide +kernel) rfl (pc' := 40) rfl (s_lt ((hset h4 3 4 (h4.1 15 4))) (fun _ => [.ref 3, .ref 15, .null]) (fun _ => []) (fun h5 => h5) (fun h5 => s_run (M := mX1_become) [(.aload_n 0, 1, (0, 0), 0), (.aload_n 1, 1, (0, 0), 0), (.getfield 43, 3, (1, 5), 0), (.putfield 43, 3, (1, 5), 0)] (ls' := [.ref 3, .ref 15, .null]) (st' := []) (h' := (hset h5 3 5 (h5.1 15 5))) (by decide +kernel) rfl (pc' := 48) rfl (s_lt ((hset h5 3 5 (h5.1 15 5))) (fun _ => [.ref 3, .ref 15, .null]) (fun _ => []) (fun h6 => h6) (fun h6 => s_run (M := mX1_become) [(.iconst 0, 1, (0, 0), 0), (.istore_n 2, 1, (0, 0), 0)] (ls' := [.ref 3, .ref 15, .int 0]) (st' := []) (h' := h6) (by decide +kernel) rfl (pc' := 50) rfl (s_loop2 (fun (i7 : Int32) (h8 : HS) => [.ref 3, .ref 15, .int i7]) (fun (i7 : Int32) (h8 : HS) => h8) (fun rec9 H10 (i7 : Int32) (h8 : HS) => s_run (M := mX1_become) [(.iload_n 2, 1, (0, 0), 0), (.iconst 4, 1, (0, 0), 4)] (ls' := [.ref 3, .ref 15, .int i7]) (st' := [.int 4, .int i7]) (h' := h8) (by decide +kernel) rfl (pc' := 52) rfl (s_icmp_ge (M := mX1_become) (off := 57) (tgt := 109) (by decide +kernel) (by decide +kernel) (fun _ => s_run (M := mX1_become) [(.aload_n 0, 1, (0, 0), 0), (.getfield 9, 3, (1, 6), 0), (.iload_n 2, 1, (0, 0), 0), (.aload_n 1, 1, (0, 0), 0), (.getfield 9, 3, (1, 6), 0), (.iload_n 2, 1, (0, 0), 0)] (ls' := [.ref 3, .ref 15, .int i7]) (st' := [.int i7, .ref 16, .int i7, .ref 4]) (h' := h8) (by decide +kernel) rfl (pc' := 65) rfl (s_iald (M := mX1_become) (n := 4) (by decide +kernel) (by decide) (fun r17 => s_iast (M := mX1_become) (n := 4) (by decide +kernel) (by decide) (fun h18 => s_run (M := mX1_become) [(.aload_n 0, 1, (0, 0), 0), (.getfield 15, 3, (1, 7), 0), (.iload_n 2, 1, (0, 0), 0), (.aload_n 1, 1, (0, 0), 0), (.getfield 15, 3, (1, 7), 0), (.iload_n 2, 1, (0, 0), 0)] (ls' := [.ref 3, .ref 15, .int i7]) (st' := [.int i7, .ref 17, .int i7, .ref 5]) (h' := h18) (by decide +kernel) rfl (pc' := 77) rfl (s_iald (M := mX1_become) (n := 4) (by decide +kernel) (by decide) (fun r19 => s_iast (M := mX1_become) (n := 4) (by decide +kernel) (by decide) (fun h20 => s_run (M := mX1_become) [(.aload_n 0, 1, (0, 0), 0), (.getfield 18, 3, (1, 8), 0), (.iload_n 2, 1, (0, 0), 0), (.aload_n 1, 1, (0, 0), 0), (.getfield 18, 3, (1, 8), 0), (.iload_n 2, 1, (0, 0), 0)] (ls' := [.ref 3, .ref 15, .int i7]) (st' := [.int i7, .ref 18, .int i7, .ref 6]) (h' := h20) (by decide +kernel) rfl (pc' := 89) rfl (s_iald (M := mX1_become) (n := 4) (by decide +kernel) (by decide) (fun r21 => s_iast (M := mX1_become) (n := 4) (by decide +kernel) (by decide) (fun h22 => s_run (M := mX1_become) [(.aload_n 0, 1, (0, 0), 0), (.getfield 21, 3, (1, 9), 0), (.iload_n 2, 1, (0, 0), 0), (.aload_n 1, 1, (0, 0), 0), (.getfield 21, 3, (1, 9), 0), (.iload_n 2, 1, (0, 0), 0)] (ls' := [.ref 3, .ref 15, .int i7]) (st' := [.int i7, .ref 19, .int i7, .ref 7]) (h' := h22) (by decide +kernel) rfl (pc' := 101) rfl (s_iald (M := mX1_become) (n := 4) (by decide +kernel) (by decide) (fun r23 => s_iast (M := mX1_become) (n := 4) (by decide +kernel) (by decide) (fun h24 => s_run (M := mX1_become) [(.iinc 2 1, 3, (0, 0), 1), (.goto (-56), 3, (50, 0), 0)] (ls' := [.ref 3, .ref 15, .int (i7 + 1)]) (st' := []) (h' := h24) (by decide +kernel) rfl (pc' := 50) rfl (H10 (i7 + 1) h24)))))))))))))) (fun _ => s_run (M := mX1_become) [(.iconst 0, 1, (0, 0), 0), (.istore_n 2, 1, (0, 0), 0)] (ls' := [.ref 3, .ref 15, .int 0]) (st' := []) (h' := h8) (by decide +kernel) rfl (pc' := 111) rfl (s_loop2 (fun (i11 : Int32) (h12 : HS) => [.ref 3, .ref 15, .int i11]) (fun (i11 : Int32) (h12 : HS) => h12) (fun rec13 H14 (i11 : Int32) (h12 : HS) => s_run (M := mX1_become) [(.iload_n 2, 1, (0, 0), 0), (.bipush 6, 2, (0, 0), 6)] (ls' := [.ref 3, .ref 15, .int i11]) (st' := [.int 6, .int i11]) (h' := h12) (by decide +kernel) rfl (pc' := 114) rfl (s_icmp_ge (M := mX1_become) (off := 21) (tgt := 135) (by decide +kernel) (by decide +kernel) (fun _ => s_run (M := mX1_become) [(.aload_n 0, 1, (0, 0), 0), (.getfield 24, 3, (1, 10), 0), (.iload_n 2, 1, (0, 0), 0), (.aload_n 1, 1, (0, 0), 0), (.getfield 24, 3, (1, 10), 0), (.iload_n 2, 1, (0, 0), 0)] (ls' := [.ref 3, .ref 15, .int i11]) (st' := [.int i11, .ref 20, .int i11, .ref 8]) (h' := h12) (by decide +kernel) rfl (pc' := 127) rfl (s_iald (M := mX1_become) (n := 6) (by decide +kernel) (by decide) (fun r15 => s_iast (M := mX1_become) (n := 6) (by decide +kernel) (by decide) (fun h16 => s_run (M := mX1_become) [(.iinc 2 1, 3, (0, 0), 1), (.goto (-21), 3, (111, 0), 0)] (ls' := [.ref 3, .ref 15, .int (i11 + 1)]) (st' := []) (h' := h16) (by decide +kernel) rfl (pc' := 111) rfl (H14 (i11 + 1) h16))))) (fun _ => s_retV (M := mX1_become) (by decide +kernel) rfl))) 400 0 h8)))) 400 0 h6))))))))))))))
set_option maxRecDepth 20000 in
set_option maxHeartbeats 4000000 in
theorem c_X1_become_3_21 (h : HS) : CSim mX1_become cV_ [.ref 3, .ref 21] h (f_X1_become h 3 21) :=
  csim_of (by decide +kernel) rfl (Nat.le_of_ble_eq_true rfl) (ls := [.ref 3, .ref 21, .null]) rfl (by
    unfold f_X1_become
    exact s_run (M := mX1_become) [(.aload_n 0, 1, (0, 0), 0), (.aload_n 1, 1, (0, 0), 0), (.getfield 27, 3, (1, 0), 0), (.putfield 27, 3, (1, 0), 0)] (ls' := [.ref 3, .ref 21, .null]) (st' := []) (h' := (hset h 3 0 (h.1 21 0))) (by decide +kernel) rfl (pc' := 8) rfl (s_lt ((hset h 3 0 (h.1 21 0))) (fun _ => [.ref 3, .ref 21, .null]) (fun _ => []) (fun h1 => h1) (fun h1 => s_run (M := mX1_become) [(.aload_n 0, 1, (0, 0), 0), (.aload_n 1, 1, (0, 0), 0), (.getfield 31, 3, (1, 1), 0), (.putfield 31, 3, (1, 1), 0)] (ls' := [.ref 3, .ref 21, .null]) (st' := []) (h' := (hset h1 3 1 (h1.1 21 1))) (by decide +kernel) rfl (pc' := 16) rfl (s_lt ((hset h1 3 1 (h1.1 21 1))) (fun _ => [.ref 3, .ref 21, .null]) (fun _ => []) (fun h2 => h2) (fun h2 => s_run (M := mX1_become) [(.aload_n 0, 1, (0, 0), 0), (.aload_n 1, 1, (0, 0), 0), (.getfield 34, 3, (1, 2), 0), (.putfield 34, 3, (1, 2), 0)] (ls' := [.ref 3, .ref 21, .null]) (st' := []) (h' := (hset h2 3 2 (h2.1 21 2))) (by decide +kernel) rfl (pc' := 24) rfl (s_lt ((hset h2 3 2 (h2.1 21 2))) (fun _ => [.ref 3, .ref 21, .null]) (fun _ => []) (fun h3 => h3) (fun h3 => s_run (M := mX1_become) [(.aload_n 0, 1, (0, 0), 0), (.aload_n 1, 1, (0, 0), 0), (.getfield 37, 3, (1, 3), 0), (.putfield 37, 3, (1, 3), 0)] (ls' := [.ref 3, .ref 21, .null]) (st' := []) (h' := (hset h3 3 3 (h3.1 21 3))) (by decide +kernel) rfl (pc' := 32) rfl (s_lt ((hset h3 3 3 (h3.1 21 3))) (fun _ => [.ref 3, .ref 21, .null]) (fun _ => []) (fun h4 => h4) (fun h4 => s_run (M := mX1_become) [(.aload_n 0, 1, (0, 0), 0), (.aload_n 1, 1, (0, 0), 0), (.getfield 40, 3, (1, 4), 0), (.putfield 40, 3, (1, 4), 0)] (ls' := [.ref 3, .ref 21, .null]) (st' := []) (h' := (hset h4 3 4 (h4.1 21 4))) (by decide +kernel) rfl (pc' := 40) rfl (s_lt ((hset h4 3 4 (h4.1 21 4))) (fun _ => [.ref 3, .ref 21, .null]) (fun _ => []) (fun h5 => h5) (fun h5 => s_run (M := mX1_become) [(.aload_n 0, 1, (0, 0), 0), (.aload_n 1, 1, (0, 0), 0), (.getfield 43, 3, (1, 5), 0), (.putfield 43, 3, (1, 5), 0)] (ls' := [.ref 3, .ref 21, .null]) (st' := []) (h' := (hset h5 3 5 (h5.1 21 5))) (by decide +kernel) rfl (pc' := 48) rfl (s_lt ((hset h5 3 5 (h5.1 21 5))) (fun _ => [.ref 3, .ref 21, .null]) (fun _ => []) (fun h6 => h6) (fun h6 => s_run (M := mX1_become) [(.iconst 0, 1, (0, 0), 0), (.istore_n 2, 1, (0, 0), 0)] (ls' := [.ref 3, .ref 21, .int 0]) (st' := []) (h' := h6) (by decide +kernel) rfl (pc' := 50) rfl (s_loop2 (fun (i7 : Int32) (h8 : HS) => [.ref 3, .ref 21, .int i7]) (fun (i7 : Int32) (h8 : HS) => h8) (fun rec9 H10 (i7 : Int32) (h8 : HS) => s_run (M := mX1_become) [(.iload_n 2, 1, (0, 0), 0), (.iconst 4, 1, (0, 0), 4)] (ls' := [.ref 3, .ref 21, .int i7]) (st' := [.int 4, .int i7]) (h' := h8) (by decide +kernel) rfl (pc' := 52) rfl (s_icmp_ge (M := mX1_become) (off := 57) (tgt := 109) (by decide +kernel) (by decide +kernel) (fun _ => s_run (M := mX1_become) [(.aload_n 0, 1, (0, 0), 0), (.getfield 9, 3, (1, 6), 0), (.iload_n 2, 1, (0, 0), 0), (.aload_n 1, 1, (0, 0), 0), (.getfield 9, 3, (1, 6), 0), (.iload_n 2, 1, (0, 0), 0)] (ls' := [.ref 3, .ref 21, .int i7]) (st' := [.int i7, .ref 22, .int i7, .ref 4]) (h' := h8) (by decide +kernel) rfl (pc' := 65) rfl (s_iald (M := mX1_become) (n := 4) (by decide +kernel) (by decide) (fun r17 => s_iast (M := mX1_become) (n := 4) (by decide +kernel) (by decide) (fun h18 => s_run (M := mX1_become) [(.aload_n 0, 1, (0, 0), 0), (.getfield 15, 3, (1, 7), 0), (.iload_n 2, 1, (0, 0), 0), (.aload_n 1, 1, (0, 0), 0), (.getfield 15, 3, (1, 7), 0), (.iload_n 2, 1, (0, 0), 0)] (ls' := [.ref 3, .ref 21, .int i7]) (st' := [.int i7, .ref 23, .int i7, .ref 5]) (h' := h18) (by decide +kernel) rfl (pc' := 77) rfl (s_iald (M := mX1_become) (n := 4) (by decide +kernel) (by decide) (fun r19 => s_iast (M := mX1_become) (n := 4) (by decide +kernel) (by decide) (fun h20 => s_run (M := mX1_become) [(.aload_n 0, 1, (0, 0), 0), (.getfield 18, 3, (1, 8), 0), (.iload_n 2, 1, (0, 0), 0), (.aload_n 1, 1, (0, 0), 0), (.getfield 18, 3, (1, 8), 0), (.iload_n 2, 1, (0, 0), 0)] (ls' := [.ref 3, .ref 21, .int i7]) (st' := [.int i7, .ref 24, .int i7, .ref 6]) (h' := h20) (by decide +kernel) rfl (pc' := 89) rfl (s_iald (M := mX1_become) (n := 4) (by decide +kernel) (by decide) (fun r21 => s_iast (M := mX1_become) (n := 4) (by decide +kernel) (by decide) (fun h22 => s_run (M := mX1_become) [(.aload_n 0, 1, (0, 0), 0), (.getfield 21, 3, (1, 9), 0), (.iload_n 2, 1, (0, 0), 0), (.aload_n 1, 1, (0, 0), 0), (.getfield 21, 3, (1, 9), 0), (.iload_n 2, 1, (0, 0), 0)] (ls' := [.ref 3, .ref 21, .int i7]) (st' := [.int i7, .ref 25, .int i7, .ref 7]) (h' := h22) (by decide +kernel) rfl (pc' := 101) rfl (s_iald (M := mX1_become) (n := 4) (by decide +kernel) (by decide) (fun r23 => s_iast (M := mX1_become) (n := 4) (by decide +kernel) (by decide) (fun h24 => s_run (M := mX1_become) [(.iinc 2 1, 3, (0, 0), 1), (.goto (-56), 3, (50, 0), 0)] (ls' := [.ref 3, .ref 21, .int (i7 + 1)]) (st' := []) (h' := h24) (by decide +kernel) rfl (pc' := 50) rfl (H10 (i7 + 1) h24)))))))))))))) (fun _ => s_run (M := mX1_become) [(.iconst 0, 1, (0, 0), 0), (.istore_n 2, 1, (0, 0), 0)] (ls' := [.ref 3, .ref 21, .int 0]) (st' := []) (h' := h8) (by decide +kernel) rfl (pc' := 111) rfl (s_loop2 (fun (i11 : Int32) (h12 : HS) => [.ref 3, .ref 21, .int i11]) (fun (i11 : Int32) (h12 : HS) => h12) (fun rec13 H14 (i11 : Int32) (h12 : HS) => s_run (M := mX1_become) [(.iload_n 2, 1, (0, 0), 0), (.bipush 6, 2, (0, 0), 6)] (ls' := [.ref 3, .ref 21, .int i11]) (st' := [.int 6, .int i11]) (h' := h12) (by decide +kernel) rfl (pc' := 114) rfl (s_icmp_ge (M := mX1_become) (off := 21) (tgt := 135) (by decide +kernel) (by decide +kernel) (fun _ => s_run (M := mX1_become) [(.aload_n 0, 1, (0, 0), 0), (.getfield 24, 3, (1, 10), 0), (.iload_n 2, 1, (0, 0), 0), (.aload_n 1, 1, (0, 0), 0), (.getfield 24, 3, (1, 10), 0), (.iload_n 2, 1, (0, 0), 0)] (ls' := [.ref 3, .ref 21, .int i11]) (st' := [.int i11, .ref 26, .int i11, .ref 8]) (h' := h12) (by decide +kernel) rfl (pc' := 127) rfl (s_iald (M := mX1_become) (n := 6) (by decide +kernel) (by decide) (fun r15 => s_iast (M := mX1_become) (n := 6) (by decide +kernel) (by decide) (fun h16 => s_run (M := mX1_become) [(.iinc 2 1, 3, (0, 0), 1), (.goto (-21), 3, (111, 0), 0)] (ls' := [.ref 3, .ref 21, .int (i11 + 1)]) (st' := []) (h' := h16) (by decide +kernel) rfl (pc' := 111) rfl (H14 (i11 + 1) h16))))) (fun _ => s_retV (M := mX1_become) (by decide +kernel) rfl))) 400 0 h8)))) 400 0 h6))))))))))))))
theorem ckX1_allFines_81 : ckV mX1_allFines mX1_finesOf 81 1 607 285 286 38 287 = true := by decide +kernel
set_option maxRecDepth 20000 in
set_option maxHeartbeats 4000000 in
theorem c_X1_allFines_3 (h : HS) : CSim mX1_allFines (cI_ h) [.ref 3] h (f_X1_allFines h 3) :=
  csim_of (by decide +kernel) rfl (Nat.le_of_ble_eq_true rfl) (ls := [.ref 3, .null, .null]) rfl (by
    unfold f_X1_allFines
    exact s_run (M := mX1_allFines) [(.iconst 0, 1, (0, 0), 0), (.istore_n 1, 1, (0, 0), 0), (.iconst 0, 1, (0, 0), 0), (.istore_n 2, 1, (0, 0), 0)] (ls' := [.ref 3, .int 0, .int 0]) (st' := []) (h' := h) (by decide +kernel) rfl (pc' := 4) rfl (s_loop2 (fun (i1 : Int32) (i2 : Int32) => [.ref 3, .int i1, .int i2]) (fun (i1 : Int32) (i2 : Int32) => h) (fun rec3 H4 (i1 : Int32) (i2 : Int32) => s_run (M := mX1_allFines) [(.iload_n 2, 1, (0, 0), 0), (.aload_n 0, 1, (0, 0), 0), (.getfield 27, 3, (1, 0), 0)] (ls' := [.ref 3, .int i1, .int i2]) (st' := [.int (h.1 3 0), .int i2]) (h' := h) (by decide +kernel) rfl (pc' := 9) rfl (s_icmp_ge (M := mX1_allFines) (off := 17) (tgt := 26) (by decide +kernel) (by decide +kernel) (fun _ => s_run (M := mX1_allFines) [(.iload_n 1, 1, (0, 0), 0), (.aload_n 0, 1, (0, 0), 0), (.iload_n 2, 1, (0, 0), 0)] (ls' := [.ref 3, .int i1, .int i2]) (st' := [.int i2, .ref 3, .int i1]) (h' := h) (by decide +kernel) rfl (pc' := 15) rfl (s_cVI ckX1_allFines_81 [.int i2] 3 (st := [.int i1]) rfl rfl rfl (by decide) (Nat.le_of_ble_eq_true rfl) (by decide +kernel) (c_X1_finesOf_3 _ _) (fun r5 => s_run (M := mX1_allFines) [(.iadd, 1, (0, 0), 0), (.istore_n 1, 1, (0, 0), 0)] (ls' := [.ref 3, .int (i1 + r5), .int i2]) (st' := []) (h' := h) (by decide +kernel) rfl (pc' := 20) rfl (s_lt ((i1 + r5) : Int32) (fun v6 => [.ref 3, .int v6, .int i2]) (fun _ => []) (fun _ => h) (fun v6 => s_run (M := mX1_allFines) [(.iinc 2 1, 3, (0, 0), 1), (.goto (-19), 3, (4, 0), 0)] (ls' := [.ref 3, .int v6, .int (i2 + 1)]) (st' := []) (h' := h) (by decide +kernel) rfl (pc' := 4) rfl (H4 v6 (i2 + 1))))))) (fun _ => s_run (M := mX1_allFines) [(.iload_n 1, 1, (0, 0), 0)] (ls' := [.ref 3, .int i1, .int i2]) (st' := [.int i1]) (h' := h) (by decide +kernel) rfl (pc' := 27) rfl (s_retI (M := mX1_allFines) (by decide +kernel) rfl)))) 400 0 0))
theorem ckX1_rightlyKnownMatters_87 : ckV mX1_rightlyKnownMatters mX1_knownAs 87 1 348 298 299 38 300 = true := by decide +kernel
theorem ckX1_rightlyKnownMatters_90 : ckV mX1_rightlyKnownMatters mX1_asItIs 90 1 408 409 410 38 411 = true := by decide +kernel
set_option maxRecDepth 20000 in
set_option maxHeartbeats 4000000 in
theorem c_X1_rightlyKnownMatters_3 (h : HS) : CSim mX1_rightlyKnownMatters (cI_ h) [.ref 3] h (f_X1_rightlyKnownMatters h 3) :=
  csim_of (by decide +kernel) rfl (Nat.le_of_ble_eq_true rfl) (ls := [.ref 3, .null, .null]) rfl (by
    unfold f_X1_rightlyKnownMatters
    exact s_run (M := mX1_rightlyKnownMatters) [(.iconst 0, 1, (0, 0), 0), (.istore_n 1, 1, (0, 0), 0), (.iconst 0, 1, (0, 0), 0), (.istore_n 2, 1, (0, 0), 0)] (ls' := [.ref 3, .int 0, .int 0]) (st' := []) (h' := h) (by decide +kernel) rfl (pc' := 4) rfl (s_loop2 (fun (i1 : Int32) (i2 : Int32) => [.ref 3, .int i1, .int i2]) (fun (i1 : Int32) (i2 : Int32) => h) (fun rec3 H4 (i1 : Int32) (i2 : Int32) => s_run (M := mX1_rightlyKnownMatters) [(.iload_n 2, 1, (0, 0), 0), (.aload_n 0, 1, (0, 0), 0), (.getfield 31, 3, (1, 1), 0)] (ls' := [.ref 3, .int i1, .int i2]) (st' := [.int (h.1 3 1), .int i2]) (h' := h) (by decide +kernel) rfl (pc' := 9) rfl (s_icmp_ge (M := mX1_rightlyKnownMatters) (off := 28) (tgt := 37) (by decide +kernel) (by decide +kernel) (fun _ => s_run (M := mX1_rightlyKnownMatters) [(.aload_n 0, 1, (0, 0), 0), (.iload_n 2, 1, (0, 0), 0)] (ls' := [.ref 3, .int i1, .int i2]) (st' := [.int i2, .ref 3]) (h' := h) (by decide +kernel) rfl (pc' := 14) rfl (s_cVI ckX1_rightlyKnownMatters_87 [.int i2] 3 (st := []) rfl rfl rfl (by decide) (Nat.le_of_ble_eq_true rfl) (by decide +kernel) (c_X1_knownAs_3 _ _) (fun r5 => s_run (M := mX1_rightlyKnownMatters) [(.aload_n 0, 1, (0, 0), 0), (.iload_n 2, 1, (0, 0), 0)] (ls' := [.ref 3, .int i1, .int i2]) (st' := [.int i2, .ref 3, .int r5]) (h' := h) (by decide +kernel) rfl (pc' := 19) rfl (s_cVI ckX1_rightlyKnownMatters_90 [.int i2] 3 (st := [.int r5]) rfl rfl rfl (by decide) (Nat.le_of_ble_eq_true rfl) (by decide +kernel) (c_X1_asItIs_3 _ _) (fun r6 => s_jn (fun (j8 : Int32 → Option Int32) => ∀ (w7 : Int32), Sim none mX1_rightlyKnownMatters (cI_ h) 31 [.ref 3, .int w7, .int i2] [] h (j8 w7)) (fun w7 => s_run (M := mX1_rightlyKnownMatters) [(.iinc 2 1, 3, (0, 0), 1), (.goto (-30), 3, (4, 0), 0)] (ls' := [.ref 3, .int w7, .int (i2 + 1)]) (st' := []) (h' := h) (by decide +kernel) rfl (pc' := 4) rfl (H4 w7 (i2 + 1))) (fun j8 J9 => s_icmp_ne (M := mX1_rightlyKnownMatters) (off := 9) (tgt := 31) (by decide +kernel) (by decide +kernel) (fun _ => s_run (M := mX1_rightlyKnownMatters) [(.iload_n 1, 1, (0, 0), 0), (.iconst 1, 1, (0, 0), 1), (.iload_n 2, 1, (0, 0), 0), (.ishl, 1, (0, 0), 0), (.ior, 1, (0, 0), 0), (.istore_n 1, 1, (0, 0), 0)] (ls' := [.ref 3, .int (i1 ||| (1 <<< (i2 &&& 31))), .int i2]) (st' := []) (h' := h) (by decide +kernel) rfl (pc' := 31) rfl (s_lt ((i1 ||| (1 <<< (i2 &&& 31))) : Int32) (fun v10 => [.ref 3, .int v10, .int i2]) (fun _ => []) (fun _ => h) (fun v10 => J9 v10))) (fun _ => J9 i1))))))) (fun _ => s_run (M := mX1_rightlyKnownMatters) [(.iload_n 1, 1, (0, 0), 0)] (ls' := [.ref 3, .int i1, .int i2]) (st' := [.int i1]) (h' := h) (by decide +kernel) rfl (pc' := 38) rfl (s_retI (M := mX1_rightlyKnownMatters) (by decide +kernel) rfl)))) 400 0 0))
end
