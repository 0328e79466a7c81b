section
-- ===== PART A: goes FIRST, ahead of the names: the tables' words, and 'selects' of the private methods out of them =====
/-- a private method of a class that the tables say can be made, by its rows of tables_1 -/
def lw_okq (q : MethodName × Nat) : Prop := (q.1.cls ≠ "java/lang/invoke/MethodHandle" ∧ q.1.cls ≠ "java/lang/invoke/VarHandle") ∧ Cond.instantiable q.1.cls q.2 ∈ tables_1 ∧ Cond.privateMethod q.1 ∈ tables_1 ∧ Cond.instanceMethod q.1 ∈ tables_1
theorem lw_p0 : lw_okq (⟨"RoundRows$Pad", "canStand", "(II)Z"⟩, 2) := ⟨⟨by decide +kernel, by decide +kernel⟩, List.mem_of_getElem? (i := 26) (by decide +kernel), List.mem_of_getElem? (i := 286) (by decide +kernel), List.mem_of_getElem? (i := 287) (by decide +kernel)⟩
theorem lw_p1 : lw_okq (⟨"RoundRows$Pad", "digitAt", "(I)I"⟩, 2) := ⟨⟨by decide +kernel, by decide +kernel⟩, List.mem_of_getElem? (i := 26) (by decide +kernel), List.mem_of_getElem? (i := 290) (by decide +kernel), List.mem_of_getElem? (i := 291) (by decide +kernel)⟩
theorem lw_p2 : lw_okq (⟨"RoundRows$Pad", "canStandInYear", "(III)Z"⟩, 2) := ⟨⟨by decide +kernel, by decide +kernel⟩, List.mem_of_getElem? (i := 26) (by decide +kernel), List.mem_of_getElem? (i := 295) (by decide +kernel), List.mem_of_getElem? (i := 296) (by decide +kernel)⟩
theorem lw_p3 : lw_okq (⟨"RoundRows$Pad", "twoDigitsAt", "(I)I"⟩, 2) := ⟨⟨by decide +kernel, by decide +kernel⟩, List.mem_of_getElem? (i := 26) (by decide +kernel), List.mem_of_getElem? (i := 299) (by decide +kernel), List.mem_of_getElem? (i := 300) (by decide +kernel)⟩
theorem lw_p4 : lw_okq (⟨"RoundRows", "refusalOf", "(ZZ)I"⟩, 11) := ⟨⟨by decide +kernel, by decide +kernel⟩, List.mem_of_getElem? (i := 16) (by decide +kernel), List.mem_of_getElem? (i := 307) (by decide +kernel), List.mem_of_getElem? (i := 308) (by decide +kernel)⟩
theorem lw_p5 : lw_okq (⟨"RoundRows$Pad", "workOne", "(I[I)V"⟩, 2) := ⟨⟨by decide +kernel, by decide +kernel⟩, List.mem_of_getElem? (i := 26) (by decide +kernel), List.mem_of_getElem? (i := 319) (by decide +kernel), List.mem_of_getElem? (i := 320) (by decide +kernel)⟩
theorem lw_p6 : lw_okq (⟨"RoundRows", "putShare", "(II)V"⟩, 11) := ⟨⟨by decide +kernel, by decide +kernel⟩, List.mem_of_getElem? (i := 16) (by decide +kernel), List.mem_of_getElem? (i := 363) (by decide +kernel), List.mem_of_getElem? (i := 364) (by decide +kernel)⟩
theorem lw_p7 : lw_okq (⟨"RoundRows", "takeRounds", "(IIII)V"⟩, 11) := ⟨⟨by decide +kernel, by decide +kernel⟩, List.mem_of_getElem? (i := 16) (by decide +kernel), List.mem_of_getElem? (i := 367) (by decide +kernel), List.mem_of_getElem? (i := 368) (by decide +kernel)⟩
theorem lw_p8 : lw_okq (⟨"RoundRows", "oddsOfGreatest", "(IIII)J"⟩, 11) := ⟨⟨by decide +kernel, by decide +kernel⟩, List.mem_of_getElem? (i := 16) (by decide +kernel), List.mem_of_getElem? (i := 426) (by decide +kernel), List.mem_of_getElem? (i := 427) (by decide +kernel)⟩
theorem lw_p9 : lw_okq (⟨"RoundRows", "countOrders", "()V"⟩, 11) := ⟨⟨by decide +kernel, by decide +kernel⟩, List.mem_of_getElem? (i := 16) (by decide +kernel), List.mem_of_getElem? (i := 431) (by decide +kernel), List.mem_of_getElem? (i := 432) (by decide +kernel)⟩
theorem lw_p10 : lw_okq (⟨"RoundRows$Orders", "swap", "(II)V"⟩, 3) := ⟨⟨by decide +kernel, by decide +kernel⟩, List.mem_of_getElem? (i := 105) (by decide +kernel), List.mem_of_getElem? (i := 443) (by decide +kernel), List.mem_of_getElem? (i := 444) (by decide +kernel)⟩
theorem lw_p11 : lw_okq (⟨"RoundRows", "takeTwo", "(II)V"⟩, 11) := ⟨⟨by decide +kernel, by decide +kernel⟩, List.mem_of_getElem? (i := 16) (by decide +kernel), List.mem_of_getElem? (i := 474) (by decide +kernel), List.mem_of_getElem? (i := 475) (by decide +kernel)⟩
theorem lw_p12 : lw_okq (⟨"RoundRows", "putTogether", "(ILRoundRows$Fraction;)V"⟩, 11) := ⟨⟨by decide +kernel, by decide +kernel⟩, List.mem_of_getElem? (i := 16) (by decide +kernel), List.mem_of_getElem? (i := 478) (by decide +kernel), List.mem_of_getElem? (i := 479) (by decide +kernel)⟩
theorem lw_p13 : lw_okq (⟨"RoundRows", "lookLater", "(II)V"⟩, 11) := ⟨⟨by decide +kernel, by decide +kernel⟩, List.mem_of_getElem? (i := 16) (by decide +kernel), List.mem_of_getElem? (i := 512) (by decide +kernel), List.mem_of_getElem? (i := 513) (by decide +kernel)⟩
theorem lw_p14 : lw_okq (⟨"RoundRows$Later", "lookAt", "(LRoundRows$Dealt;I)V"⟩, 3) := ⟨⟨by decide +kernel, by decide +kernel⟩, List.mem_of_getElem? (i := 122) (by decide +kernel), List.mem_of_getElem? (i := 523) (by decide +kernel), List.mem_of_getElem? (i := 524) (by decide +kernel)⟩
theorem lw_p15 : lw_okq (⟨"RoundRows$Later", "sideOfHeap", "(LRoundRows$Dealt;IJ)I"⟩, 3) := ⟨⟨by decide +kernel, by decide +kernel⟩, List.mem_of_getElem? (i := 122) (by decide +kernel), List.mem_of_getElem? (i := 531) (by decide +kernel), List.mem_of_getElem? (i := 532) (by decide +kernel)⟩
def lw_privs_1 : List (MethodName × Nat) := [(⟨"RoundRows$Pad", "canStand", "(II)Z"⟩, 2), (⟨"RoundRows$Pad", "digitAt", "(I)I"⟩, 2), (⟨"RoundRows$Pad", "canStandInYear", "(III)Z"⟩, 2), (⟨"RoundRows$Pad", "twoDigitsAt", "(I)I"⟩, 2), (⟨"RoundRows", "refusalOf", "(ZZ)I"⟩, 11), (⟨"RoundRows$Pad", "workOne", "(I[I)V"⟩, 2), (⟨"RoundRows", "putShare", "(II)V"⟩, 11), (⟨"RoundRows", "takeRounds", "(IIII)V"⟩, 11), (⟨"RoundRows", "oddsOfGreatest", "(IIII)J"⟩, 11), (⟨"RoundRows", "countOrders", "()V"⟩, 11), (⟨"RoundRows$Orders", "swap", "(II)V"⟩, 3), (⟨"RoundRows", "takeTwo", "(II)V"⟩, 11), (⟨"RoundRows", "putTogether", "(ILRoundRows$Fraction;)V"⟩, 11), (⟨"RoundRows", "lookLater", "(II)V"⟩, 11), (⟨"RoundRows$Later", "lookAt", "(LRoundRows$Dealt;I)V"⟩, 3), (⟨"RoundRows$Later", "sideOfHeap", "(LRoundRows$Dealt;IJ)I"⟩, 3)]
theorem lw_r1 : ∀ q ∈ lw_privs_1, lw_okq q := List.forall_mem_cons.mpr ⟨lw_p0, List.forall_mem_cons.mpr ⟨lw_p1, List.forall_mem_cons.mpr ⟨lw_p2, List.forall_mem_cons.mpr ⟨lw_p3, List.forall_mem_cons.mpr ⟨lw_p4, List.forall_mem_cons.mpr ⟨lw_p5, List.forall_mem_cons.mpr ⟨lw_p6, List.forall_mem_cons.mpr ⟨lw_p7, List.forall_mem_cons.mpr ⟨lw_p8, List.forall_mem_cons.mpr ⟨lw_p9, List.forall_mem_cons.mpr ⟨lw_p10, List.forall_mem_cons.mpr ⟨lw_p11, List.forall_mem_cons.mpr ⟨lw_p12, List.forall_mem_cons.mpr ⟨lw_p13, List.forall_mem_cons.mpr ⟨lw_p14, List.forall_mem_cons.mpr ⟨lw_p15, fun _ h => absurd h List.not_mem_nil⟩⟩⟩⟩⟩⟩⟩⟩⟩⟩⟩⟩⟩⟩⟩⟩
theorem lw_p16 : lw_okq (⟨"RoundRowsModel", "mayStand", "(II)Z"⟩, 25) := ⟨⟨by decide +kernel, by decide +kernel⟩, List.mem_of_getElem? (i := 662) (by decide +kernel), List.mem_of_getElem? (i := 785) (by decide +kernel), List.mem_of_getElem? (i := 786) (by decide +kernel)⟩
theorem lw_p17 : lw_okq (⟨"RoundRowsModel", "two", "(I)I"⟩, 25) := ⟨⟨by decide +kernel, by decide +kernel⟩, List.mem_of_getElem? (i := 662) (by decide +kernel), List.mem_of_getElem? (i := 790) (by decide +kernel), List.mem_of_getElem? (i := 791) (by decide +kernel)⟩
theorem lw_p18 : lw_okq (⟨"RoundRowsModel", "deal", "(I)V"⟩, 25) := ⟨⟨by decide +kernel, by decide +kernel⟩, List.mem_of_getElem? (i := 662) (by decide +kernel), List.mem_of_getElem? (i := 800) (by decide +kernel), List.mem_of_getElem? (i := 801) (by decide +kernel)⟩
theorem lw_p19 : lw_okq (⟨"RoundRowsModel", "becomes", "(II)I"⟩, 25) := ⟨⟨by decide +kernel, by decide +kernel⟩, List.mem_of_getElem? (i := 662) (by decide +kernel), List.mem_of_getElem? (i := 804) (by decide +kernel), List.mem_of_getElem? (i := 805) (by decide +kernel)⟩
theorem lw_p20 : lw_okq (⟨"RoundRowsModel", "wasAt", "(I)I"⟩, 25) := ⟨⟨by decide +kernel, by decide +kernel⟩, List.mem_of_getElem? (i := 662) (by decide +kernel), List.mem_of_getElem? (i := 808) (by decide +kernel), List.mem_of_getElem? (i := 809) (by decide +kernel)⟩
theorem lw_p21 : lw_okq (⟨"RoundRowsModel", "layNumbers", "(I)V"⟩, 25) := ⟨⟨by decide +kernel, by decide +kernel⟩, List.mem_of_getElem? (i := 662) (by decide +kernel), List.mem_of_getElem? (i := 832) (by decide +kernel), List.mem_of_getElem? (i := 833) (by decide +kernel)⟩
theorem lw_p22 : lw_okq (⟨"RoundRowsModel", "lowerOf", "()J"⟩, 25) := ⟨⟨by decide +kernel, by decide +kernel⟩, List.mem_of_getElem? (i := 662) (by decide +kernel), List.mem_of_getElem? (i := 836) (by decide +kernel), List.mem_of_getElem? (i := 837) (by decide +kernel)⟩
theorem lw_p23 : lw_okq (⟨"RoundRowsModel", "sumOf", "()J"⟩, 25) := ⟨⟨by decide +kernel, by decide +kernel⟩, List.mem_of_getElem? (i := 662) (by decide +kernel), List.mem_of_getElem? (i := 840) (by decide +kernel), List.mem_of_getElem? (i := 841) (by decide +kernel)⟩
theorem lw_p24 : lw_okq (⟨"RoundRowsModel", "upperOf", "(I)J"⟩, 25) := ⟨⟨by decide +kernel, by decide +kernel⟩, List.mem_of_getElem? (i := 662) (by decide +kernel), List.mem_of_getElem? (i := 845) (by decide +kernel), List.mem_of_getElem? (i := 846) (by decide +kernel)⟩
theorem lw_p25 : lw_okq (⟨"RoundRowsModel", "layHeaps", "(I)V"⟩, 25) := ⟨⟨by decide +kernel, by decide +kernel⟩, List.mem_of_getElem? (i := 662) (by decide +kernel), List.mem_of_getElem? (i := 849) (by decide +kernel), List.mem_of_getElem? (i := 850) (by decide +kernel)⟩
theorem lw_p26 : lw_okq (⟨"RoundRowsModel", "oddsOf", "(III)J"⟩, 25) := ⟨⟨by decide +kernel, by decide +kernel⟩, List.mem_of_getElem? (i := 662) (by decide +kernel), List.mem_of_getElem? (i := 865) (by decide +kernel), List.mem_of_getElem? (i := 866) (by decide +kernel)⟩
theorem lw_p27 : lw_okq (⟨"RoundRowsModel", "greatestOf", "(II)J"⟩, 25) := ⟨⟨by decide +kernel, by decide +kernel⟩, List.mem_of_getElem? (i := 662) (by decide +kernel), List.mem_of_getElem? (i := 869) (by decide +kernel), List.mem_of_getElem? (i := 870) (by decide +kernel)⟩
theorem lw_p28 : lw_okq (⟨"RoundRowsModel", "exchange", "(II)V"⟩, 25) := ⟨⟨by decide +kernel, by decide +kernel⟩, List.mem_of_getElem? (i := 662) (by decide +kernel), List.mem_of_getElem? (i := 873) (by decide +kernel), List.mem_of_getElem? (i := 874) (by decide +kernel)⟩
theorem lw_p29 : lw_okq (⟨"RoundRowsModel", "dealBoth", "(II)V"⟩, 25) := ⟨⟨by decide +kernel, by decide +kernel⟩, List.mem_of_getElem? (i := 662) (by decide +kernel), List.mem_of_getElem? (i := 891) (by decide +kernel), List.mem_of_getElem? (i := 892) (by decide +kernel)⟩
theorem lw_p30 : lw_okq (⟨"RoundRowsModel", "findTogether", "(I)V"⟩, 25) := ⟨⟨by decide +kernel, by decide +kernel⟩, List.mem_of_getElem? (i := 662) (by decide +kernel), List.mem_of_getElem? (i := 895) (by decide +kernel), List.mem_of_getElem? (i := 896) (by decide +kernel)⟩
theorem lw_p31 : lw_okq (⟨"RoundRowsModel", "findHeld", "(II)V"⟩, 25) := ⟨⟨by decide +kernel, by decide +kernel⟩, List.mem_of_getElem? (i := 662) (by decide +kernel), List.mem_of_getElem? (i := 923) (by decide +kernel), List.mem_of_getElem? (i := 924) (by decide +kernel)⟩
def lw_privs_2 : List (MethodName × Nat) := [(⟨"RoundRowsModel", "mayStand", "(II)Z"⟩, 25), (⟨"RoundRowsModel", "two", "(I)I"⟩, 25), (⟨"RoundRowsModel", "deal", "(I)V"⟩, 25), (⟨"RoundRowsModel", "becomes", "(II)I"⟩, 25), (⟨"RoundRowsModel", "wasAt", "(I)I"⟩, 25), (⟨"RoundRowsModel", "layNumbers", "(I)V"⟩, 25), (⟨"RoundRowsModel", "lowerOf", "()J"⟩, 25), (⟨"RoundRowsModel", "sumOf", "()J"⟩, 25), (⟨"RoundRowsModel", "upperOf", "(I)J"⟩, 25), (⟨"RoundRowsModel", "layHeaps", "(I)V"⟩, 25), (⟨"RoundRowsModel", "oddsOf", "(III)J"⟩, 25), (⟨"RoundRowsModel", "greatestOf", "(II)J"⟩, 25), (⟨"RoundRowsModel", "exchange", "(II)V"⟩, 25), (⟨"RoundRowsModel", "dealBoth", "(II)V"⟩, 25), (⟨"RoundRowsModel", "findTogether", "(I)V"⟩, 25), (⟨"RoundRowsModel", "findHeld", "(II)V"⟩, 25)]
theorem lw_r2 : ∀ q ∈ lw_privs_2, lw_okq q := List.forall_mem_cons.mpr ⟨lw_p16, List.forall_mem_cons.mpr ⟨lw_p17, List.forall_mem_cons.mpr ⟨lw_p18, List.forall_mem_cons.mpr ⟨lw_p19, List.forall_mem_cons.mpr ⟨lw_p20, List.forall_mem_cons.mpr ⟨lw_p21, List.forall_mem_cons.mpr ⟨lw_p22, List.forall_mem_cons.mpr ⟨lw_p23, List.forall_mem_cons.mpr ⟨lw_p24, List.forall_mem_cons.mpr ⟨lw_p25, List.forall_mem_cons.mpr ⟨lw_p26, List.forall_mem_cons.mpr ⟨lw_p27, List.forall_mem_cons.mpr ⟨lw_p28, List.forall_mem_cons.mpr ⟨lw_p29, List.forall_mem_cons.mpr ⟨lw_p30, List.forall_mem_cons.mpr ⟨lw_p31, fun _ h => absurd h List.not_mem_nil⟩⟩⟩⟩⟩⟩⟩⟩⟩⟩⟩⟩⟩⟩⟩⟩
theorem lw_p32 : lw_okq (⟨"RoundRowsModel", "isTrial", "(I)Z"⟩, 25) := ⟨⟨by decide +kernel, by decide +kernel⟩, List.mem_of_getElem? (i := 662) (by decide +kernel), List.mem_of_getElem? (i := 942) (by decide +kernel), List.mem_of_getElem? (i := 943) (by decide +kernel)⟩
theorem lw_p33 : lw_okq (⟨"RoundRowsModel", "clubBy", "(I)I"⟩, 25) := ⟨⟨by decide +kernel, by decide +kernel⟩, List.mem_of_getElem? (i := 662) (by decide +kernel), List.mem_of_getElem? (i := 973) (by decide +kernel), List.mem_of_getElem? (i := 974) (by decide +kernel)⟩
theorem lw_p34 : lw_okq (⟨"RoundRowsModel", "goodBy", "(I)I"⟩, 25) := ⟨⟨by decide +kernel, by decide +kernel⟩, List.mem_of_getElem? (i := 662) (by decide +kernel), List.mem_of_getElem? (i := 991) (by decide +kernel), List.mem_of_getElem? (i := 992) (by decide +kernel)⟩
def lw_privs_3 : List (MethodName × Nat) := [(⟨"RoundRowsModel", "isTrial", "(I)Z"⟩, 25), (⟨"RoundRowsModel", "clubBy", "(I)I"⟩, 25), (⟨"RoundRowsModel", "goodBy", "(I)I"⟩, 25)]
theorem lw_r3 : ∀ q ∈ lw_privs_3, lw_okq q := List.forall_mem_cons.mpr ⟨lw_p32, List.forall_mem_cons.mpr ⟨lw_p33, List.forall_mem_cons.mpr ⟨lw_p34, fun _ h => absurd h List.not_mem_nil⟩⟩⟩
def lw_privs : List (MethodName × Nat) := lw_privs_1 ++ (lw_privs_2 ++ (lw_privs_3))
def lw_tbl : List Cond := k2_sels lw_privs ++ tables_1
theorem lw_privs_ok : ∀ q ∈ lw_privs, lw_okq q := by
  show ∀ q ∈ lw_privs_1 ++ (lw_privs_2 ++ (lw_privs_3)), lw_okq q
  exact List.forall_mem_append.mpr ⟨lw_r1, List.forall_mem_append.mpr ⟨lw_r2, lw_r3⟩⟩
end
section

def RX0 : String := "RoundRows$Dealt"
def TX0 : u_T := fun k => match k with
  | 0 => ("RoundRows$Dealt", "byYear", "[I", true)
  | 1 => ("RoundRows$Dealt", "numbers", "[I", true)
  | 2 => ("RoundRows$Dealt", "years", "[I", true)
  | _ => ("RoundRows$Dealt", "n", "I", false)
def tyX0 : Nat → FieldType := fun k => match k with
  | 0 => .array .int
  | 1 => .array .int
  | 2 => .array .int
  | _ => .int
abbrev wsX00 : List Cond := u_ws RX0 TX0 4
theorem nmX0 : ∀ a, a < 4 → ∀ b, b < 4 → a ≠ b → (TX0 a).2.1 ≠ (TX0 b).2.1 := by decide +kernel
theorem tyX0_ok : ∀ k, k < 4 → parseFieldDescriptor (TX0 k).2.2.1 = some (tyX0 k) := by decide +kernel
abbrev cX0_init : ByteArray := prog_2_method_1_code
def yX0_init : MethodName := ⟨RX0, "<init>", "()V"⟩
abbrev cX0_take : ByteArray := prog_2_method_2_code
def yX0_take : MethodName := ⟨RX0, "take", "([ILRoundRows$Pad;)V"⟩
abbrev cX0_gather : ByteArray := prog_2_method_3_code
def yX0_gather : MethodName := ⟨RX0, "gather", "(I)V"⟩
abbrev cX0_sum : ByteArray := prog_2_method_4_code
def yX0_sum : MethodName := ⟨RX0, "sum", "()J"⟩
abbrev cX0_squares : ByteArray := prog_2_method_5_code
def yX0_squares : MethodName := ⟨RX0, "squares", "()J"⟩
def RX1 : String := "RoundRows$Drawer"
def TX1 : u_T := fun k => match k with
  | 0 => ("RoundRows$Drawer", "rowOf", "[I", true)
  | 1 => ("RoundRows$Drawer", "lengthOf", "[I", true)
  | 2 => ("RoundRows$Drawer", "percentOf", "[I", true)
  | 3 => ("RoundRows$Drawer", "count", "I", false)
  | 4 => ("RoundRows$Drawer", "printed", "I", false)
  | _ => ("RoundRows$Drawer", "trueOnes", "I", false)
def tyX1 : Nat → FieldType := fun k => match k with
  | 0 => .array .int
  | 1 => .array .int
  | 2 => .array .int
  | 3 => .int
  | 4 => .int
  | _ => .int
abbrev wsX10 : List Cond := u_ws RX1 TX1 6
theorem nmX1 : ∀ a, a < 6 → ∀ b, b < 6 → a ≠ b → (TX1 a).2.1 ≠ (TX1 b).2.1 := by decide +kernel
theorem tyX1_ok : ∀ k, k < 6 → parseFieldDescriptor (TX1 k).2.2.1 = some (tyX1 k) := by decide +kernel
abbrev cX1_init : ByteArray := prog_3_method_1_code
def yX1_init : MethodName := ⟨RX1, "<init>", "()V"⟩
abbrev cX1_isFull : ByteArray := prog_3_method_2_code
def yX1_isFull : MethodName := ⟨RX1, "isFull", "()Z"⟩
abbrev cX1_has : ByteArray := prog_3_method_3_code
def yX1_has : MethodName := ⟨RX1, "has", "(I)Z"⟩
abbrev cX1_all : ByteArray := prog_3_method_4_code
def yX1_all : MethodName := ⟨RX1, "all", "()I"⟩
abbrev cX1_add : ByteArray := prog_3_method_5_code
def yX1_add : MethodName := ⟨RX1, "add", "(III)V"⟩
abbrev cX1_isPrinted : ByteArray := prog_3_method_6_code
def yX1_isPrinted : MethodName := ⟨RX1, "isPrinted", "(I)Z"⟩
abbrev cX1_setPrinted : ByteArray := prog_3_method_7_code
def yX1_setPrinted : MethodName := ⟨RX1, "setPrinted", "(IZ)V"⟩
abbrev cX1_putLean : ByteArray := prog_3_method_8_code
def yX1_putLean : MethodName := ⟨RX1, "putLean", "(LRoundRows$Fraction;)V"⟩
abbrev cX1_kept : ByteArray := prog_3_method_9_code
def yX1_kept : MethodName := ⟨RX1, "kept", "(I)I"⟩
abbrev cX1_goodBy : ByteArray := prog_3_method_10_code
def yX1_goodBy : MethodName := ⟨RX1, "goodBy", "(I)I"⟩
abbrev cX1_bestRule : ByteArray := prog_3_method_11_code
def yX1_bestRule : MethodName := ⟨RX1, "bestRule", "()I"⟩
abbrev cX1_firstUnprinted : ByteArray := prog_3_method_12_code
def yX1_firstUnprinted : MethodName := ⟨RX1, "firstUnprinted", "()I"⟩
def RX2 : String := "RoundRows$Fraction"
def TX2 : u_T := fun k => match k with
  | 0 => ("RoundRows$Fraction", "upper", "J", false)
  | _ => ("RoundRows$Fraction", "lower", "J", false)
def tyX2 : Nat → FieldType := fun k => match k with
  | 0 => .long
  | _ => .long
abbrev wsX20 : List Cond := u_ws RX2 TX2 2
theorem nmX2 : ∀ a, a < 2 → ∀ b, b < 2 → a ≠ b → (TX2 a).2.1 ≠ (TX2 b).2.1 := by decide +kernel
theorem tyX2_ok : ∀ k, k < 2 → parseFieldDescriptor (TX2 k).2.2.1 = some (tyX2 k) := by decide +kernel
abbrev cX2_init : ByteArray := prog_4_method_1_code
def yX2_init : MethodName := ⟨RX2, "<init>", "()V"⟩
abbrev cX2_put : ByteArray := prog_4_method_2_code
def yX2_put : MethodName := ⟨RX2, "put", "(JJ)V"⟩
abbrev cX2_partOf : ByteArray := prog_4_method_3_code
def yX2_partOf : MethodName := ⟨RX2, "partOf", "(I)J"⟩
abbrev cX2_percent : ByteArray := prog_4_method_4_code
def yX2_percent : MethodName := ⟨RX2, "percent", "()I"⟩
abbrev cX2_isAtLeast : ByteArray := prog_4_method_5_code
def yX2_isAtLeast : MethodName := ⟨RX2, "isAtLeast", "(LRoundRows$Fraction;)Z"⟩
abbrev cX2_commonDivisor : ByteArray := prog_4_method_6_code
def yX2_commonDivisor : MethodName := ⟨RX2, "commonDivisor", "(JJ)J"⟩
def RX3 : String := "RoundRows$Later"
def TX3 : u_T := fun k => match k with
  | 0 => ("RoundRows$Later", "length", "I", false)
  | 1 => ("RoundRows$Later", "held", "I", false)
  | _ => ("RoundRows$Later", "counted", "I", false)
def tyX3 : Nat → FieldType := fun k => match k with
  | 0 => .int
  | 1 => .int
  | _ => .int
abbrev wsX30 : List Cond := u_ws RX3 TX3 3
theorem nmX3 : ∀ a, a < 3 → ∀ b, b < 3 → a ≠ b → (TX3 a).2.1 ≠ (TX3 b).2.1 := by decide +kernel
theorem tyX3_ok : ∀ k, k < 3 → parseFieldDescriptor (TX3 k).2.2.1 = some (tyX3 k) := by decide +kernel
abbrev cX3_init : ByteArray := prog_5_method_1_code
def yX3_init : MethodName := ⟨RX3, "<init>", "()V"⟩
abbrev cX3_look : ByteArray := prog_5_method_2_code
def yX3_look : MethodName := ⟨RX3, "look", "(LRoundRows$Dealt;II)V"⟩
abbrev cX3_lookAt : ByteArray := prog_5_method_3_code
def yX3_lookAt : MethodName := ⟨RX3, "lookAt", "(LRoundRows$Dealt;I)V"⟩
abbrev cX3_sideOfHeap : ByteArray := prog_5_method_4_code
def yX3_sideOfHeap : MethodName := ⟨RX3, "sideOfHeap", "(LRoundRows$Dealt;IJ)I"⟩
abbrev cX3_putLuck : ByteArray := prog_5_method_5_code
def yX3_putLuck : MethodName := ⟨RX3, "putLuck", "(LRoundRows$Fraction;)V"⟩
def RX4 : String := "RoundRows$Orders"
def TX4 : u_T := fun k => match k with
  | 0 => ("RoundRows$Orders", "numbers", "[I", true)
  | 1 => ("RoundRows$Orders", "n", "I", false)
  | _ => ("RoundRows$Orders", "seed", "J", false)
def tyX4 : Nat → FieldType := fun k => match k with
  | 0 => .array .int
  | 1 => .int
  | _ => .long
abbrev wsX40 : List Cond := u_ws RX4 TX4 3
theorem nmX4 : ∀ a, a < 3 → ∀ b, b < 3 → a ≠ b → (TX4 a).2.1 ≠ (TX4 b).2.1 := by decide +kernel
theorem tyX4_ok : ∀ k, k < 3 → parseFieldDescriptor (TX4 k).2.2.1 = some (tyX4 k) := by decide +kernel
abbrev cX4_init : ByteArray := prog_6_method_1_code
def yX4_init : MethodName := ⟨RX4, "<init>", "()V"⟩
abbrev cX4_begin : ByteArray := prog_6_method_2_code
def yX4_begin : MethodName := ⟨RX4, "begin", "(LRoundRows$Dealt;I)V"⟩
abbrev cX4_draw : ByteArray := prog_6_method_3_code
def yX4_draw : MethodName := ⟨RX4, "draw", "()V"⟩
abbrev cX4_sort : ByteArray := prog_6_method_4_code
def yX4_sort : MethodName := ⟨RX4, "sort", "()V"⟩
abbrev cX4_next : ByteArray := prog_6_method_5_code
def yX4_next : MethodName := ⟨RX4, "next", "()Z"⟩
abbrev cX4_swap : ByteArray := prog_6_method_6_code
def yX4_swap : MethodName := ⟨RX4, "swap", "(II)V"⟩
def RX5 : String := "RoundRows$Pad"
def TX5 : u_T := fun k => match k with
  | 0 => ("RoundRows$Pad", "signs", "[I", true)
  | _ => ("RoundRows$Pad", "count", "I", false)
def tyX5 : Nat → FieldType := fun k => match k with
  | 0 => .array .int
  | _ => .int
abbrev wsX50 : List Cond := u_ws RX5 TX5 2
theorem nmX5 : ∀ a, a < 2 → ∀ b, b < 2 → a ≠ b → (TX5 a).2.1 ≠ (TX5 b).2.1 := by decide +kernel
theorem tyX5_ok : ∀ k, k < 2 → parseFieldDescriptor (TX5 k).2.2.1 = some (tyX5 k) := by decide +kernel
abbrev cX5_init : ByteArray := prog_7_method_1_code
def yX5_init : MethodName := ⟨RX5, "<init>", "()V"⟩
abbrev cX5_isFull : ByteArray := prog_7_method_2_code
def yX5_isFull : MethodName := ⟨RX5, "isFull", "()Z"⟩
abbrev cX5_add : ByteArray := prog_7_method_3_code
def yX5_add : MethodName := ⟨RX5, "add", "(I)V"⟩
abbrev cX5_clear : ByteArray := prog_7_method_4_code
def yX5_clear : MethodName := ⟨RX5, "clear", "()V"⟩
abbrev cX5_firstFault : ByteArray := prog_7_method_5_code
def yX5_firstFault : MethodName := ⟨RX5, "firstFault", "()I"⟩
abbrev cX5_work : ByteArray := prog_7_method_6_code
def yX5_work : MethodName := ⟨RX5, "work", "([I)V"⟩
abbrev cX5_workOne : ByteArray := prog_7_method_7_code
def yX5_workOne : MethodName := ⟨RX5, "workOne", "(I[I)V"⟩
abbrev cX5_digitsBehind : ByteArray := prog_7_method_8_code
def yX5_digitsBehind : MethodName := ⟨RX5, "digitsBehind", "(I)I"⟩
abbrev cX5_digitAt : ByteArray := prog_7_method_9_code
def yX5_digitAt : MethodName := ⟨RX5, "digitAt", "(I)I"⟩
abbrev cX5_twoDigitsAt : ByteArray := prog_7_method_10_code
def yX5_twoDigitsAt : MethodName := ⟨RX5, "twoDigitsAt", "(I)I"⟩
abbrev cX5_canStand : ByteArray := prog_7_method_11_code
def yX5_canStand : MethodName := ⟨RX5, "canStand", "(II)Z"⟩
abbrev cX5_canStandInYear : ByteArray := prog_7_method_12_code
def yX5_canStandInYear : MethodName := ⟨RX5, "canStandInYear", "(III)Z"⟩
abbrev cX5_smooth : ByteArray := prog_7_method_13_code
def yX5_smooth : MethodName := ⟨RX5, "smooth", "([II)V"⟩
abbrev cX5_lag : ByteArray := prog_7_method_14_code
def yX5_lag : MethodName := ⟨RX5, "lag", "([II)V"⟩
abbrev cX5_turn : ByteArray := prog_7_method_15_code
def yX5_turn : MethodName := ⟨RX5, "turn", "([II)V"⟩
abbrev cX5_cut : ByteArray := prog_7_method_16_code
def yX5_cut : MethodName := ⟨RX5, "cut", "([III)V"⟩
abbrev cX5_differ : ByteArray := prog_7_method_17_code
def yX5_differ : MethodName := ⟨RX5, "differ", "([I)V"⟩
abbrev cX5_numberAt : ByteArray := prog_7_method_18_code
def yX5_numberAt : MethodName := ⟨RX5, "numberAt", "([II)I"⟩
abbrev cX5_hold : ByteArray := prog_7_method_19_code
def yX5_hold : MethodName := ⟨RX5, "hold", "(I)I"⟩
def RX6 : String := "RoundRows$Readers"
def TX6 : u_T := fun k => match k with
  | 0 => ("RoundRows$Readers", "readBy", "[I", true)
  | _ => ("RoundRows$Readers", "bar", "I", false)
def tyX6 : Nat → FieldType := fun k => match k with
  | 0 => .array .int
  | _ => .int
abbrev wsX60 : List Cond := u_ws RX6 TX6 2
theorem nmX6 : ∀ a, a < 2 → ∀ b, b < 2 → a ≠ b → (TX6 a).2.1 ≠ (TX6 b).2.1 := by decide +kernel
theorem tyX6_ok : ∀ k, k < 2 → parseFieldDescriptor (TX6 k).2.2.1 = some (tyX6 k) := by decide +kernel
abbrev cX6_init : ByteArray := prog_8_method_1_code
def yX6_init : MethodName := ⟨RX6, "<init>", "()V"⟩
abbrev cX6_believing : ByteArray := prog_8_method_2_code
def yX6_believing : MethodName := ⟨RX6, "believing", "(II)I"⟩
abbrev cX6_fewestToTurn : ByteArray := prog_8_method_3_code
def yX6_fewestToTurn : MethodName := ⟨RX6, "fewestToTurn", "(ILRoundRows$Drawer;)I"⟩
def RX7 : String := "RoundRows$Round"
def TX7 : u_T := fun k => match k with
  | 0 => ("RoundRows$Round", "places", "[I", true)
  | 1 => ("RoundRows$Round", "weights", "[J", true)
  | _ => ("RoundRows$Round", "n", "I", false)
def tyX7 : Nat → FieldType := fun k => match k with
  | 0 => .array .int
  | 1 => .array .long
  | _ => .int
abbrev wsX70 : List Cond := u_ws RX7 TX7 3
theorem nmX7 : ∀ a, a < 3 → ∀ b, b < 3 → a ≠ b → (TX7 a).2.1 ≠ (TX7 b).2.1 := by decide +kernel
theorem tyX7_ok : ∀ k, k < 3 → parseFieldDescriptor (TX7 k).2.2.1 = some (tyX7 k) := by decide +kernel
abbrev cX7_init : ByteArray := prog_9_method_1_code
def yX7_init : MethodName := ⟨RX7, "<init>", "()V"⟩
abbrev cX7_lay : ByteArray := prog_9_method_2_code
def yX7_lay : MethodName := ⟨RX7, "lay", "(LRoundRows$Dealt;I)V"⟩
abbrev cX7_weigh : ByteArray := prog_9_method_3_code
def yX7_weigh : MethodName := ⟨RX7, "weigh", "([I)J"⟩
def RX8 : String := "RoundRows$Rounds"
def TX8 : u_T := fun k => match k with
  | 0 => ("RoundRows$Rounds", "ofLength", "[LRoundRows$Round;", true)
  | 1 => ("RoundRows$Rounds", "from", "I", false)
  | _ => ("RoundRows$Rounds", "to", "I", false)
def tyX8 : Nat → FieldType := fun k => match k with
  | 0 => .array (.object "RoundRows$Round")
  | 1 => .int
  | _ => .int
abbrev wsX80 : List Cond := u_ws RX8 TX8 3
theorem nmX8 : ∀ a, a < 3 → ∀ b, b < 3 → a ≠ b → (TX8 a).2.1 ≠ (TX8 b).2.1 := by decide +kernel
theorem tyX8_ok : ∀ k, k < 3 → parseFieldDescriptor (TX8 k).2.2.1 = some (tyX8 k) := by decide +kernel
abbrev cX8_init : ByteArray := prog_10_method_1_code
def yX8_init : MethodName := ⟨RX8, "<init>", "()V"⟩
abbrev cX8_lay : ByteArray := prog_10_method_2_code
def yX8_lay : MethodName := ⟨RX8, "lay", "(LRoundRows$Dealt;II)V"⟩
abbrev cX8_firstGreatest : ByteArray := prog_10_method_3_code
def yX8_firstGreatest : MethodName := ⟨RX8, "firstGreatest", "([I)I"⟩
abbrev cX8_greatest : ByteArray := prog_10_method_4_code
def yX8_greatest : MethodName := ⟨RX8, "greatest", "([I)J"⟩
abbrev cX8_reach : ByteArray := prog_10_method_5_code
def yX8_reach : MethodName := ⟨RX8, "reach", "([IJ)Z"⟩
def RX9 : String := "RoundRows"
def TX9 : u_T := fun k => match k with
  | 0 => ("RoundRows", "rows", "[[I", true)
  | 1 => ("RoundRows", "pad", "LRoundRows$Pad;", true)
  | 2 => ("RoundRows", "dealtRow", "LRoundRows$Dealt;", true)
  | 3 => ("RoundRows", "otherRow", "LRoundRows$Dealt;", true)
  | 4 => ("RoundRows", "rounds", "LRoundRows$Rounds;", true)
  | 5 => ("RoundRows", "orders", "LRoundRows$Orders;", true)
  | 6 => ("RoundRows", "later", "LRoundRows$Later;", true)
  | 7 => ("RoundRows", "fraction", "LRoundRows$Fraction;", true)
  | 8 => ("RoundRows", "otherFraction", "LRoundRows$Fraction;", true)
  | 9 => ("RoundRows", "drawer", "LRoundRows$Drawer;", true)
  | _ => ("RoundRows", "readers", "LRoundRows$Readers;", true)
def tyX9 : Nat → FieldType := fun k => match k with
  | 0 => .array (.array .int)
  | 1 => .object "RoundRows$Pad"
  | 2 => .object "RoundRows$Dealt"
  | 3 => .object "RoundRows$Dealt"
  | 4 => .object "RoundRows$Rounds"
  | 5 => .object "RoundRows$Orders"
  | 6 => .object "RoundRows$Later"
  | 7 => .object "RoundRows$Fraction"
  | 8 => .object "RoundRows$Fraction"
  | 9 => .object "RoundRows$Drawer"
  | _ => .object "RoundRows$Readers"
abbrev wsX90 : List Cond := u_ws RX9 TX9 11
theorem nmX9 : ∀ a, a < 11 → ∀ b, b < 11 → a ≠ b → (TX9 a).2.1 ≠ (TX9 b).2.1 := by decide +kernel
theorem tyX9_ok : ∀ k, k < 11 → parseFieldDescriptor (TX9 k).2.2.1 = some (tyX9 k) := by decide +kernel
abbrev cX9_init : ByteArray := prog_1_method_1_code
def yX9_init : MethodName := ⟨RX9, "<init>", "()V"⟩
abbrev cX9_year : ByteArray := prog_1_method_2_code
def yX9_year : MethodName := ⟨RX9, "year", "(III)I"⟩
abbrev cX9_say : ByteArray := prog_1_method_3_code
def yX9_say : MethodName := ⟨RX9, "say", "(I)I"⟩
abbrev cX9_wipe : ByteArray := prog_1_method_4_code
def yX9_wipe : MethodName := ⟨RX9, "wipe", "()I"⟩
abbrev cX9_fault : ByteArray := prog_1_method_5_code
def yX9_fault : MethodName := ⟨RX9, "fault", "()I"⟩
abbrev cX9_dealt : ByteArray := prog_1_method_6_code
def yX9_dealt : MethodName := ⟨RX9, "dealt", "(II)I"⟩
abbrev cX9_share : ByteArray := prog_1_method_7_code
def yX9_share : MethodName := ⟨RX9, "share", "(III)J"⟩
abbrev cX9_odds : ByteArray := prog_1_method_8_code
def yX9_odds : MethodName := ⟨RX9, "odds", "(III)J"⟩
abbrev cX9_tried : ByteArray := prog_1_method_9_code
def yX9_tried : MethodName := ⟨RX9, "tried", "(IIII)J"⟩
abbrev cX9_drawn : ByteArray := prog_1_method_10_code
def yX9_drawn : MethodName := ⟨RX9, "drawn", "(IIII)I"⟩
abbrev cX9_together : ByteArray := prog_1_method_11_code
def yX9_together : MethodName := ⟨RX9, "together", "(IIII)J"⟩
abbrev cX9_go : ByteArray := prog_1_method_12_code
def yX9_go : MethodName := ⟨RX9, "go", "(II)I"⟩
abbrev cX9_waves : ByteArray := prog_1_method_13_code
def yX9_waves : MethodName := ⟨RX9, "waves", "(III)J"⟩
abbrev cX9_found : ByteArray := prog_1_method_14_code
def yX9_found : MethodName := ⟨RX9, "found", "(III)I"⟩
abbrev cX9_luck : ByteArray := prog_1_method_15_code
def yX9_luck : MethodName := ⟨RX9, "luck", "(III)J"⟩
abbrev cX9_trial : ByteArray := prog_1_method_16_code
def yX9_trial : MethodName := ⟨RX9, "trial", "(II)I"⟩
abbrev cX9_of : ByteArray := prog_1_method_17_code
def yX9_of : MethodName := ⟨RX9, "of", "(II)I"⟩
abbrev cX9_print : ByteArray := prog_1_method_18_code
def yX9_print : MethodName := ⟨RX9, "print", "(IZ)I"⟩
abbrev cX9_lean : ByteArray := prog_1_method_19_code
def yX9_lean : MethodName := ⟨RX9, "lean", "(I)J"⟩
abbrev cX9_reads : ByteArray := prog_1_method_20_code
def yX9_reads : MethodName := ⟨RX9, "reads", "(II)I"⟩
abbrev cX9_bar : ByteArray := prog_1_method_21_code
def yX9_bar : MethodName := ⟨RX9, "bar", "(I)I"⟩
abbrev cX9_club : ByteArray := prog_1_method_22_code
def yX9_club : MethodName := ⟨RX9, "club", "()I"⟩
abbrev cX9_least : ByteArray := prog_1_method_23_code
def yX9_least : MethodName := ⟨RX9, "least", "(II)I"⟩
abbrev cX9_truth : ByteArray := prog_1_method_24_code
def yX9_truth : MethodName := ⟨RX9, "truth", "(I)I"⟩
abbrev cX9_good : ByteArray := prog_1_method_25_code
def yX9_good : MethodName := ⟨RX9, "good", "(I)I"⟩
abbrev cX9_best : ByteArray := prog_1_method_26_code
def yX9_best : MethodName := ⟨RX9, "best", "(I)I"⟩
abbrev cX9_told : ByteArray := prog_1_method_27_code
def yX9_told : MethodName := ⟨RX9, "told", "(I)I"⟩
abbrev cX9_isWithin : ByteArray := prog_1_method_28_code
def yX9_isWithin : MethodName := ⟨RX9, "isWithin", "(III)Z"⟩
abbrev cX9_isRow : ByteArray := prog_1_method_29_code
def yX9_isRow : MethodName := ⟨RX9, "isRow", "(I)Z"⟩
abbrev cX9_isYear : ByteArray := prog_1_method_30_code
def yX9_isYear : MethodName := ⟨RX9, "isYear", "(I)Z"⟩
abbrev cX9_isDivide : ByteArray := prog_1_method_31_code
def yX9_isDivide : MethodName := ⟨RX9, "isDivide", "(I)Z"⟩
abbrev cX9_isLength : ByteArray := prog_1_method_32_code
def yX9_isLength : MethodName := ⟨RX9, "isLength", "(I)Z"⟩
abbrev cX9_isPart : ByteArray := prog_1_method_33_code
def yX9_isPart : MethodName := ⟨RX9, "isPart", "(I)Z"⟩
abbrev cX9_isNumberOrNone : ByteArray := prog_1_method_34_code
def yX9_isNumberOrNone : MethodName := ⟨RX9, "isNumberOrNone", "(I)Z"⟩
abbrev cX9_refusalOf : ByteArray := prog_1_method_35_code
def yX9_refusalOf : MethodName := ⟨RX9, "refusalOf", "(ZZ)I"⟩
abbrev cX9_numbersIn : ByteArray := prog_1_method_36_code
def yX9_numbersIn : MethodName := ⟨RX9, "numbersIn", "([I)I"⟩
abbrev cX9_takeRounds : ByteArray := prog_1_method_37_code
def yX9_takeRounds : MethodName := ⟨RX9, "takeRounds", "(IIII)V"⟩
abbrev cX9_takeTwo : ByteArray := prog_1_method_38_code
def yX9_takeTwo : MethodName := ⟨RX9, "takeTwo", "(II)V"⟩
abbrev cX9_putShare : ByteArray := prog_1_method_39_code
def yX9_putShare : MethodName := ⟨RX9, "putShare", "(II)V"⟩
abbrev cX9_oddsOfGreatest : ByteArray := prog_1_method_40_code
def yX9_oddsOfGreatest : MethodName := ⟨RX9, "oddsOfGreatest", "(IIII)J"⟩
abbrev cX9_countOrders : ByteArray := prog_1_method_41_code
def yX9_countOrders : MethodName := ⟨RX9, "countOrders", "()V"⟩
abbrev cX9_putTogether : ByteArray := prog_1_method_42_code
def yX9_putTogether : MethodName := ⟨RX9, "putTogether", "(ILRoundRows$Fraction;)V"⟩
abbrev cX9_topsOf : ByteArray := prog_1_method_43_code
def yX9_topsOf : MethodName := ⟨RX9, "topsOf", "(III)I"⟩
abbrev cX9_lookLater : ByteArray := prog_1_method_44_code
def yX9_lookLater : MethodName := ⟨RX9, "lookLater", "(II)V"⟩
def RX10 : String := "RoundRowsModel"
def TX10 : u_T := fun k => match k with
  | 0 => ("RoundRowsModel", "years", "[I", true)
  | 1 => ("RoundRowsModel", "signs", "[I", true)
  | 2 => ("RoundRowsModel", "signMany", "I", false)
  | 3 => ("RoundRowsModel", "row", "[I", true)
  | 4 => ("RoundRowsModel", "rowWas", "[I", true)
  | 5 => ("RoundRowsModel", "place", "[I", true)
  | 6 => ("RoundRowsModel", "number", "[I", true)
  | 7 => ("RoundRowsModel", "many", "I", false)
  | 8 => ("RoundRowsModel", "heapSum", "[J", true)
  | 9 => ("RoundRowsModel", "heapMany", "[I", true)
  | 10 => ("RoundRowsModel", "turns", "[I", true)
  | 11 => ("RoundRowsModel", "other", "[I", true)
  | 12 => ("RoundRowsModel", "togetherUpper", "J", false)
  | 13 => ("RoundRowsModel", "togetherLower", "J", false)
  | 14 => ("RoundRowsModel", "foundLength", "I", false)
  | 15 => ("RoundRowsModel", "heldMany", "I", false)
  | 16 => ("RoundRowsModel", "heldOf", "I", false)
  | 17 => ("RoundRowsModel", "trialRow", "[I", true)
  | 18 => ("RoundRowsModel", "trialLength", "[I", true)
  | 19 => ("RoundRowsModel", "percent", "[I", true)
  | 20 => ("RoundRowsModel", "printed", "I", false)
  | 21 => ("RoundRowsModel", "trials", "I", false)
  | 22 => ("RoundRowsModel", "reading", "[I", true)
  | 23 => ("RoundRowsModel", "barIs", "I", false)
  | _ => ("RoundRowsModel", "trueOnes", "I", false)
def tyX10 : Nat → FieldType := fun k => match k with
  | 0 => .array .int
  | 1 => .array .int
  | 2 => .int
  | 3 => .array .int
  | 4 => .array .int
  | 5 => .array .int
  | 6 => .array .int
  | 7 => .int
  | 8 => .array .long
  | 9 => .array .int
  | 10 => .array .int
  | 11 => .array .int
  | 12 => .long
  | 13 => .long
  | 14 => .int
  | 15 => .int
  | 16 => .int
  | 17 => .array .int
  | 18 => .array .int
  | 19 => .array .int
  | 20 => .int
  | 21 => .int
  | 22 => .array .int
  | 23 => .int
  | _ => .int
abbrev wsX100 : List Cond := u_ws RX10 TX10 25
theorem nmX10 : ∀ a, a < 25 → ∀ b, b < 25 → a ≠ b → (TX10 a).2.1 ≠ (TX10 b).2.1 := by decide +kernel
theorem tyX10_ok : ∀ k, k < 25 → parseFieldDescriptor (TX10 k).2.2.1 = some (tyX10 k) := by decide +kernel
abbrev cX10_init : ByteArray := prog_12_method_1_code
def yX10_init : MethodName := ⟨RX10, "<init>", "()V"⟩
abbrev cX10_in : ByteArray := prog_12_method_3_code
def yX10_in : MethodName := ⟨RX10, "in", "(JJJ)Z"⟩
abbrev cX10_ones : ByteArray := prog_12_method_4_code
def yX10_ones : MethodName := ⟨RX10, "ones", "(I)I"⟩
abbrev cX10_lowest : ByteArray := prog_12_method_5_code
def yX10_lowest : MethodName := ⟨RX10, "lowest", "(JJI)J"⟩
abbrev cX10_isPart : ByteArray := prog_12_method_6_code
def yX10_isPart : MethodName := ⟨RX10, "isPart", "(I)Z"⟩
abbrev cX10_isRow : ByteArray := prog_12_method_7_code
def yX10_isRow : MethodName := ⟨RX10, "isRow", "(I)Z"⟩
abbrev cX10_isYear : ByteArray := prog_12_method_8_code
def yX10_isYear : MethodName := ⟨RX10, "isYear", "(I)Z"⟩
abbrev cX10_year : ByteArray := prog_12_method_9_code
def yX10_year : MethodName := ⟨RX10, "year", "(III)I"⟩
abbrev cX10_say : ByteArray := prog_12_method_10_code
def yX10_say : MethodName := ⟨RX10, "say", "(I)I"⟩
abbrev cX10_wipe : ByteArray := prog_12_method_11_code
def yX10_wipe : MethodName := ⟨RX10, "wipe", "()I"⟩
abbrev cX10_two : ByteArray := prog_12_method_12_code
def yX10_two : MethodName := ⟨RX10, "two", "(I)I"⟩
abbrev cX10_mayStand : ByteArray := prog_12_method_13_code
def yX10_mayStand : MethodName := ⟨RX10, "mayStand", "(II)Z"⟩
abbrev cX10_digitsOf : ByteArray := prog_12_method_14_code
def yX10_digitsOf : MethodName := ⟨RX10, "digitsOf", "(I)I"⟩
abbrev cX10_fault : ByteArray := prog_12_method_15_code
def yX10_fault : MethodName := ⟨RX10, "fault", "()I"⟩
abbrev cX10_held : ByteArray := prog_12_method_16_code
def yX10_held : MethodName := ⟨RX10, "held", "(J)I"⟩
abbrev cX10_wasAt : ByteArray := prog_12_method_17_code
def yX10_wasAt : MethodName := ⟨RX10, "wasAt", "(I)I"⟩
abbrev cX10_becomes : ByteArray := prog_12_method_18_code
def yX10_becomes : MethodName := ⟨RX10, "becomes", "(II)I"⟩
abbrev cX10_deal : ByteArray := prog_12_method_19_code
def yX10_deal : MethodName := ⟨RX10, "deal", "(I)V"⟩
abbrev cX10_dealt : ByteArray := prog_12_method_20_code
def yX10_dealt : MethodName := ⟨RX10, "dealt", "(II)I"⟩
abbrev cX10_layNumbers : ByteArray := prog_12_method_21_code
def yX10_layNumbers : MethodName := ⟨RX10, "layNumbers", "(I)V"⟩
abbrev cX10_layHeaps : ByteArray := prog_12_method_22_code
def yX10_layHeaps : MethodName := ⟨RX10, "layHeaps", "(I)V"⟩
abbrev cX10_sumOf : ByteArray := prog_12_method_23_code
def yX10_sumOf : MethodName := ⟨RX10, "sumOf", "()J"⟩
abbrev cX10_upperOf : ByteArray := prog_12_method_24_code
def yX10_upperOf : MethodName := ⟨RX10, "upperOf", "(I)J"⟩
abbrev cX10_lowerOf : ByteArray := prog_12_method_25_code
def yX10_lowerOf : MethodName := ⟨RX10, "lowerOf", "()J"⟩
abbrev cX10_isLength : ByteArray := prog_12_method_26_code
def yX10_isLength : MethodName := ⟨RX10, "isLength", "(I)Z"⟩
abbrev cX10_share : ByteArray := prog_12_method_27_code
def yX10_share : MethodName := ⟨RX10, "share", "(III)J"⟩
abbrev cX10_greatestOf : ByteArray := prog_12_method_28_code
def yX10_greatestOf : MethodName := ⟨RX10, "greatestOf", "(II)J"⟩
abbrev cX10_exchange : ByteArray := prog_12_method_29_code
def yX10_exchange : MethodName := ⟨RX10, "exchange", "(II)V"⟩
abbrev cX10_oddsOf : ByteArray := prog_12_method_30_code
def yX10_oddsOf : MethodName := ⟨RX10, "oddsOf", "(III)J"⟩
abbrev cX10_odds : ByteArray := prog_12_method_31_code
def yX10_odds : MethodName := ⟨RX10, "odds", "(III)J"⟩
abbrev cX10_tried : ByteArray := prog_12_method_32_code
def yX10_tried : MethodName := ⟨RX10, "tried", "(IIII)J"⟩
abbrev cX10_drawn : ByteArray := prog_12_method_33_code
def yX10_drawn : MethodName := ⟨RX10, "drawn", "(IIII)I"⟩
abbrev cX10_findTogether : ByteArray := prog_12_method_34_code
def yX10_findTogether : MethodName := ⟨RX10, "findTogether", "(I)V"⟩
abbrev cX10_dealBoth : ByteArray := prog_12_method_35_code
def yX10_dealBoth : MethodName := ⟨RX10, "dealBoth", "(II)V"⟩
abbrev cX10_together : ByteArray := prog_12_method_36_code
def yX10_together : MethodName := ⟨RX10, "together", "(IIII)J"⟩
abbrev cX10_isLess : ByteArray := prog_12_method_37_code
def yX10_isLess : MethodName := ⟨RX10, "isLess", "(JJJJ)Z"⟩
abbrev cX10_go : ByteArray := prog_12_method_38_code
def yX10_go : MethodName := ⟨RX10, "go", "(II)I"⟩
abbrev cX10_waves : ByteArray := prog_12_method_39_code
def yX10_waves : MethodName := ⟨RX10, "waves", "(III)J"⟩
abbrev cX10_smooth : ByteArray := prog_12_method_40_code
def yX10_smooth : MethodName := ⟨RX10, "smooth", "(III)I"⟩
abbrev cX10_findHeld : ByteArray := prog_12_method_41_code
def yX10_findHeld : MethodName := ⟨RX10, "findHeld", "(II)V"⟩
abbrev cX10_isAhead : ByteArray := prog_12_method_42_code
def yX10_isAhead : MethodName := ⟨RX10, "isAhead", "(I)Z"⟩
abbrev cX10_found : ByteArray := prog_12_method_43_code
def yX10_found : MethodName := ⟨RX10, "found", "(III)I"⟩
abbrev cX10_choose : ByteArray := prog_12_method_44_code
def yX10_choose : MethodName := ⟨RX10, "choose", "(II)J"⟩
abbrev cX10_luck : ByteArray := prog_12_method_45_code
def yX10_luck : MethodName := ⟨RX10, "luck", "(III)J"⟩
abbrev cX10_isTrial : ByteArray := prog_12_method_46_code
def yX10_isTrial : MethodName := ⟨RX10, "isTrial", "(I)Z"⟩
abbrev cX10_trial : ByteArray := prog_12_method_47_code
def yX10_trial : MethodName := ⟨RX10, "trial", "(II)I"⟩
abbrev cX10_of : ByteArray := prog_12_method_48_code
def yX10_of : MethodName := ⟨RX10, "of", "(II)I"⟩
abbrev cX10_print : ByteArray := prog_12_method_49_code
def yX10_print : MethodName := ⟨RX10, "print", "(IZ)I"⟩
abbrev cX10_lean : ByteArray := prog_12_method_50_code
def yX10_lean : MethodName := ⟨RX10, "lean", "(I)J"⟩
abbrev cX10_isMan : ByteArray := prog_12_method_51_code
def yX10_isMan : MethodName := ⟨RX10, "isMan", "(I)Z"⟩
abbrev cX10_reads : ByteArray := prog_12_method_52_code
def yX10_reads : MethodName := ⟨RX10, "reads", "(II)I"⟩
abbrev cX10_bar : ByteArray := prog_12_method_53_code
def yX10_bar : MethodName := ⟨RX10, "bar", "(I)I"⟩
abbrev cX10_clubBy : ByteArray := prog_12_method_54_code
def yX10_clubBy : MethodName := ⟨RX10, "clubBy", "(I)I"⟩
abbrev cX10_club : ByteArray := prog_12_method_55_code
def yX10_club : MethodName := ⟨RX10, "club", "()I"⟩
abbrev cX10_least : ByteArray := prog_12_method_56_code
def yX10_least : MethodName := ⟨RX10, "least", "(II)I"⟩
abbrev cX10_truth : ByteArray := prog_12_method_57_code
def yX10_truth : MethodName := ⟨RX10, "truth", "(I)I"⟩
abbrev cX10_goodBy : ByteArray := prog_12_method_58_code
def yX10_goodBy : MethodName := ⟨RX10, "goodBy", "(I)I"⟩
abbrev cX10_good : ByteArray := prog_12_method_59_code
def yX10_good : MethodName := ⟨RX10, "good", "(I)I"⟩
abbrev cX10_best : ByteArray := prog_12_method_60_code
def yX10_best : MethodName := ⟨RX10, "best", "(I)I"⟩
abbrev cX10_told : ByteArray := prog_12_method_61_code
def yX10_told : MethodName := ⟨RX10, "told", "(I)I"⟩
def RJ6 : String := "java/lang/Integer"
def TJ6 : u_T := fun k => match k with
  | _ => ("", "", "", false)
def tyJ6 : Nat → FieldType := fun k => match k with
  | _ => .int
abbrev wsJ60 : List Cond := u_ws RJ6 TJ6 0
theorem nmJ6 : ∀ a, a < 0 → ∀ b, b < 0 → a ≠ b → (TJ6 a).2.1 ≠ (TJ6 b).2.1 := by decide +kernel
theorem tyJ6_ok : ∀ k, k < 0 → parseFieldDescriptor (TJ6 k).2.2.1 = some (tyJ6 k) := by decide +kernel
abbrev cJ6_bitCount_0f7a4 : ByteArray := prog_13_method_49_code
def yJ6_bitCount_0f7a4 : MethodName := ⟨RJ6, "bitCount", "(I)I"⟩
def RJ13 : String := "java/lang/Long"
def TJ13 : u_T := fun k => match k with
  | _ => ("", "", "", false)
def tyJ13 : Nat → FieldType := fun k => match k with
  | _ => .int
abbrev wsJ130 : List Cond := u_ws RJ13 TJ13 0
theorem nmJ13 : ∀ a, a < 0 → ∀ b, b < 0 → a ≠ b → (TJ13 a).2.1 ≠ (TJ13 b).2.1 := by decide +kernel
theorem tyJ13_ok : ∀ k, k < 0 → parseFieldDescriptor (TJ13 k).2.2.1 = some (tyJ13 k) := by decide +kernel
abbrev cJ13_compare_74951 : ByteArray := prog_14_method_42_code
def yJ13_compare_74951 : MethodName := ⟨RJ13, "compare", "(JJ)I"⟩
def RJ9 : String := "java/lang/Math"
def TJ9 : u_T := fun k => match k with
  | _ => ("", "", "", false)
def tyJ9 : Nat → FieldType := fun k => match k with
  | _ => .int
abbrev wsJ90 : List Cond := u_ws RJ9 TJ9 0
theorem nmJ9 : ∀ a, a < 0 → ∀ b, b < 0 → a ≠ b → (TJ9 a).2.1 ≠ (TJ9 b).2.1 := by decide +kernel
theorem tyJ9_ok : ∀ k, k < 0 → parseFieldDescriptor (TJ9 k).2.2.1 = some (tyJ9 k) := by decide +kernel
abbrev cJ9_abs_067f4 : ByteArray := prog_15_method_61_code
def yJ9_abs_067f4 : MethodName := ⟨RJ9, "abs", "(J)J"⟩
abbrev cJ9_max_7cf53 : ByteArray := prog_15_method_65_code
def yJ9_max_7cf53 : MethodName := ⟨RJ9, "max", "(II)I"⟩
abbrev cJ9_min_7cf53 : ByteArray := prog_15_method_69_code
def yJ9_min_7cf53 : MethodName := ⟨RJ9, "min", "(II)I"⟩
def RL : String := "RoundRowsLaw"
abbrev cL_law : ByteArray := code
def yL_law : MethodName := ⟨RL, "law", "([I)Z"⟩
end
section
theorem dX0_init_0 : decode cX0_init 0 = .ok (.aload_n 0, 1) := by decide +kernel
theorem dX0_init_1 : decode cX0_init 1 = .ok (.invokespecial 3, 3) := by decide +kernel
theorem dX0_init_4 : decode cX0_init 4 = .ok (.aload_n 0, 1) := by decide +kernel
theorem dX0_init_5 : decode cX0_init 5 = .ok (.bipush 24, 2) := by decide +kernel
theorem dX0_init_7 : decode cX0_init 7 = .ok (.newarray .int, 2) := by decide +kernel
theorem dX0_init_9 : decode cX0_init 9 = .ok (.putfield 9, 3) := by decide +kernel
theorem dX0_init_12 : decode cX0_init 12 = .ok (.aload_n 0, 1) := by decide +kernel
theorem dX0_init_13 : decode cX0_init 13 = .ok (.bipush 24, 2) := by decide +kernel
theorem dX0_init_15 : decode cX0_init 15 = .ok (.newarray .int, 2) := by decide +kernel
theorem dX0_init_17 : decode cX0_init 17 = .ok (.putfield 15, 3) := by decide +kernel
theorem dX0_init_20 : decode cX0_init 20 = .ok (.aload_n 0, 1) := by decide +kernel
theorem dX0_init_21 : decode cX0_init 21 = .ok (.bipush 24, 2) := by decide +kernel
theorem dX0_init_23 : decode cX0_init 23 = .ok (.newarray .int, 2) := by decide +kernel
theorem dX0_init_25 : decode cX0_init 25 = .ok (.putfield 18, 3) := by decide +kernel
theorem dX0_init_28 : decode cX0_init 28 = .ok (.aload_n 0, 1) := by decide +kernel
theorem dX0_init_29 : decode cX0_init 29 = .ok (.iconst 0, 1) := by decide +kernel
theorem dX0_init_30 : decode cX0_init 30 = .ok (.putfield 21, 3) := by decide +kernel
theorem dX0_init_33 : decode cX0_init 33 = .ok (.return_, 1) := by decide +kernel
theorem dX0_take_0 : decode cX0_take 0 = .ok (.iconst 0, 1) := by decide +kernel
theorem dX0_take_1 : decode cX0_take 1 = .ok (.istore_n 3, 1) := by decide +kernel
theorem dX0_take_2 : decode cX0_take 2 = .ok (.iload_n 3, 1) := by decide +kernel
theorem dX0_take_3 : decode cX0_take 3 = .ok (.bipush 24, 2) := by decide +kernel
theorem dX0_take_5 : decode cX0_take 5 = .ok (.if_icmp .ge 18, 3) := by decide +kernel
theorem dX0_take_8 : decode cX0_take 8 = .ok (.aload_n 0, 1) := by decide +kernel
theorem dX0_take_9 : decode cX0_take 9 = .ok (.getfield 9, 3) := by decide +kernel
theorem dX0_take_12 : decode cX0_take 12 = .ok (.iload_n 3, 1) := by decide +kernel
theorem dX0_take_13 : decode cX0_take 13 = .ok (.aload_n 1, 1) := by decide +kernel
theorem dX0_take_14 : decode cX0_take 14 = .ok (.iload_n 3, 1) := by decide +kernel
theorem dX0_take_15 : decode cX0_take 15 = .ok (.iaload, 1) := by decide +kernel
theorem dX0_take_16 : decode cX0_take 16 = .ok (.iastore, 1) := by decide +kernel
theorem dX0_take_17 : decode cX0_take 17 = .ok (.iinc 3 1, 3) := by decide +kernel
theorem dX0_take_20 : decode cX0_take 20 = .ok (.goto (-18), 3) := by decide +kernel
theorem dX0_take_23 : decode cX0_take 23 = .ok (.aload_n 2, 1) := by decide +kernel
theorem dX0_take_24 : decode cX0_take 24 = .ok (.aload_n 0, 1) := by decide +kernel
theorem dX0_take_25 : decode cX0_take 25 = .ok (.getfield 9, 3) := by decide +kernel
theorem dX0_take_28 : decode cX0_take 28 = .ok (.invokevirtual 25, 3) := by decide +kernel
theorem dX0_take_31 : decode cX0_take 31 = .ok (.return_, 1) := by decide +kernel
theorem dX0_gather_0 : decode cX0_gather 0 = .ok (.aload_n 0, 1) := by decide +kernel
theorem dX0_gather_1 : decode cX0_gather 1 = .ok (.iconst 0, 1) := by decide +kernel
theorem dX0_gather_2 : decode cX0_gather 2 = .ok (.putfield 21, 3) := by decide +kernel
theorem dX0_gather_5 : decode cX0_gather 5 = .ok (.iconst 0, 1) := by decide +kernel
theorem dX0_gather_6 : decode cX0_gather 6 = .ok (.istore_n 2, 1) := by decide +kernel
theorem dX0_gather_7 : decode cX0_gather 7 = .ok (.iload_n 2, 1) := by decide +kernel
theorem dX0_gather_8 : decode cX0_gather 8 = .ok (.bipush 24, 2) := by decide +kernel
theorem dX0_gather_10 : decode cX0_gather 10 = .ok (.if_icmp .ge 60, 3) := by decide +kernel
theorem dX0_gather_13 : decode cX0_gather 13 = .ok (.iload_n 2, 1) := by decide +kernel
theorem dX0_gather_14 : decode cX0_gather 14 = .ok (.iload_n 1, 1) := by decide +kernel
theorem dX0_gather_15 : decode cX0_gather 15 = .ok (.if_icmp .ge 55, 3) := by decide +kernel
theorem dX0_gather_18 : decode cX0_gather 18 = .ok (.aload_n 0, 1) := by decide +kernel
theorem dX0_gather_19 : decode cX0_gather 19 = .ok (.getfield 9, 3) := by decide +kernel
theorem dX0_gather_22 : decode cX0_gather 22 = .ok (.iload_n 2, 1) := by decide +kernel
theorem dX0_gather_23 : decode cX0_gather 23 = .ok (.iaload, 1) := by decide +kernel
theorem dX0_gather_24 : decode cX0_gather 24 = .ok (.ldc 31, 2) := by decide +kernel
theorem dX0_gather_26 : decode cX0_gather 26 = .ok (.if_icmp .eq 38, 3) := by decide +kernel
theorem dX0_gather_29 : decode cX0_gather 29 = .ok (.aload_n 0, 1) := by decide +kernel
theorem dX0_gather_30 : decode cX0_gather 30 = .ok (.getfield 15, 3) := by decide +kernel
theorem dX0_gather_33 : decode cX0_gather 33 = .ok (.aload_n 0, 1) := by decide +kernel
theorem dX0_gather_34 : decode cX0_gather 34 = .ok (.getfield 21, 3) := by decide +kernel
theorem dX0_gather_37 : decode cX0_gather 37 = .ok (.aload_n 0, 1) := by decide +kernel
theorem dX0_gather_38 : decode cX0_gather 38 = .ok (.getfield 9, 3) := by decide +kernel
theorem dX0_gather_41 : decode cX0_gather 41 = .ok (.iload_n 2, 1) := by decide +kernel
theorem dX0_gather_42 : decode cX0_gather 42 = .ok (.iaload, 1) := by decide +kernel
theorem dX0_gather_43 : decode cX0_gather 43 = .ok (.iastore, 1) := by decide +kernel
theorem dX0_gather_44 : decode cX0_gather 44 = .ok (.aload_n 0, 1) := by decide +kernel
theorem dX0_gather_45 : decode cX0_gather 45 = .ok (.getfield 18, 3) := by decide +kernel
theorem dX0_gather_48 : decode cX0_gather 48 = .ok (.aload_n 0, 1) := by decide +kernel
theorem dX0_gather_49 : decode cX0_gather 49 = .ok (.getfield 21, 3) := by decide +kernel
theorem dX0_gather_52 : decode cX0_gather 52 = .ok (.iload_n 2, 1) := by decide +kernel
theorem dX0_gather_53 : decode cX0_gather 53 = .ok (.iastore, 1) := by decide +kernel
theorem dX0_gather_54 : decode cX0_gather 54 = .ok (.aload_n 0, 1) := by decide +kernel
theorem dX0_gather_55 : decode cX0_gather 55 = .ok (.dup, 1) := by decide +kernel
theorem dX0_gather_56 : decode cX0_gather 56 = .ok (.getfield 21, 3) := by decide +kernel
theorem dX0_gather_59 : decode cX0_gather 59 = .ok (.iconst 1, 1) := by decide +kernel
theorem dX0_gather_60 : decode cX0_gather 60 = .ok (.iadd, 1) := by decide +kernel
theorem dX0_gather_61 : decode cX0_gather 61 = .ok (.putfield 21, 3) := by decide +kernel
theorem dX0_gather_64 : decode cX0_gather 64 = .ok (.iinc 2 1, 3) := by decide +kernel
theorem dX0_gather_67 : decode cX0_gather 67 = .ok (.goto (-60), 3) := by decide +kernel
theorem dX0_gather_70 : decode cX0_gather 70 = .ok (.return_, 1) := by decide +kernel
theorem dX0_sum_0 : decode cX0_sum 0 = .ok (.lconst 0, 1) := by decide +kernel
theorem dX0_sum_1 : decode cX0_sum 1 = .ok (.lstore_n 1, 1) := by decide +kernel
theorem dX0_sum_2 : decode cX0_sum 2 = .ok (.iconst 0, 1) := by decide +kernel
theorem dX0_sum_3 : decode cX0_sum 3 = .ok (.istore_n 3, 1) := by decide +kernel
theorem dX0_sum_4 : decode cX0_sum 4 = .ok (.iload_n 3, 1) := by decide +kernel
theorem dX0_sum_5 : decode cX0_sum 5 = .ok (.aload_n 0, 1) := by decide +kernel
theorem dX0_sum_6 : decode cX0_sum 6 = .ok (.getfield 21, 3) := by decide +kernel
theorem dX0_sum_9 : decode cX0_sum 9 = .ok (.if_icmp .ge 19, 3) := by decide +kernel
theorem dX0_sum_12 : decode cX0_sum 12 = .ok (.lload_n 1, 1) := by decide +kernel
theorem dX0_sum_13 : decode cX0_sum 13 = .ok (.aload_n 0, 1) := by decide +kernel
theorem dX0_sum_14 : decode cX0_sum 14 = .ok (.getfield 15, 3) := by decide +kernel
theorem dX0_sum_17 : decode cX0_sum 17 = .ok (.iload_n 3, 1) := by decide +kernel
theorem dX0_sum_18 : decode cX0_sum 18 = .ok (.iaload, 1) := by decide +kernel
theorem dX0_sum_19 : decode cX0_sum 19 = .ok (.i2l, 1) := by decide +kernel
theorem dX0_sum_20 : decode cX0_sum 20 = .ok (.ladd, 1) := by decide +kernel
theorem dX0_sum_21 : decode cX0_sum 21 = .ok (.lstore_n 1, 1) := by decide +kernel
theorem dX0_sum_22 : decode cX0_sum 22 = .ok (.iinc 3 1, 3) := by decide +kernel
theorem dX0_sum_25 : decode cX0_sum 25 = .ok (.goto (-21), 3) := by decide +kernel
theorem dX0_sum_28 : decode cX0_sum 28 = .ok (.lload_n 1, 1) := by decide +kernel
theorem dX0_sum_29 : decode cX0_sum 29 = .ok (.lreturn, 1) := by decide +kernel
theorem dX0_squares_0 : decode cX0_squares 0 = .ok (.lconst 0, 1) := by decide +kernel
theorem dX0_squares_1 : decode cX0_squares 1 = .ok (.lstore_n 1, 1) := by decide +kernel
theorem dX0_squares_2 : decode cX0_squares 2 = .ok (.iconst 0, 1) := by decide +kernel
theorem dX0_squares_3 : decode cX0_squares 3 = .ok (.istore_n 3, 1) := by decide +kernel
theorem dX0_squares_4 : decode cX0_squares 4 = .ok (.iload_n 3, 1) := by decide +kernel
theorem dX0_squares_5 : decode cX0_squares 5 = .ok (.aload_n 0, 1) := by decide +kernel
theorem dX0_squares_6 : decode cX0_squares 6 = .ok (.getfield 21, 3) := by decide +kernel
theorem dX0_squares_9 : decode cX0_squares 9 = .ok (.if_icmp .ge 27, 3) := by decide +kernel
theorem dX0_squares_12 : decode cX0_squares 12 = .ok (.lload_n 1, 1) := by decide +kernel
theorem dX0_squares_13 : decode cX0_squares 13 = .ok (.aload_n 0, 1) := by decide +kernel
theorem dX0_squares_14 : decode cX0_squares 14 = .ok (.getfield 15, 3) := by decide +kernel
theorem dX0_squares_17 : decode cX0_squares 17 = .ok (.iload_n 3, 1) := by decide +kernel
theorem dX0_squares_18 : decode cX0_squares 18 = .ok (.iaload, 1) := by decide +kernel
theorem dX0_squares_19 : decode cX0_squares 19 = .ok (.i2l, 1) := by decide +kernel
theorem dX0_squares_20 : decode cX0_squares 20 = .ok (.aload_n 0, 1) := by decide +kernel
theorem dX0_squares_21 : decode cX0_squares 21 = .ok (.getfield 15, 3) := by decide +kernel
theorem dX0_squares_24 : decode cX0_squares 24 = .ok (.iload_n 3, 1) := by decide +kernel
theorem dX0_squares_25 : decode cX0_squares 25 = .ok (.iaload, 1) := by decide +kernel
theorem dX0_squares_26 : decode cX0_squares 26 = .ok (.i2l, 1) := by decide +kernel
theorem dX0_squares_27 : decode cX0_squares 27 = .ok (.lmul, 1) := by decide +kernel
theorem dX0_squares_28 : decode cX0_squares 28 = .ok (.ladd, 1) := by decide +kernel
theorem dX0_squares_29 : decode cX0_squares 29 = .ok (.lstore_n 1, 1) := by decide +kernel
theorem dX0_squares_30 : decode cX0_squares 30 = .ok (.iinc 3 1, 3) := by decide +kernel
theorem dX0_squares_33 : decode cX0_squares 33 = .ok (.goto (-29), 3) := by decide +kernel
theorem dX0_squares_36 : decode cX0_squares 36 = .ok (.lload_n 1, 1) := by decide +kernel
theorem dX0_squares_37 : decode cX0_squares 37 = .ok (.lreturn, 1) := by decide +kernel
theorem dX1_init_0 : decode cX1_init 0 = .ok (.aload_n 0, 1) := by decide +kernel
theorem dX1_init_1 : decode cX1_init 1 = .ok (.invokespecial 3, 3) := by decide +kernel
theorem dX1_init_4 : decode cX1_init 4 = .ok (.aload_n 0, 1) := by decide +kernel
theorem dX1_init_5 : decode cX1_init 5 = .ok (.bipush 20, 2) := by decide +kernel
theorem dX1_init_7 : decode cX1_init 7 = .ok (.newarray .int, 2) := by decide +kernel
theorem dX1_init_9 : decode cX1_init 9 = .ok (.putfield 9, 3) := by decide +kernel
theorem dX1_init_12 : decode cX1_init 12 = .ok (.aload_n 0, 1) := by decide +kernel
theorem dX1_init_13 : decode cX1_init 13 = .ok (.bipush 20, 2) := by decide +kernel
theorem dX1_init_15 : decode cX1_init 15 = .ok (.newarray .int, 2) := by decide +kernel
theorem dX1_init_17 : decode cX1_init 17 = .ok (.putfield 15, 3) := by decide +kernel
theorem dX1_init_20 : decode cX1_init 20 = .ok (.aload_n 0, 1) := by decide +kernel
theorem dX1_init_21 : decode cX1_init 21 = .ok (.bipush 20, 2) := by decide +kernel
theorem dX1_init_23 : decode cX1_init 23 = .ok (.newarray .int, 2) := by decide +kernel
theorem dX1_init_25 : decode cX1_init 25 = .ok (.putfield 18, 3) := by decide +kernel
theorem dX1_init_28 : decode cX1_init 28 = .ok (.aload_n 0, 1) := by decide +kernel
theorem dX1_init_29 : decode cX1_init 29 = .ok (.iconst 0, 1) := by decide +kernel
theorem dX1_init_30 : decode cX1_init 30 = .ok (.putfield 21, 3) := by decide +kernel
theorem dX1_init_33 : decode cX1_init 33 = .ok (.aload_n 0, 1) := by decide +kernel
theorem dX1_init_34 : decode cX1_init 34 = .ok (.iconst 0, 1) := by decide +kernel
theorem dX1_init_35 : decode cX1_init 35 = .ok (.putfield 25, 3) := by decide +kernel
theorem dX1_init_38 : decode cX1_init 38 = .ok (.aload_n 0, 1) := by decide +kernel
theorem dX1_init_39 : decode cX1_init 39 = .ok (.iconst 0, 1) := by decide +kernel
theorem dX1_init_40 : decode cX1_init 40 = .ok (.putfield 28, 3) := by decide +kernel
theorem dX1_init_43 : decode cX1_init 43 = .ok (.return_, 1) := by decide +kernel
theorem dX1_isFull_0 : decode cX1_isFull 0 = .ok (.aload_n 0, 1) := by decide +kernel
theorem dX1_isFull_1 : decode cX1_isFull 1 = .ok (.getfield 21, 3) := by decide +kernel
theorem dX1_isFull_4 : decode cX1_isFull 4 = .ok (.bipush 20, 2) := by decide +kernel
theorem dX1_isFull_6 : decode cX1_isFull 6 = .ok (.if_icmp .lt 7, 3) := by decide +kernel
theorem dX1_isFull_9 : decode cX1_isFull 9 = .ok (.iconst 1, 1) := by decide +kernel
theorem dX1_isFull_10 : decode cX1_isFull 10 = .ok (.goto 4, 3) := by decide +kernel
theorem dX1_isFull_13 : decode cX1_isFull 13 = .ok (.iconst 0, 1) := by decide +kernel
theorem dX1_isFull_14 : decode cX1_isFull 14 = .ok (.ireturn, 1) := by decide +kernel
theorem dX1_has_0 : decode cX1_has 0 = .ok (.iload_n 1, 1) := by decide +kernel
theorem dX1_has_1 : decode cX1_has 1 = .ok (.ifCond .lt 15, 3) := by decide +kernel
theorem dX1_has_4 : decode cX1_has 4 = .ok (.iload_n 1, 1) := by decide +kernel
theorem dX1_has_5 : decode cX1_has 5 = .ok (.aload_n 0, 1) := by decide +kernel
theorem dX1_has_6 : decode cX1_has 6 = .ok (.getfield 21, 3) := by decide +kernel
theorem dX1_has_9 : decode cX1_has 9 = .ok (.if_icmp .ge 7, 3) := by decide +kernel
theorem dX1_has_12 : decode cX1_has 12 = .ok (.iconst 1, 1) := by decide +kernel
theorem dX1_has_13 : decode cX1_has 13 = .ok (.goto 4, 3) := by decide +kernel
theorem dX1_has_16 : decode cX1_has 16 = .ok (.iconst 0, 1) := by decide +kernel
theorem dX1_has_17 : decode cX1_has 17 = .ok (.ireturn, 1) := by decide +kernel
theorem dX1_all_0 : decode cX1_all 0 = .ok (.iconst 1, 1) := by decide +kernel
theorem dX1_all_1 : decode cX1_all 1 = .ok (.aload_n 0, 1) := by decide +kernel
theorem dX1_all_2 : decode cX1_all 2 = .ok (.getfield 21, 3) := by decide +kernel
theorem dX1_all_5 : decode cX1_all 5 = .ok (.ishl, 1) := by decide +kernel
theorem dX1_all_6 : decode cX1_all 6 = .ok (.iconst 1, 1) := by decide +kernel
theorem dX1_all_7 : decode cX1_all 7 = .ok (.isub, 1) := by decide +kernel
theorem dX1_all_8 : decode cX1_all 8 = .ok (.ireturn, 1) := by decide +kernel
theorem dX1_add_0 : decode cX1_add 0 = .ok (.aload_n 0, 1) := by decide +kernel
theorem dX1_add_1 : decode cX1_add 1 = .ok (.invokevirtual 31, 3) := by decide +kernel
theorem dX1_add_4 : decode cX1_add 4 = .ok (.ifCond .ne 43, 3) := by decide +kernel
theorem dX1_add_7 : decode cX1_add 7 = .ok (.aload_n 0, 1) := by decide +kernel
theorem dX1_add_8 : decode cX1_add 8 = .ok (.getfield 9, 3) := by decide +kernel
theorem dX1_add_11 : decode cX1_add 11 = .ok (.aload_n 0, 1) := by decide +kernel
theorem dX1_add_12 : decode cX1_add 12 = .ok (.getfield 21, 3) := by decide +kernel
theorem dX1_add_15 : decode cX1_add 15 = .ok (.iload_n 1, 1) := by decide +kernel
theorem dX1_add_16 : decode cX1_add 16 = .ok (.iastore, 1) := by decide +kernel
theorem dX1_add_17 : decode cX1_add 17 = .ok (.aload_n 0, 1) := by decide +kernel
theorem dX1_add_18 : decode cX1_add 18 = .ok (.getfield 15, 3) := by decide +kernel
theorem dX1_add_21 : decode cX1_add 21 = .ok (.aload_n 0, 1) := by decide +kernel
theorem dX1_add_22 : decode cX1_add 22 = .ok (.getfield 21, 3) := by decide +kernel
theorem dX1_add_25 : decode cX1_add 25 = .ok (.iload_n 2, 1) := by decide +kernel
theorem dX1_add_26 : decode cX1_add 26 = .ok (.iastore, 1) := by decide +kernel
theorem dX1_add_27 : decode cX1_add 27 = .ok (.aload_n 0, 1) := by decide +kernel
theorem dX1_add_28 : decode cX1_add 28 = .ok (.getfield 18, 3) := by decide +kernel
theorem dX1_add_31 : decode cX1_add 31 = .ok (.aload_n 0, 1) := by decide +kernel
theorem dX1_add_32 : decode cX1_add 32 = .ok (.getfield 21, 3) := by decide +kernel
theorem dX1_add_35 : decode cX1_add 35 = .ok (.iload_n 3, 1) := by decide +kernel
theorem dX1_add_36 : decode cX1_add 36 = .ok (.iastore, 1) := by decide +kernel
theorem dX1_add_37 : decode cX1_add 37 = .ok (.aload_n 0, 1) := by decide +kernel
theorem dX1_add_38 : decode cX1_add 38 = .ok (.dup, 1) := by decide +kernel
theorem dX1_add_39 : decode cX1_add 39 = .ok (.getfield 21, 3) := by decide +kernel
theorem dX1_add_42 : decode cX1_add 42 = .ok (.iconst 1, 1) := by decide +kernel
theorem dX1_add_43 : decode cX1_add 43 = .ok (.iadd, 1) := by decide +kernel
theorem dX1_add_44 : decode cX1_add 44 = .ok (.putfield 21, 3) := by decide +kernel
theorem dX1_add_47 : decode cX1_add 47 = .ok (.return_, 1) := by decide +kernel
theorem dX1_isPrinted_0 : decode cX1_isPrinted 0 = .ok (.aload_n 0, 1) := by decide +kernel
theorem dX1_isPrinted_1 : decode cX1_isPrinted 1 = .ok (.getfield 25, 3) := by decide +kernel
theorem dX1_isPrinted_4 : decode cX1_isPrinted 4 = .ok (.iload_n 1, 1) := by decide +kernel
theorem dX1_isPrinted_5 : decode cX1_isPrinted 5 = .ok (.ishr, 1) := by decide +kernel
theorem dX1_isPrinted_6 : decode cX1_isPrinted 6 = .ok (.iconst 1, 1) := by decide +kernel
theorem dX1_isPrinted_7 : decode cX1_isPrinted 7 = .ok (.iand, 1) := by decide +kernel
theorem dX1_isPrinted_8 : decode cX1_isPrinted 8 = .ok (.iconst 1, 1) := by decide +kernel
theorem dX1_isPrinted_9 : decode cX1_isPrinted 9 = .ok (.if_icmp .ne 7, 3) := by decide +kernel
theorem dX1_isPrinted_12 : decode cX1_isPrinted 12 = .ok (.iconst 1, 1) := by decide +kernel
theorem dX1_isPrinted_13 : decode cX1_isPrinted 13 = .ok (.goto 4, 3) := by decide +kernel
theorem dX1_isPrinted_16 : decode cX1_isPrinted 16 = .ok (.iconst 0, 1) := by decide +kernel
theorem dX1_isPrinted_17 : decode cX1_isPrinted 17 = .ok (.ireturn, 1) := by decide +kernel
theorem dX1_setPrinted_0 : decode cX1_setPrinted 0 = .ok (.iconst 1, 1) := by decide +kernel
theorem dX1_setPrinted_1 : decode cX1_setPrinted 1 = .ok (.iload_n 1, 1) := by decide +kernel
theorem dX1_setPrinted_2 : decode cX1_setPrinted 2 = .ok (.ishl, 1) := by decide +kernel
theorem dX1_setPrinted_3 : decode cX1_setPrinted 3 = .ok (.istore_n 3, 1) := by decide +kernel
theorem dX1_setPrinted_4 : decode cX1_setPrinted 4 = .ok (.aload_n 0, 1) := by decide +kernel
theorem dX1_setPrinted_5 : decode cX1_setPrinted 5 = .ok (.iload_n 2, 1) := by decide +kernel
theorem dX1_setPrinted_6 : decode cX1_setPrinted 6 = .ok (.ifCond .eq 12, 3) := by decide +kernel
theorem dX1_setPrinted_9 : decode cX1_setPrinted 9 = .ok (.aload_n 0, 1) := by decide +kernel
theorem dX1_setPrinted_10 : decode cX1_setPrinted 10 = .ok (.getfield 25, 3) := by decide +kernel
theorem dX1_setPrinted_13 : decode cX1_setPrinted 13 = .ok (.iload_n 3, 1) := by decide +kernel
theorem dX1_setPrinted_14 : decode cX1_setPrinted 14 = .ok (.ior, 1) := by decide +kernel
theorem dX1_setPrinted_15 : decode cX1_setPrinted 15 = .ok (.goto 11, 3) := by decide +kernel
theorem dX1_setPrinted_18 : decode cX1_setPrinted 18 = .ok (.aload_n 0, 1) := by decide +kernel
theorem dX1_setPrinted_19 : decode cX1_setPrinted 19 = .ok (.getfield 25, 3) := by decide +kernel
theorem dX1_setPrinted_22 : decode cX1_setPrinted 22 = .ok (.iload_n 3, 1) := by decide +kernel
theorem dX1_setPrinted_23 : decode cX1_setPrinted 23 = .ok (.iconst (-1), 1) := by decide +kernel
theorem dX1_setPrinted_24 : decode cX1_setPrinted 24 = .ok (.ixor, 1) := by decide +kernel
theorem dX1_setPrinted_25 : decode cX1_setPrinted 25 = .ok (.iand, 1) := by decide +kernel
theorem dX1_setPrinted_26 : decode cX1_setPrinted 26 = .ok (.putfield 25, 3) := by decide +kernel
theorem dX1_setPrinted_29 : decode cX1_setPrinted 29 = .ok (.return_, 1) := by decide +kernel
theorem dX1_putLean_0 : decode cX1_putLean 0 = .ok (.lconst 0, 1) := by decide +kernel
theorem dX1_putLean_1 : decode cX1_putLean 1 = .ok (.lstore_n 2, 1) := by decide +kernel
theorem dX1_putLean_2 : decode cX1_putLean 2 = .ok (.lconst 0, 1) := by decide +kernel
theorem dX1_putLean_3 : decode cX1_putLean 3 = .ok (.lstore 4, 2) := by decide +kernel
theorem dX1_putLean_5 : decode cX1_putLean 5 = .ok (.iconst 0, 1) := by decide +kernel
theorem dX1_putLean_6 : decode cX1_putLean 6 = .ok (.istore 6, 2) := by decide +kernel
theorem dX1_putLean_8 : decode cX1_putLean 8 = .ok (.iload 6, 2) := by decide +kernel
theorem dX1_putLean_10 : decode cX1_putLean 10 = .ok (.aload_n 0, 1) := by decide +kernel
theorem dX1_putLean_11 : decode cX1_putLean 11 = .ok (.getfield 21, 3) := by decide +kernel
theorem dX1_putLean_14 : decode cX1_putLean 14 = .ok (.if_icmp .ge 42, 3) := by decide +kernel
theorem dX1_putLean_17 : decode cX1_putLean 17 = .ok (.lload_n 2, 1) := by decide +kernel
theorem dX1_putLean_18 : decode cX1_putLean 18 = .ok (.aload_n 0, 1) := by decide +kernel
theorem dX1_putLean_19 : decode cX1_putLean 19 = .ok (.getfield 18, 3) := by decide +kernel
theorem dX1_putLean_22 : decode cX1_putLean 22 = .ok (.iload 6, 2) := by decide +kernel
theorem dX1_putLean_24 : decode cX1_putLean 24 = .ok (.iaload, 1) := by decide +kernel
theorem dX1_putLean_25 : decode cX1_putLean 25 = .ok (.i2l, 1) := by decide +kernel
theorem dX1_putLean_26 : decode cX1_putLean 26 = .ok (.ladd, 1) := by decide +kernel
theorem dX1_putLean_27 : decode cX1_putLean 27 = .ok (.lstore_n 2, 1) := by decide +kernel
theorem dX1_putLean_28 : decode cX1_putLean 28 = .ok (.aload_n 0, 1) := by decide +kernel
theorem dX1_putLean_29 : decode cX1_putLean 29 = .ok (.iload 6, 2) := by decide +kernel
theorem dX1_putLean_31 : decode cX1_putLean 31 = .ok (.invokevirtual 35, 3) := by decide +kernel
theorem dX1_putLean_34 : decode cX1_putLean 34 = .ok (.ifCond .eq 16, 3) := by decide +kernel
theorem dX1_putLean_37 : decode cX1_putLean 37 = .ok (.lload 4, 2) := by decide +kernel
theorem dX1_putLean_39 : decode cX1_putLean 39 = .ok (.aload_n 0, 1) := by decide +kernel
theorem dX1_putLean_40 : decode cX1_putLean 40 = .ok (.getfield 18, 3) := by decide +kernel
theorem dX1_putLean_43 : decode cX1_putLean 43 = .ok (.iload 6, 2) := by decide +kernel
theorem dX1_putLean_45 : decode cX1_putLean 45 = .ok (.iaload, 1) := by decide +kernel
theorem dX1_putLean_46 : decode cX1_putLean 46 = .ok (.i2l, 1) := by decide +kernel
theorem dX1_putLean_47 : decode cX1_putLean 47 = .ok (.ladd, 1) := by decide +kernel
theorem dX1_putLean_48 : decode cX1_putLean 48 = .ok (.lstore 4, 2) := by decide +kernel
theorem dX1_putLean_50 : decode cX1_putLean 50 = .ok (.iinc 6 1, 3) := by decide +kernel
theorem dX1_putLean_53 : decode cX1_putLean 53 = .ok (.goto (-45), 3) := by decide +kernel
theorem dX1_putLean_56 : decode cX1_putLean 56 = .ok (.aload_n 0, 1) := by decide +kernel
theorem dX1_putLean_57 : decode cX1_putLean 57 = .ok (.getfield 25, 3) := by decide +kernel
theorem dX1_putLean_60 : decode cX1_putLean 60 = .ok (.invokestatic 39, 3) := by decide +kernel
theorem dX1_putLean_63 : decode cX1_putLean 63 = .ok (.i2l, 1) := by decide +kernel
theorem dX1_putLean_64 : decode cX1_putLean 64 = .ok (.lstore 6, 2) := by decide +kernel
theorem dX1_putLean_66 : decode cX1_putLean 66 = .ok (.aload_n 1, 1) := by decide +kernel
theorem dX1_putLean_67 : decode cX1_putLean 67 = .ok (.lload 4, 2) := by decide +kernel
theorem dX1_putLean_69 : decode cX1_putLean 69 = .ok (.aload_n 0, 1) := by decide +kernel
theorem dX1_putLean_70 : decode cX1_putLean 70 = .ok (.getfield 21, 3) := by decide +kernel
theorem dX1_putLean_73 : decode cX1_putLean 73 = .ok (.i2l, 1) := by decide +kernel
theorem dX1_putLean_74 : decode cX1_putLean 74 = .ok (.lmul, 1) := by decide +kernel
theorem dX1_putLean_75 : decode cX1_putLean 75 = .ok (.lload_n 2, 1) := by decide +kernel
theorem dX1_putLean_76 : decode cX1_putLean 76 = .ok (.lload 6, 2) := by decide +kernel
theorem dX1_putLean_78 : decode cX1_putLean 78 = .ok (.lmul, 1) := by decide +kernel
theorem dX1_putLean_79 : decode cX1_putLean 79 = .ok (.lsub, 1) := by decide +kernel
theorem dX1_putLean_80 : decode cX1_putLean 80 = .ok (.lload 6, 2) := by decide +kernel
theorem dX1_putLean_82 : decode cX1_putLean 82 = .ok (.aload_n 0, 1) := by decide +kernel
theorem dX1_putLean_83 : decode cX1_putLean 83 = .ok (.getfield 21, 3) := by decide +kernel
theorem dX1_putLean_86 : decode cX1_putLean 86 = .ok (.i2l, 1) := by decide +kernel
theorem dX1_putLean_87 : decode cX1_putLean 87 = .ok (.lmul, 1) := by decide +kernel
theorem dX1_putLean_88 : decode cX1_putLean 88 = .ok (.invokevirtual 45, 3) := by decide +kernel
theorem dX1_putLean_91 : decode cX1_putLean 91 = .ok (.return_, 1) := by decide +kernel
theorem dX1_kept_0 : decode cX1_kept 0 = .ok (.iconst 0, 1) := by decide +kernel
theorem dX1_kept_1 : decode cX1_kept 1 = .ok (.istore_n 2, 1) := by decide +kernel
theorem dX1_kept_2 : decode cX1_kept 2 = .ok (.iconst 0, 1) := by decide +kernel
theorem dX1_kept_3 : decode cX1_kept 3 = .ok (.istore_n 3, 1) := by decide +kernel
theorem dX1_kept_4 : decode cX1_kept 4 = .ok (.iload_n 3, 1) := by decide +kernel
theorem dX1_kept_5 : decode cX1_kept 5 = .ok (.aload_n 0, 1) := by decide +kernel
theorem dX1_kept_6 : decode cX1_kept 6 = .ok (.getfield 21, 3) := by decide +kernel
theorem dX1_kept_9 : decode cX1_kept 9 = .ok (.if_icmp .ge 25, 3) := by decide +kernel
theorem dX1_kept_12 : decode cX1_kept 12 = .ok (.aload_n 0, 1) := by decide +kernel
theorem dX1_kept_13 : decode cX1_kept 13 = .ok (.getfield 18, 3) := by decide +kernel
theorem dX1_kept_16 : decode cX1_kept 16 = .ok (.iload_n 3, 1) := by decide +kernel
theorem dX1_kept_17 : decode cX1_kept 17 = .ok (.iaload, 1) := by decide +kernel
theorem dX1_kept_18 : decode cX1_kept 18 = .ok (.iload_n 1, 1) := by decide +kernel
theorem dX1_kept_19 : decode cX1_kept 19 = .ok (.if_icmp .lt 9, 3) := by decide +kernel
theorem dX1_kept_22 : decode cX1_kept 22 = .ok (.iload_n 2, 1) := by decide +kernel
theorem dX1_kept_23 : decode cX1_kept 23 = .ok (.iconst 1, 1) := by decide +kernel
theorem dX1_kept_24 : decode cX1_kept 24 = .ok (.iload_n 3, 1) := by decide +kernel
theorem dX1_kept_25 : decode cX1_kept 25 = .ok (.ishl, 1) := by decide +kernel
theorem dX1_kept_26 : decode cX1_kept 26 = .ok (.ior, 1) := by decide +kernel
theorem dX1_kept_27 : decode cX1_kept 27 = .ok (.istore_n 2, 1) := by decide +kernel
theorem dX1_kept_28 : decode cX1_kept 28 = .ok (.iinc 3 1, 3) := by decide +kernel
theorem dX1_kept_31 : decode cX1_kept 31 = .ok (.goto (-27), 3) := by decide +kernel
theorem dX1_kept_34 : decode cX1_kept 34 = .ok (.iload_n 2, 1) := by decide +kernel
theorem dX1_kept_35 : decode cX1_kept 35 = .ok (.ireturn, 1) := by decide +kernel
theorem dX1_goodBy_0 : decode cX1_goodBy 0 = .ok (.aload_n 0, 1) := by decide +kernel
theorem dX1_goodBy_1 : decode cX1_goodBy 1 = .ok (.iload_n 1, 1) := by decide +kernel
theorem dX1_goodBy_2 : decode cX1_goodBy 2 = .ok (.invokevirtual 51, 3) := by decide +kernel
theorem dX1_goodBy_5 : decode cX1_goodBy 5 = .ok (.istore_n 2, 1) := by decide +kernel
theorem dX1_goodBy_6 : decode cX1_goodBy 6 = .ok (.iload_n 2, 1) := by decide +kernel
theorem dX1_goodBy_7 : decode cX1_goodBy 7 = .ok (.aload_n 0, 1) := by decide +kernel
theorem dX1_goodBy_8 : decode cX1_goodBy 8 = .ok (.getfield 28, 3) := by decide +kernel
theorem dX1_goodBy_11 : decode cX1_goodBy 11 = .ok (.iand, 1) := by decide +kernel
theorem dX1_goodBy_12 : decode cX1_goodBy 12 = .ok (.invokestatic 39, 3) := by decide +kernel
theorem dX1_goodBy_15 : decode cX1_goodBy 15 = .ok (.iload_n 2, 1) := by decide +kernel
theorem dX1_goodBy_16 : decode cX1_goodBy 16 = .ok (.aload_n 0, 1) := by decide +kernel
theorem dX1_goodBy_17 : decode cX1_goodBy 17 = .ok (.getfield 28, 3) := by decide +kernel
theorem dX1_goodBy_20 : decode cX1_goodBy 20 = .ok (.iconst (-1), 1) := by decide +kernel
theorem dX1_goodBy_21 : decode cX1_goodBy 21 = .ok (.ixor, 1) := by decide +kernel
theorem dX1_goodBy_22 : decode cX1_goodBy 22 = .ok (.iand, 1) := by decide +kernel
theorem dX1_goodBy_23 : decode cX1_goodBy 23 = .ok (.invokestatic 39, 3) := by decide +kernel
theorem dX1_goodBy_26 : decode cX1_goodBy 26 = .ok (.isub, 1) := by decide +kernel
theorem dX1_goodBy_27 : decode cX1_goodBy 27 = .ok (.ireturn, 1) := by decide +kernel
theorem dX1_bestRule_0 : decode cX1_bestRule 0 = .ok (.iconst 0, 1) := by decide +kernel
theorem dX1_bestRule_1 : decode cX1_bestRule 1 = .ok (.istore_n 1, 1) := by decide +kernel
theorem dX1_bestRule_2 : decode cX1_bestRule 2 = .ok (.aload_n 0, 1) := by decide +kernel
theorem dX1_bestRule_3 : decode cX1_bestRule 3 = .ok (.iconst 0, 1) := by decide +kernel
theorem dX1_bestRule_4 : decode cX1_bestRule 4 = .ok (.invokevirtual 54, 3) := by decide +kernel
theorem dX1_bestRule_7 : decode cX1_bestRule 7 = .ok (.istore_n 2, 1) := by decide +kernel
theorem dX1_bestRule_8 : decode cX1_bestRule 8 = .ok (.iconst 1, 1) := by decide +kernel
theorem dX1_bestRule_9 : decode cX1_bestRule 9 = .ok (.istore_n 3, 1) := by decide +kernel
theorem dX1_bestRule_10 : decode cX1_bestRule 10 = .ok (.iload_n 3, 1) := by decide +kernel
theorem dX1_bestRule_11 : decode cX1_bestRule 11 = .ok (.bipush 101, 2) := by decide +kernel
theorem dX1_bestRule_13 : decode cX1_bestRule 13 = .ok (.if_icmp .gt 27, 3) := by decide +kernel
theorem dX1_bestRule_16 : decode cX1_bestRule 16 = .ok (.aload_n 0, 1) := by decide +kernel
theorem dX1_bestRule_17 : decode cX1_bestRule 17 = .ok (.iload_n 3, 1) := by decide +kernel
theorem dX1_bestRule_18 : decode cX1_bestRule 18 = .ok (.invokevirtual 54, 3) := by decide +kernel
theorem dX1_bestRule_21 : decode cX1_bestRule 21 = .ok (.istore 4, 2) := by decide +kernel
theorem dX1_bestRule_23 : decode cX1_bestRule 23 = .ok (.iload 4, 2) := by decide +kernel
theorem dX1_bestRule_25 : decode cX1_bestRule 25 = .ok (.iload_n 2, 1) := by decide +kernel
theorem dX1_bestRule_26 : decode cX1_bestRule 26 = .ok (.if_icmp .le 8, 3) := by decide +kernel
theorem dX1_bestRule_29 : decode cX1_bestRule 29 = .ok (.iload 4, 2) := by decide +kernel
theorem dX1_bestRule_31 : decode cX1_bestRule 31 = .ok (.istore_n 2, 1) := by decide +kernel
theorem dX1_bestRule_32 : decode cX1_bestRule 32 = .ok (.iload_n 3, 1) := by decide +kernel
theorem dX1_bestRule_33 : decode cX1_bestRule 33 = .ok (.istore_n 1, 1) := by decide +kernel
theorem dX1_bestRule_34 : decode cX1_bestRule 34 = .ok (.iinc 3 1, 3) := by decide +kernel
theorem dX1_bestRule_37 : decode cX1_bestRule 37 = .ok (.goto (-27), 3) := by decide +kernel
theorem dX1_bestRule_40 : decode cX1_bestRule 40 = .ok (.iload_n 1, 1) := by decide +kernel
theorem dX1_bestRule_41 : decode cX1_bestRule 41 = .ok (.ireturn, 1) := by decide +kernel
theorem dX1_firstUnprinted_0 : decode cX1_firstUnprinted 0 = .ok (.iconst 0, 1) := by decide +kernel
theorem dX1_firstUnprinted_1 : decode cX1_firstUnprinted 1 = .ok (.istore_n 1, 1) := by decide +kernel
theorem dX1_firstUnprinted_2 : decode cX1_firstUnprinted 2 = .ok (.iconst 0, 1) := by decide +kernel
theorem dX1_firstUnprinted_3 : decode cX1_firstUnprinted 3 = .ok (.istore_n 2, 1) := by decide +kernel
theorem dX1_firstUnprinted_4 : decode cX1_firstUnprinted 4 = .ok (.iconst 0, 1) := by decide +kernel
theorem dX1_firstUnprinted_5 : decode cX1_firstUnprinted 5 = .ok (.istore_n 3, 1) := by decide +kernel
theorem dX1_firstUnprinted_6 : decode cX1_firstUnprinted 6 = .ok (.iload_n 3, 1) := by decide +kernel
theorem dX1_firstUnprinted_7 : decode cX1_firstUnprinted 7 = .ok (.aload_n 0, 1) := by decide +kernel
theorem dX1_firstUnprinted_8 : decode cX1_firstUnprinted 8 = .ok (.getfield 21, 3) := by decide +kernel
theorem dX1_firstUnprinted_11 : decode cX1_firstUnprinted 11 = .ok (.if_icmp .ge 32, 3) := by decide +kernel
theorem dX1_firstUnprinted_14 : decode cX1_firstUnprinted 14 = .ok (.iload_n 2, 1) := by decide +kernel
theorem dX1_firstUnprinted_15 : decode cX1_firstUnprinted 15 = .ok (.bipush 12, 2) := by decide +kernel
theorem dX1_firstUnprinted_17 : decode cX1_firstUnprinted 17 = .ok (.if_icmp .ge 26, 3) := by decide +kernel
theorem dX1_firstUnprinted_20 : decode cX1_firstUnprinted 20 = .ok (.aload_n 0, 1) := by decide +kernel
theorem dX1_firstUnprinted_21 : decode cX1_firstUnprinted 21 = .ok (.iload_n 3, 1) := by decide +kernel
theorem dX1_firstUnprinted_22 : decode cX1_firstUnprinted 22 = .ok (.invokevirtual 35, 3) := by decide +kernel
theorem dX1_firstUnprinted_25 : decode cX1_firstUnprinted 25 = .ok (.ifCond .ne 12, 3) := by decide +kernel
theorem dX1_firstUnprinted_28 : decode cX1_firstUnprinted 28 = .ok (.iload_n 1, 1) := by decide +kernel
theorem dX1_firstUnprinted_29 : decode cX1_firstUnprinted 29 = .ok (.iconst 1, 1) := by decide +kernel
theorem dX1_firstUnprinted_30 : decode cX1_firstUnprinted 30 = .ok (.iload_n 3, 1) := by decide +kernel
theorem dX1_firstUnprinted_31 : decode cX1_firstUnprinted 31 = .ok (.ishl, 1) := by decide +kernel
theorem dX1_firstUnprinted_32 : decode cX1_firstUnprinted 32 = .ok (.ior, 1) := by decide +kernel
theorem dX1_firstUnprinted_33 : decode cX1_firstUnprinted 33 = .ok (.istore_n 1, 1) := by decide +kernel
theorem dX1_firstUnprinted_34 : decode cX1_firstUnprinted 34 = .ok (.iinc 2 1, 3) := by decide +kernel
theorem dX1_firstUnprinted_37 : decode cX1_firstUnprinted 37 = .ok (.iinc 3 1, 3) := by decide +kernel
theorem dX1_firstUnprinted_40 : decode cX1_firstUnprinted 40 = .ok (.goto (-34), 3) := by decide +kernel
theorem dX1_firstUnprinted_43 : decode cX1_firstUnprinted 43 = .ok (.iload_n 1, 1) := by decide +kernel
theorem dX1_firstUnprinted_44 : decode cX1_firstUnprinted 44 = .ok (.ireturn, 1) := by decide +kernel
theorem dX2_init_0 : decode cX2_init 0 = .ok (.aload_n 0, 1) := by decide +kernel
theorem dX2_init_1 : decode cX2_init 1 = .ok (.invokespecial 3, 3) := by decide +kernel
theorem dX2_init_4 : decode cX2_init 4 = .ok (.aload_n 0, 1) := by decide +kernel
theorem dX2_init_5 : decode cX2_init 5 = .ok (.lconst 0, 1) := by decide +kernel
theorem dX2_init_6 : decode cX2_init 6 = .ok (.putfield 9, 3) := by decide +kernel
theorem dX2_init_9 : decode cX2_init 9 = .ok (.aload_n 0, 1) := by decide +kernel
theorem dX2_init_10 : decode cX2_init 10 = .ok (.lconst 1, 1) := by decide +kernel
theorem dX2_init_11 : decode cX2_init 11 = .ok (.putfield 15, 3) := by decide +kernel
theorem dX2_init_14 : decode cX2_init 14 = .ok (.return_, 1) := by decide +kernel
theorem dX2_put_0 : decode cX2_put 0 = .ok (.lload_n 1, 1) := by decide +kernel
theorem dX2_put_1 : decode cX2_put 1 = .ok (.invokestatic 18, 3) := by decide +kernel
theorem dX2_put_4 : decode cX2_put 4 = .ok (.lload_n 3, 1) := by decide +kernel
theorem dX2_put_5 : decode cX2_put 5 = .ok (.invokestatic 24, 3) := by decide +kernel
theorem dX2_put_8 : decode cX2_put 8 = .ok (.lstore 5, 2) := by decide +kernel
theorem dX2_put_10 : decode cX2_put 10 = .ok (.lload_n 1, 1) := by decide +kernel
theorem dX2_put_11 : decode cX2_put 11 = .ok (.lconst 0, 1) := by decide +kernel
theorem dX2_put_12 : decode cX2_put 12 = .ok (.lcmp, 1) := by decide +kernel
theorem dX2_put_13 : decode cX2_put 13 = .ok (.ifCond .eq 16, 3) := by decide +kernel
theorem dX2_put_16 : decode cX2_put 16 = .ok (.lload_n 3, 1) := by decide +kernel
theorem dX2_put_17 : decode cX2_put 17 = .ok (.lconst 0, 1) := by decide +kernel
theorem dX2_put_18 : decode cX2_put 18 = .ok (.lcmp, 1) := by decide +kernel
theorem dX2_put_19 : decode cX2_put 19 = .ok (.ifCond .le 10, 3) := by decide +kernel
theorem dX2_put_22 : decode cX2_put 22 = .ok (.lload 5, 2) := by decide +kernel
theorem dX2_put_24 : decode cX2_put 24 = .ok (.lconst 0, 1) := by decide +kernel
theorem dX2_put_25 : decode cX2_put 25 = .ok (.lcmp, 1) := by decide +kernel
theorem dX2_put_26 : decode cX2_put 26 = .ok (.ifCond .gt 16, 3) := by decide +kernel
theorem dX2_put_29 : decode cX2_put 29 = .ok (.aload_n 0, 1) := by decide +kernel
theorem dX2_put_30 : decode cX2_put 30 = .ok (.lconst 0, 1) := by decide +kernel
theorem dX2_put_31 : decode cX2_put 31 = .ok (.putfield 9, 3) := by decide +kernel
theorem dX2_put_34 : decode cX2_put 34 = .ok (.aload_n 0, 1) := by decide +kernel
theorem dX2_put_35 : decode cX2_put 35 = .ok (.lconst 1, 1) := by decide +kernel
theorem dX2_put_36 : decode cX2_put 36 = .ok (.putfield 15, 3) := by decide +kernel
theorem dX2_put_39 : decode cX2_put 39 = .ok (.goto 19, 3) := by decide +kernel
theorem dX2_put_42 : decode cX2_put 42 = .ok (.aload_n 0, 1) := by decide +kernel
theorem dX2_put_43 : decode cX2_put 43 = .ok (.lload_n 1, 1) := by decide +kernel
theorem dX2_put_44 : decode cX2_put 44 = .ok (.lload 5, 2) := by decide +kernel
theorem dX2_put_46 : decode cX2_put 46 = .ok (.ldiv, 1) := by decide +kernel
theorem dX2_put_47 : decode cX2_put 47 = .ok (.putfield 9, 3) := by decide +kernel
theorem dX2_put_50 : decode cX2_put 50 = .ok (.aload_n 0, 1) := by decide +kernel
theorem dX2_put_51 : decode cX2_put 51 = .ok (.lload_n 3, 1) := by decide +kernel
theorem dX2_put_52 : decode cX2_put 52 = .ok (.lload 5, 2) := by decide +kernel
theorem dX2_put_54 : decode cX2_put 54 = .ok (.ldiv, 1) := by decide +kernel
theorem dX2_put_55 : decode cX2_put 55 = .ok (.putfield 15, 3) := by decide +kernel
theorem dX2_put_58 : decode cX2_put 58 = .ok (.return_, 1) := by decide +kernel
theorem dX2_partOf_0 : decode cX2_partOf 0 = .ok (.iload_n 1, 1) := by decide +kernel
theorem dX2_partOf_1 : decode cX2_partOf 1 = .ok (.ifCond .ne 10, 3) := by decide +kernel
theorem dX2_partOf_4 : decode cX2_partOf 4 = .ok (.aload_n 0, 1) := by decide +kernel
theorem dX2_partOf_5 : decode cX2_partOf 5 = .ok (.getfield 9, 3) := by decide +kernel
theorem dX2_partOf_8 : decode cX2_partOf 8 = .ok (.goto 7, 3) := by decide +kernel
theorem dX2_partOf_11 : decode cX2_partOf 11 = .ok (.aload_n 0, 1) := by decide +kernel
theorem dX2_partOf_12 : decode cX2_partOf 12 = .ok (.getfield 15, 3) := by decide +kernel
theorem dX2_partOf_15 : decode cX2_partOf 15 = .ok (.lreturn, 1) := by decide +kernel
theorem dX2_percent_0 : decode cX2_percent 0 = .ok (.aload_n 0, 1) := by decide +kernel
theorem dX2_percent_1 : decode cX2_percent 1 = .ok (.getfield 15, 3) := by decide +kernel
theorem dX2_percent_4 : decode cX2_percent 4 = .ok (.lconst 0, 1) := by decide +kernel
theorem dX2_percent_5 : decode cX2_percent 5 = .ok (.lcmp, 1) := by decide +kernel
theorem dX2_percent_6 : decode cX2_percent 6 = .ok (.ifCond .le 20, 3) := by decide +kernel
theorem dX2_percent_9 : decode cX2_percent 9 = .ok (.ldc2_w 28, 3) := by decide +kernel
theorem dX2_percent_12 : decode cX2_percent 12 = .ok (.aload_n 0, 1) := by decide +kernel
theorem dX2_percent_13 : decode cX2_percent 13 = .ok (.getfield 9, 3) := by decide +kernel
theorem dX2_percent_16 : decode cX2_percent 16 = .ok (.lmul, 1) := by decide +kernel
theorem dX2_percent_17 : decode cX2_percent 17 = .ok (.aload_n 0, 1) := by decide +kernel
theorem dX2_percent_18 : decode cX2_percent 18 = .ok (.getfield 15, 3) := by decide +kernel
theorem dX2_percent_21 : decode cX2_percent 21 = .ok (.ldiv, 1) := by decide +kernel
theorem dX2_percent_22 : decode cX2_percent 22 = .ok (.l2i, 1) := by decide +kernel
theorem dX2_percent_23 : decode cX2_percent 23 = .ok (.goto 4, 3) := by decide +kernel
theorem dX2_percent_26 : decode cX2_percent 26 = .ok (.iconst 0, 1) := by decide +kernel
theorem dX2_percent_27 : decode cX2_percent 27 = .ok (.ireturn, 1) := by decide +kernel
theorem dX2_isAtLeast_0 : decode cX2_isAtLeast 0 = .ok (.aload_n 0, 1) := by decide +kernel
theorem dX2_isAtLeast_1 : decode cX2_isAtLeast 1 = .ok (.getfield 9, 3) := by decide +kernel
theorem dX2_isAtLeast_4 : decode cX2_isAtLeast 4 = .ok (.lstore_n 2, 1) := by decide +kernel
theorem dX2_isAtLeast_5 : decode cX2_isAtLeast 5 = .ok (.aload_n 0, 1) := by decide +kernel
theorem dX2_isAtLeast_6 : decode cX2_isAtLeast 6 = .ok (.getfield 15, 3) := by decide +kernel
theorem dX2_isAtLeast_9 : decode cX2_isAtLeast 9 = .ok (.lstore 4, 2) := by decide +kernel
theorem dX2_isAtLeast_11 : decode cX2_isAtLeast 11 = .ok (.aload_n 1, 1) := by decide +kernel
theorem dX2_isAtLeast_12 : decode cX2_isAtLeast 12 = .ok (.getfield 9, 3) := by decide +kernel
theorem dX2_isAtLeast_15 : decode cX2_isAtLeast 15 = .ok (.lstore 6, 2) := by decide +kernel
theorem dX2_isAtLeast_17 : decode cX2_isAtLeast 17 = .ok (.aload_n 1, 1) := by decide +kernel
theorem dX2_isAtLeast_18 : decode cX2_isAtLeast 18 = .ok (.getfield 15, 3) := by decide +kernel
theorem dX2_isAtLeast_21 : decode cX2_isAtLeast 21 = .ok (.lstore 8, 2) := by decide +kernel
theorem dX2_isAtLeast_23 : decode cX2_isAtLeast 23 = .ok (.iconst 0, 1) := by decide +kernel
theorem dX2_isAtLeast_24 : decode cX2_isAtLeast 24 = .ok (.istore 10, 2) := by decide +kernel
theorem dX2_isAtLeast_26 : decode cX2_isAtLeast 26 = .ok (.iconst 0, 1) := by decide +kernel
theorem dX2_isAtLeast_27 : decode cX2_isAtLeast 27 = .ok (.istore 11, 2) := by decide +kernel
theorem dX2_isAtLeast_29 : decode cX2_isAtLeast 29 = .ok (.iload 11, 2) := by decide +kernel
theorem dX2_isAtLeast_31 : decode cX2_isAtLeast 31 = .ok (.bipush 100, 2) := by decide +kernel
theorem dX2_isAtLeast_33 : decode cX2_isAtLeast 33 = .ok (.if_icmp .ge 105, 3) := by decide +kernel
theorem dX2_isAtLeast_36 : decode cX2_isAtLeast 36 = .ok (.lload 4, 2) := by decide +kernel
theorem dX2_isAtLeast_38 : decode cX2_isAtLeast 38 = .ok (.lconst 0, 1) := by decide +kernel
theorem dX2_isAtLeast_39 : decode cX2_isAtLeast 39 = .ok (.lcmp, 1) := by decide +kernel
theorem dX2_isAtLeast_40 : decode cX2_isAtLeast 40 = .ok (.ifCond .le 98, 3) := by decide +kernel
theorem dX2_isAtLeast_43 : decode cX2_isAtLeast 43 = .ok (.lload 8, 2) := by decide +kernel
theorem dX2_isAtLeast_45 : decode cX2_isAtLeast 45 = .ok (.lconst 0, 1) := by decide +kernel
theorem dX2_isAtLeast_46 : decode cX2_isAtLeast 46 = .ok (.lcmp, 1) := by decide +kernel
theorem dX2_isAtLeast_47 : decode cX2_isAtLeast 47 = .ok (.ifCond .le 91, 3) := by decide +kernel
theorem dX2_isAtLeast_50 : decode cX2_isAtLeast 50 = .ok (.lload_n 2, 1) := by decide +kernel
theorem dX2_isAtLeast_51 : decode cX2_isAtLeast 51 = .ok (.lload 4, 2) := by decide +kernel
theorem dX2_isAtLeast_53 : decode cX2_isAtLeast 53 = .ok (.ldiv, 1) := by decide +kernel
theorem dX2_isAtLeast_54 : decode cX2_isAtLeast 54 = .ok (.lload 6, 2) := by decide +kernel
theorem dX2_isAtLeast_56 : decode cX2_isAtLeast 56 = .ok (.lload 8, 2) := by decide +kernel
theorem dX2_isAtLeast_58 : decode cX2_isAtLeast 58 = .ok (.ldiv, 1) := by decide +kernel
theorem dX2_isAtLeast_59 : decode cX2_isAtLeast 59 = .ok (.lcmp, 1) := by decide +kernel
theorem dX2_isAtLeast_60 : decode cX2_isAtLeast 60 = .ok (.ifCond .eq 32, 3) := by decide +kernel
theorem dX2_isAtLeast_63 : decode cX2_isAtLeast 63 = .ok (.lload_n 2, 1) := by decide +kernel
theorem dX2_isAtLeast_64 : decode cX2_isAtLeast 64 = .ok (.lload 4, 2) := by decide +kernel
theorem dX2_isAtLeast_66 : decode cX2_isAtLeast 66 = .ok (.ldiv, 1) := by decide +kernel
theorem dX2_isAtLeast_67 : decode cX2_isAtLeast 67 = .ok (.lload 6, 2) := by decide +kernel
theorem dX2_isAtLeast_69 : decode cX2_isAtLeast 69 = .ok (.lload 8, 2) := by decide +kernel
theorem dX2_isAtLeast_71 : decode cX2_isAtLeast 71 = .ok (.ldiv, 1) := by decide +kernel
theorem dX2_isAtLeast_72 : decode cX2_isAtLeast 72 = .ok (.lcmp, 1) := by decide +kernel
theorem dX2_isAtLeast_73 : decode cX2_isAtLeast 73 = .ok (.ifCond .le 7, 3) := by decide +kernel
theorem dX2_isAtLeast_76 : decode cX2_isAtLeast 76 = .ok (.iconst 1, 1) := by decide +kernel
theorem dX2_isAtLeast_77 : decode cX2_isAtLeast 77 = .ok (.goto 4, 3) := by decide +kernel
theorem dX2_isAtLeast_80 : decode cX2_isAtLeast 80 = .ok (.iconst 0, 1) := by decide +kernel
theorem dX2_isAtLeast_81 : decode cX2_isAtLeast 81 = .ok (.iload 10, 2) := by decide +kernel
theorem dX2_isAtLeast_83 : decode cX2_isAtLeast 83 = .ok (.if_icmp .eq 7, 3) := by decide +kernel
theorem dX2_isAtLeast_86 : decode cX2_isAtLeast 86 = .ok (.iconst 1, 1) := by decide +kernel
theorem dX2_isAtLeast_87 : decode cX2_isAtLeast 87 = .ok (.goto 4, 3) := by decide +kernel
theorem dX2_isAtLeast_90 : decode cX2_isAtLeast 90 = .ok (.iconst 0, 1) := by decide +kernel
theorem dX2_isAtLeast_91 : decode cX2_isAtLeast 91 = .ok (.ireturn, 1) := by decide +kernel
theorem dX2_isAtLeast_92 : decode cX2_isAtLeast 92 = .ok (.lload_n 2, 1) := by decide +kernel
theorem dX2_isAtLeast_93 : decode cX2_isAtLeast 93 = .ok (.lload 4, 2) := by decide +kernel
theorem dX2_isAtLeast_95 : decode cX2_isAtLeast 95 = .ok (.lrem, 1) := by decide +kernel
theorem dX2_isAtLeast_96 : decode cX2_isAtLeast 96 = .ok (.lstore 12, 2) := by decide +kernel
theorem dX2_isAtLeast_98 : decode cX2_isAtLeast 98 = .ok (.lload 6, 2) := by decide +kernel
theorem dX2_isAtLeast_100 : decode cX2_isAtLeast 100 = .ok (.lload 8, 2) := by decide +kernel
theorem dX2_isAtLeast_102 : decode cX2_isAtLeast 102 = .ok (.lrem, 1) := by decide +kernel
theorem dX2_isAtLeast_103 : decode cX2_isAtLeast 103 = .ok (.lstore 14, 2) := by decide +kernel
theorem dX2_isAtLeast_105 : decode cX2_isAtLeast 105 = .ok (.lload 4, 2) := by decide +kernel
theorem dX2_isAtLeast_107 : decode cX2_isAtLeast 107 = .ok (.lstore_n 2, 1) := by decide +kernel
theorem dX2_isAtLeast_108 : decode cX2_isAtLeast 108 = .ok (.lload 12, 2) := by decide +kernel
theorem dX2_isAtLeast_110 : decode cX2_isAtLeast 110 = .ok (.lstore 4, 2) := by decide +kernel
theorem dX2_isAtLeast_112 : decode cX2_isAtLeast 112 = .ok (.lload 8, 2) := by decide +kernel
theorem dX2_isAtLeast_114 : decode cX2_isAtLeast 114 = .ok (.lstore 6, 2) := by decide +kernel
theorem dX2_isAtLeast_116 : decode cX2_isAtLeast 116 = .ok (.lload 14, 2) := by decide +kernel
theorem dX2_isAtLeast_118 : decode cX2_isAtLeast 118 = .ok (.lstore 8, 2) := by decide +kernel
theorem dX2_isAtLeast_120 : decode cX2_isAtLeast 120 = .ok (.iload 10, 2) := by decide +kernel
theorem dX2_isAtLeast_122 : decode cX2_isAtLeast 122 = .ok (.ifCond .ne 7, 3) := by decide +kernel
theorem dX2_isAtLeast_125 : decode cX2_isAtLeast 125 = .ok (.iconst 1, 1) := by decide +kernel
theorem dX2_isAtLeast_126 : decode cX2_isAtLeast 126 = .ok (.goto 4, 3) := by decide +kernel
theorem dX2_isAtLeast_129 : decode cX2_isAtLeast 129 = .ok (.iconst 0, 1) := by decide +kernel
theorem dX2_isAtLeast_130 : decode cX2_isAtLeast 130 = .ok (.istore 10, 2) := by decide +kernel
theorem dX2_isAtLeast_132 : decode cX2_isAtLeast 132 = .ok (.iinc 11 1, 3) := by decide +kernel
theorem dX2_isAtLeast_135 : decode cX2_isAtLeast 135 = .ok (.goto (-106), 3) := by decide +kernel
theorem dX2_isAtLeast_138 : decode cX2_isAtLeast 138 = .ok (.lload 4, 2) := by decide +kernel
theorem dX2_isAtLeast_140 : decode cX2_isAtLeast 140 = .ok (.lload 8, 2) := by decide +kernel
theorem dX2_isAtLeast_142 : decode cX2_isAtLeast 142 = .ok (.lcmp, 1) := by decide +kernel
theorem dX2_isAtLeast_143 : decode cX2_isAtLeast 143 = .ok (.ifCond .eq 21, 3) := by decide +kernel
theorem dX2_isAtLeast_146 : decode cX2_isAtLeast 146 = .ok (.lload 4, 2) := by decide +kernel
theorem dX2_isAtLeast_148 : decode cX2_isAtLeast 148 = .ok (.lload 8, 2) := by decide +kernel
theorem dX2_isAtLeast_150 : decode cX2_isAtLeast 150 = .ok (.lcmp, 1) := by decide +kernel
theorem dX2_isAtLeast_151 : decode cX2_isAtLeast 151 = .ok (.ifCond .ge 7, 3) := by decide +kernel
theorem dX2_isAtLeast_154 : decode cX2_isAtLeast 154 = .ok (.iconst 1, 1) := by decide +kernel
theorem dX2_isAtLeast_155 : decode cX2_isAtLeast 155 = .ok (.goto 4, 3) := by decide +kernel
theorem dX2_isAtLeast_158 : decode cX2_isAtLeast 158 = .ok (.iconst 0, 1) := by decide +kernel
theorem dX2_isAtLeast_159 : decode cX2_isAtLeast 159 = .ok (.iload 10, 2) := by decide +kernel
theorem dX2_isAtLeast_161 : decode cX2_isAtLeast 161 = .ok (.if_icmp .eq 7, 3) := by decide +kernel
theorem dX2_isAtLeast_164 : decode cX2_isAtLeast 164 = .ok (.iconst 1, 1) := by decide +kernel
theorem dX2_isAtLeast_165 : decode cX2_isAtLeast 165 = .ok (.goto 4, 3) := by decide +kernel
theorem dX2_isAtLeast_168 : decode cX2_isAtLeast 168 = .ok (.iconst 0, 1) := by decide +kernel
theorem dX2_isAtLeast_169 : decode cX2_isAtLeast 169 = .ok (.ireturn, 1) := by decide +kernel
theorem dX2_commonDivisor_0 : decode cX2_commonDivisor 0 = .ok (.lload_n 0, 1) := by decide +kernel
theorem dX2_commonDivisor_1 : decode cX2_commonDivisor 1 = .ok (.lstore 4, 2) := by decide +kernel
theorem dX2_commonDivisor_3 : decode cX2_commonDivisor 3 = .ok (.lload_n 2, 1) := by decide +kernel
theorem dX2_commonDivisor_4 : decode cX2_commonDivisor 4 = .ok (.lstore 6, 2) := by decide +kernel
theorem dX2_commonDivisor_6 : decode cX2_commonDivisor 6 = .ok (.iconst 0, 1) := by decide +kernel
theorem dX2_commonDivisor_7 : decode cX2_commonDivisor 7 = .ok (.istore 8, 2) := by decide +kernel
theorem dX2_commonDivisor_9 : decode cX2_commonDivisor 9 = .ok (.iload 8, 2) := by decide +kernel
theorem dX2_commonDivisor_11 : decode cX2_commonDivisor 11 = .ok (.bipush 100, 2) := by decide +kernel
theorem dX2_commonDivisor_13 : decode cX2_commonDivisor 13 = .ok (.if_icmp .ge 31, 3) := by decide +kernel
theorem dX2_commonDivisor_16 : decode cX2_commonDivisor 16 = .ok (.lload 6, 2) := by decide +kernel
theorem dX2_commonDivisor_18 : decode cX2_commonDivisor 18 = .ok (.lconst 0, 1) := by decide +kernel
theorem dX2_commonDivisor_19 : decode cX2_commonDivisor 19 = .ok (.lcmp, 1) := by decide +kernel
theorem dX2_commonDivisor_20 : decode cX2_commonDivisor 20 = .ok (.ifCond .eq 24, 3) := by decide +kernel
theorem dX2_commonDivisor_23 : decode cX2_commonDivisor 23 = .ok (.lload 4, 2) := by decide +kernel
theorem dX2_commonDivisor_25 : decode cX2_commonDivisor 25 = .ok (.lload 6, 2) := by decide +kernel
theorem dX2_commonDivisor_27 : decode cX2_commonDivisor 27 = .ok (.lrem, 1) := by decide +kernel
theorem dX2_commonDivisor_28 : decode cX2_commonDivisor 28 = .ok (.lstore 9, 2) := by decide +kernel
theorem dX2_commonDivisor_30 : decode cX2_commonDivisor 30 = .ok (.lload 6, 2) := by decide +kernel
theorem dX2_commonDivisor_32 : decode cX2_commonDivisor 32 = .ok (.lstore 4, 2) := by decide +kernel
theorem dX2_commonDivisor_34 : decode cX2_commonDivisor 34 = .ok (.lload 9, 2) := by decide +kernel
theorem dX2_commonDivisor_36 : decode cX2_commonDivisor 36 = .ok (.lstore 6, 2) := by decide +kernel
theorem dX2_commonDivisor_38 : decode cX2_commonDivisor 38 = .ok (.iinc 8 1, 3) := by decide +kernel
theorem dX2_commonDivisor_41 : decode cX2_commonDivisor 41 = .ok (.goto (-32), 3) := by decide +kernel
theorem dX2_commonDivisor_44 : decode cX2_commonDivisor 44 = .ok (.lload 4, 2) := by decide +kernel
theorem dX2_commonDivisor_46 : decode cX2_commonDivisor 46 = .ok (.lreturn, 1) := by decide +kernel
theorem dX3_init_0 : decode cX3_init 0 = .ok (.aload_n 0, 1) := by decide +kernel
theorem dX3_init_1 : decode cX3_init 1 = .ok (.invokespecial 3, 3) := by decide +kernel
theorem dX3_init_4 : decode cX3_init 4 = .ok (.aload_n 0, 1) := by decide +kernel
theorem dX3_init_5 : decode cX3_init 5 = .ok (.iconst 2, 1) := by decide +kernel
theorem dX3_init_6 : decode cX3_init 6 = .ok (.putfield 9, 3) := by decide +kernel
theorem dX3_init_9 : decode cX3_init 9 = .ok (.aload_n 0, 1) := by decide +kernel
theorem dX3_init_10 : decode cX3_init 10 = .ok (.iconst 0, 1) := by decide +kernel
theorem dX3_init_11 : decode cX3_init 11 = .ok (.putfield 15, 3) := by decide +kernel
theorem dX3_init_14 : decode cX3_init 14 = .ok (.aload_n 0, 1) := by decide +kernel
theorem dX3_init_15 : decode cX3_init 15 = .ok (.iconst 0, 1) := by decide +kernel
theorem dX3_init_16 : decode cX3_init 16 = .ok (.putfield 18, 3) := by decide +kernel
theorem dX3_init_19 : decode cX3_init 19 = .ok (.return_, 1) := by decide +kernel
theorem dX3_look_0 : decode cX3_look 0 = .ok (.aload_n 0, 1) := by decide +kernel
theorem dX3_look_1 : decode cX3_look 1 = .ok (.iload_n 3, 1) := by decide +kernel
theorem dX3_look_2 : decode cX3_look 2 = .ok (.putfield 9, 3) := by decide +kernel
theorem dX3_look_5 : decode cX3_look 5 = .ok (.aload_n 0, 1) := by decide +kernel
theorem dX3_look_6 : decode cX3_look 6 = .ok (.iconst 0, 1) := by decide +kernel
theorem dX3_look_7 : decode cX3_look 7 = .ok (.putfield 15, 3) := by decide +kernel
theorem dX3_look_10 : decode cX3_look 10 = .ok (.aload_n 0, 1) := by decide +kernel
theorem dX3_look_11 : decode cX3_look 11 = .ok (.iconst 0, 1) := by decide +kernel
theorem dX3_look_12 : decode cX3_look 12 = .ok (.putfield 18, 3) := by decide +kernel
theorem dX3_look_15 : decode cX3_look 15 = .ok (.iconst 0, 1) := by decide +kernel
theorem dX3_look_16 : decode cX3_look 16 = .ok (.iload_n 2, 1) := by decide +kernel
theorem dX3_look_17 : decode cX3_look 17 = .ok (.invokestatic 21, 3) := by decide +kernel
theorem dX3_look_20 : decode cX3_look 20 = .ok (.istore 4, 2) := by decide +kernel
theorem dX3_look_22 : decode cX3_look 22 = .ok (.iload 4, 2) := by decide +kernel
theorem dX3_look_24 : decode cX3_look 24 = .ok (.bipush 24, 2) := by decide +kernel
theorem dX3_look_26 : decode cX3_look 26 = .ok (.if_icmp .ge 28, 3) := by decide +kernel
theorem dX3_look_29 : decode cX3_look 29 = .ok (.aload_n 1, 1) := by decide +kernel
theorem dX3_look_30 : decode cX3_look 30 = .ok (.getfield 27, 3) := by decide +kernel
theorem dX3_look_33 : decode cX3_look 33 = .ok (.iload 4, 2) := by decide +kernel
theorem dX3_look_35 : decode cX3_look 35 = .ok (.iaload, 1) := by decide +kernel
theorem dX3_look_36 : decode cX3_look 36 = .ok (.ldc 33, 2) := by decide +kernel
theorem dX3_look_38 : decode cX3_look 38 = .ok (.if_icmp .eq 10, 3) := by decide +kernel
theorem dX3_look_41 : decode cX3_look 41 = .ok (.aload_n 0, 1) := by decide +kernel
theorem dX3_look_42 : decode cX3_look 42 = .ok (.aload_n 1, 1) := by decide +kernel
theorem dX3_look_43 : decode cX3_look 43 = .ok (.iload 4, 2) := by decide +kernel
theorem dX3_look_45 : decode cX3_look 45 = .ok (.invokevirtual 34, 3) := by decide +kernel
theorem dX3_look_48 : decode cX3_look 48 = .ok (.iinc 4 1, 3) := by decide +kernel
theorem dX3_look_51 : decode cX3_look 51 = .ok (.goto (-29), 3) := by decide +kernel
theorem dX3_look_54 : decode cX3_look 54 = .ok (.return_, 1) := by decide +kernel
theorem dX3_lookAt_0 : decode cX3_lookAt 0 = .ok (.aload_n 1, 1) := by decide +kernel
theorem dX3_lookAt_1 : decode cX3_lookAt 1 = .ok (.invokevirtual 38, 3) := by decide +kernel
theorem dX3_lookAt_4 : decode cX3_lookAt 4 = .ok (.lstore_n 3, 1) := by decide +kernel
theorem dX3_lookAt_5 : decode cX3_lookAt 5 = .ok (.aload_n 1, 1) := by decide +kernel
theorem dX3_lookAt_6 : decode cX3_lookAt 6 = .ok (.getfield 27, 3) := by decide +kernel
theorem dX3_lookAt_9 : decode cX3_lookAt 9 = .ok (.iload_n 2, 1) := by decide +kernel
theorem dX3_lookAt_10 : decode cX3_lookAt 10 = .ok (.iaload, 1) := by decide +kernel
theorem dX3_lookAt_11 : decode cX3_lookAt 11 = .ok (.i2l, 1) := by decide +kernel
theorem dX3_lookAt_12 : decode cX3_lookAt 12 = .ok (.aload_n 1, 1) := by decide +kernel
theorem dX3_lookAt_13 : decode cX3_lookAt 13 = .ok (.getfield 42, 3) := by decide +kernel
theorem dX3_lookAt_16 : decode cX3_lookAt 16 = .ok (.i2l, 1) := by decide +kernel
theorem dX3_lookAt_17 : decode cX3_lookAt 17 = .ok (.lmul, 1) := by decide +kernel
theorem dX3_lookAt_18 : decode cX3_lookAt 18 = .ok (.lload_n 3, 1) := by decide +kernel
theorem dX3_lookAt_19 : decode cX3_lookAt 19 = .ok (.invokestatic 45, 3) := by decide +kernel
theorem dX3_lookAt_22 : decode cX3_lookAt 22 = .ok (.istore 5, 2) := by decide +kernel
theorem dX3_lookAt_24 : decode cX3_lookAt 24 = .ok (.aload_n 0, 1) := by decide +kernel
theorem dX3_lookAt_25 : decode cX3_lookAt 25 = .ok (.aload_n 1, 1) := by decide +kernel
theorem dX3_lookAt_26 : decode cX3_lookAt 26 = .ok (.iload_n 2, 1) := by decide +kernel
theorem dX3_lookAt_27 : decode cX3_lookAt 27 = .ok (.lload_n 3, 1) := by decide +kernel
theorem dX3_lookAt_28 : decode cX3_lookAt 28 = .ok (.invokevirtual 51, 3) := by decide +kernel
theorem dX3_lookAt_31 : decode cX3_lookAt 31 = .ok (.istore 6, 2) := by decide +kernel
theorem dX3_lookAt_33 : decode cX3_lookAt 33 = .ok (.iload 5, 2) := by decide +kernel
theorem dX3_lookAt_35 : decode cX3_lookAt 35 = .ok (.ifCond .eq 35, 3) := by decide +kernel
theorem dX3_lookAt_38 : decode cX3_lookAt 38 = .ok (.iload 6, 2) := by decide +kernel
theorem dX3_lookAt_40 : decode cX3_lookAt 40 = .ok (.ifCond .eq 30, 3) := by decide +kernel
theorem dX3_lookAt_43 : decode cX3_lookAt 43 = .ok (.aload_n 0, 1) := by decide +kernel
theorem dX3_lookAt_44 : decode cX3_lookAt 44 = .ok (.dup, 1) := by decide +kernel
theorem dX3_lookAt_45 : decode cX3_lookAt 45 = .ok (.getfield 18, 3) := by decide +kernel
theorem dX3_lookAt_48 : decode cX3_lookAt 48 = .ok (.iconst 1, 1) := by decide +kernel
theorem dX3_lookAt_49 : decode cX3_lookAt 49 = .ok (.iadd, 1) := by decide +kernel
theorem dX3_lookAt_50 : decode cX3_lookAt 50 = .ok (.putfield 18, 3) := by decide +kernel
theorem dX3_lookAt_53 : decode cX3_lookAt 53 = .ok (.iload 5, 2) := by decide +kernel
theorem dX3_lookAt_55 : decode cX3_lookAt 55 = .ok (.iload 6, 2) := by decide +kernel
theorem dX3_lookAt_57 : decode cX3_lookAt 57 = .ok (.if_icmp .ne 13, 3) := by decide +kernel
theorem dX3_lookAt_60 : decode cX3_lookAt 60 = .ok (.aload_n 0, 1) := by decide +kernel
theorem dX3_lookAt_61 : decode cX3_lookAt 61 = .ok (.dup, 1) := by decide +kernel
theorem dX3_lookAt_62 : decode cX3_lookAt 62 = .ok (.getfield 15, 3) := by decide +kernel
theorem dX3_lookAt_65 : decode cX3_lookAt 65 = .ok (.iconst 1, 1) := by decide +kernel
theorem dX3_lookAt_66 : decode cX3_lookAt 66 = .ok (.iadd, 1) := by decide +kernel
theorem dX3_lookAt_67 : decode cX3_lookAt 67 = .ok (.putfield 15, 3) := by decide +kernel
theorem dX3_lookAt_70 : decode cX3_lookAt 70 = .ok (.return_, 1) := by decide +kernel
theorem dX3_sideOfHeap_0 : decode cX3_sideOfHeap 0 = .ok (.lconst 0, 1) := by decide +kernel
theorem dX3_sideOfHeap_1 : decode cX3_sideOfHeap 1 = .ok (.lstore 5, 2) := by decide +kernel
theorem dX3_sideOfHeap_3 : decode cX3_sideOfHeap 3 = .ok (.lconst 0, 1) := by decide +kernel
theorem dX3_sideOfHeap_4 : decode cX3_sideOfHeap 4 = .ok (.lstore 7, 2) := by decide +kernel
theorem dX3_sideOfHeap_6 : decode cX3_sideOfHeap 6 = .ok (.iconst 0, 1) := by decide +kernel
theorem dX3_sideOfHeap_7 : decode cX3_sideOfHeap 7 = .ok (.istore 9, 2) := by decide +kernel
theorem dX3_sideOfHeap_9 : decode cX3_sideOfHeap 9 = .ok (.iload 9, 2) := by decide +kernel
theorem dX3_sideOfHeap_11 : decode cX3_sideOfHeap 11 = .ok (.aload_n 1, 1) := by decide +kernel
theorem dX3_sideOfHeap_12 : decode cX3_sideOfHeap 12 = .ok (.getfield 42, 3) := by decide +kernel
theorem dX3_sideOfHeap_15 : decode cX3_sideOfHeap 15 = .ok (.if_icmp .ge 56, 3) := by decide +kernel
theorem dX3_sideOfHeap_18 : decode cX3_sideOfHeap 18 = .ok (.aload_n 0, 1) := by decide +kernel
theorem dX3_sideOfHeap_19 : decode cX3_sideOfHeap 19 = .ok (.getfield 9, 3) := by decide +kernel
theorem dX3_sideOfHeap_22 : decode cX3_sideOfHeap 22 = .ok (.ifCond .le 49, 3) := by decide +kernel
theorem dX3_sideOfHeap_25 : decode cX3_sideOfHeap 25 = .ok (.aload_n 1, 1) := by decide +kernel
theorem dX3_sideOfHeap_26 : decode cX3_sideOfHeap 26 = .ok (.getfield 55, 3) := by decide +kernel
theorem dX3_sideOfHeap_29 : decode cX3_sideOfHeap 29 = .ok (.iload 9, 2) := by decide +kernel
theorem dX3_sideOfHeap_31 : decode cX3_sideOfHeap 31 = .ok (.iaload, 1) := by decide +kernel
theorem dX3_sideOfHeap_32 : decode cX3_sideOfHeap 32 = .ok (.aload_n 0, 1) := by decide +kernel
theorem dX3_sideOfHeap_33 : decode cX3_sideOfHeap 33 = .ok (.getfield 9, 3) := by decide +kernel
theorem dX3_sideOfHeap_36 : decode cX3_sideOfHeap 36 = .ok (.irem, 1) := by decide +kernel
theorem dX3_sideOfHeap_37 : decode cX3_sideOfHeap 37 = .ok (.iload_n 2, 1) := by decide +kernel
theorem dX3_sideOfHeap_38 : decode cX3_sideOfHeap 38 = .ok (.aload_n 0, 1) := by decide +kernel
theorem dX3_sideOfHeap_39 : decode cX3_sideOfHeap 39 = .ok (.getfield 9, 3) := by decide +kernel
theorem dX3_sideOfHeap_42 : decode cX3_sideOfHeap 42 = .ok (.irem, 1) := by decide +kernel
theorem dX3_sideOfHeap_43 : decode cX3_sideOfHeap 43 = .ok (.if_icmp .ne 22, 3) := by decide +kernel
theorem dX3_sideOfHeap_46 : decode cX3_sideOfHeap 46 = .ok (.lload 5, 2) := by decide +kernel
theorem dX3_sideOfHeap_48 : decode cX3_sideOfHeap 48 = .ok (.aload_n 1, 1) := by decide +kernel
theorem dX3_sideOfHeap_49 : decode cX3_sideOfHeap 49 = .ok (.getfield 58, 3) := by decide +kernel
theorem dX3_sideOfHeap_52 : decode cX3_sideOfHeap 52 = .ok (.iload 9, 2) := by decide +kernel
theorem dX3_sideOfHeap_54 : decode cX3_sideOfHeap 54 = .ok (.iaload, 1) := by decide +kernel
theorem dX3_sideOfHeap_55 : decode cX3_sideOfHeap 55 = .ok (.i2l, 1) := by decide +kernel
theorem dX3_sideOfHeap_56 : decode cX3_sideOfHeap 56 = .ok (.ladd, 1) := by decide +kernel
theorem dX3_sideOfHeap_57 : decode cX3_sideOfHeap 57 = .ok (.lstore 5, 2) := by decide +kernel
theorem dX3_sideOfHeap_59 : decode cX3_sideOfHeap 59 = .ok (.lload 7, 2) := by decide +kernel
theorem dX3_sideOfHeap_61 : decode cX3_sideOfHeap 61 = .ok (.lconst 1, 1) := by decide +kernel
theorem dX3_sideOfHeap_62 : decode cX3_sideOfHeap 62 = .ok (.ladd, 1) := by decide +kernel
theorem dX3_sideOfHeap_63 : decode cX3_sideOfHeap 63 = .ok (.lstore 7, 2) := by decide +kernel
theorem dX3_sideOfHeap_65 : decode cX3_sideOfHeap 65 = .ok (.iinc 9 1, 3) := by decide +kernel
theorem dX3_sideOfHeap_68 : decode cX3_sideOfHeap 68 = .ok (.goto (-59), 3) := by decide +kernel
theorem dX3_sideOfHeap_71 : decode cX3_sideOfHeap 71 = .ok (.lload 5, 2) := by decide +kernel
theorem dX3_sideOfHeap_73 : decode cX3_sideOfHeap 73 = .ok (.aload_n 1, 1) := by decide +kernel
theorem dX3_sideOfHeap_74 : decode cX3_sideOfHeap 74 = .ok (.getfield 42, 3) := by decide +kernel
theorem dX3_sideOfHeap_77 : decode cX3_sideOfHeap 77 = .ok (.i2l, 1) := by decide +kernel
theorem dX3_sideOfHeap_78 : decode cX3_sideOfHeap 78 = .ok (.lmul, 1) := by decide +kernel
theorem dX3_sideOfHeap_79 : decode cX3_sideOfHeap 79 = .ok (.lload_n 3, 1) := by decide +kernel
theorem dX3_sideOfHeap_80 : decode cX3_sideOfHeap 80 = .ok (.lload 7, 2) := by decide +kernel
theorem dX3_sideOfHeap_82 : decode cX3_sideOfHeap 82 = .ok (.lmul, 1) := by decide +kernel
theorem dX3_sideOfHeap_83 : decode cX3_sideOfHeap 83 = .ok (.invokestatic 45, 3) := by decide +kernel
theorem dX3_sideOfHeap_86 : decode cX3_sideOfHeap 86 = .ok (.ireturn, 1) := by decide +kernel
theorem dX3_putLuck_0 : decode cX3_putLuck 0 = .ok (.lconst 1, 1) := by decide +kernel
theorem dX3_putLuck_1 : decode cX3_putLuck 1 = .ok (.lstore_n 2, 1) := by decide +kernel
theorem dX3_putLuck_2 : decode cX3_putLuck 2 = .ok (.lconst 0, 1) := by decide +kernel
theorem dX3_putLuck_3 : decode cX3_putLuck 3 = .ok (.lstore 4, 2) := by decide +kernel
theorem dX3_putLuck_5 : decode cX3_putLuck 5 = .ok (.iconst 0, 1) := by decide +kernel
theorem dX3_putLuck_6 : decode cX3_putLuck 6 = .ok (.istore 6, 2) := by decide +kernel
theorem dX3_putLuck_8 : decode cX3_putLuck 8 = .ok (.iload 6, 2) := by decide +kernel
theorem dX3_putLuck_10 : decode cX3_putLuck 10 = .ok (.aload_n 0, 1) := by decide +kernel
theorem dX3_putLuck_11 : decode cX3_putLuck 11 = .ok (.getfield 18, 3) := by decide +kernel
theorem dX3_putLuck_14 : decode cX3_putLuck 14 = .ok (.if_icmp .gt 41, 3) := by decide +kernel
theorem dX3_putLuck_17 : decode cX3_putLuck 17 = .ok (.iload 6, 2) := by decide +kernel
theorem dX3_putLuck_19 : decode cX3_putLuck 19 = .ok (.aload_n 0, 1) := by decide +kernel
theorem dX3_putLuck_20 : decode cX3_putLuck 20 = .ok (.getfield 15, 3) := by decide +kernel
theorem dX3_putLuck_23 : decode cX3_putLuck 23 = .ok (.if_icmp .lt 9, 3) := by decide +kernel
theorem dX3_putLuck_26 : decode cX3_putLuck 26 = .ok (.lload 4, 2) := by decide +kernel
theorem dX3_putLuck_28 : decode cX3_putLuck 28 = .ok (.lload_n 2, 1) := by decide +kernel
theorem dX3_putLuck_29 : decode cX3_putLuck 29 = .ok (.ladd, 1) := by decide +kernel
theorem dX3_putLuck_30 : decode cX3_putLuck 30 = .ok (.lstore 4, 2) := by decide +kernel
theorem dX3_putLuck_32 : decode cX3_putLuck 32 = .ok (.lload_n 2, 1) := by decide +kernel
theorem dX3_putLuck_33 : decode cX3_putLuck 33 = .ok (.aload_n 0, 1) := by decide +kernel
theorem dX3_putLuck_34 : decode cX3_putLuck 34 = .ok (.getfield 18, 3) := by decide +kernel
theorem dX3_putLuck_37 : decode cX3_putLuck 37 = .ok (.iload 6, 2) := by decide +kernel
theorem dX3_putLuck_39 : decode cX3_putLuck 39 = .ok (.isub, 1) := by decide +kernel
theorem dX3_putLuck_40 : decode cX3_putLuck 40 = .ok (.i2l, 1) := by decide +kernel
theorem dX3_putLuck_41 : decode cX3_putLuck 41 = .ok (.lmul, 1) := by decide +kernel
theorem dX3_putLuck_42 : decode cX3_putLuck 42 = .ok (.iload 6, 2) := by decide +kernel
theorem dX3_putLuck_44 : decode cX3_putLuck 44 = .ok (.iconst 1, 1) := by decide +kernel
theorem dX3_putLuck_45 : decode cX3_putLuck 45 = .ok (.iadd, 1) := by decide +kernel
theorem dX3_putLuck_46 : decode cX3_putLuck 46 = .ok (.i2l, 1) := by decide +kernel
theorem dX3_putLuck_47 : decode cX3_putLuck 47 = .ok (.ldiv, 1) := by decide +kernel
theorem dX3_putLuck_48 : decode cX3_putLuck 48 = .ok (.lstore_n 2, 1) := by decide +kernel
theorem dX3_putLuck_49 : decode cX3_putLuck 49 = .ok (.iinc 6 1, 3) := by decide +kernel
theorem dX3_putLuck_52 : decode cX3_putLuck 52 = .ok (.goto (-44), 3) := by decide +kernel
theorem dX3_putLuck_55 : decode cX3_putLuck 55 = .ok (.aload_n 1, 1) := by decide +kernel
theorem dX3_putLuck_56 : decode cX3_putLuck 56 = .ok (.lload 4, 2) := by decide +kernel
theorem dX3_putLuck_58 : decode cX3_putLuck 58 = .ok (.lconst 1, 1) := by decide +kernel
theorem dX3_putLuck_59 : decode cX3_putLuck 59 = .ok (.aload_n 0, 1) := by decide +kernel
theorem dX3_putLuck_60 : decode cX3_putLuck 60 = .ok (.getfield 18, 3) := by decide +kernel
theorem dX3_putLuck_63 : decode cX3_putLuck 63 = .ok (.lshl, 1) := by decide +kernel
theorem dX3_putLuck_64 : decode cX3_putLuck 64 = .ok (.invokevirtual 61, 3) := by decide +kernel
theorem dX3_putLuck_67 : decode cX3_putLuck 67 = .ok (.return_, 1) := by decide +kernel
theorem dX4_init_0 : decode cX4_init 0 = .ok (.aload_n 0, 1) := by decide +kernel
theorem dX4_init_1 : decode cX4_init 1 = .ok (.invokespecial 3, 3) := by decide +kernel
theorem dX4_init_4 : decode cX4_init 4 = .ok (.aload_n 0, 1) := by decide +kernel
theorem dX4_init_5 : decode cX4_init 5 = .ok (.bipush 24, 2) := by decide +kernel
theorem dX4_init_7 : decode cX4_init 7 = .ok (.newarray .int, 2) := by decide +kernel
theorem dX4_init_9 : decode cX4_init 9 = .ok (.putfield 9, 3) := by decide +kernel
theorem dX4_init_12 : decode cX4_init 12 = .ok (.aload_n 0, 1) := by decide +kernel
theorem dX4_init_13 : decode cX4_init 13 = .ok (.iconst 0, 1) := by decide +kernel
theorem dX4_init_14 : decode cX4_init 14 = .ok (.putfield 15, 3) := by decide +kernel
theorem dX4_init_17 : decode cX4_init 17 = .ok (.aload_n 0, 1) := by decide +kernel
theorem dX4_init_18 : decode cX4_init 18 = .ok (.lconst 1, 1) := by decide +kernel
theorem dX4_init_19 : decode cX4_init 19 = .ok (.putfield 19, 3) := by decide +kernel
theorem dX4_init_22 : decode cX4_init 22 = .ok (.return_, 1) := by decide +kernel
theorem dX4_begin_0 : decode cX4_begin 0 = .ok (.aload_n 0, 1) := by decide +kernel
theorem dX4_begin_1 : decode cX4_begin 1 = .ok (.aload_n 1, 1) := by decide +kernel
theorem dX4_begin_2 : decode cX4_begin 2 = .ok (.getfield 23, 3) := by decide +kernel
theorem dX4_begin_5 : decode cX4_begin 5 = .ok (.putfield 15, 3) := by decide +kernel
theorem dX4_begin_8 : decode cX4_begin 8 = .ok (.aload_n 0, 1) := by decide +kernel
theorem dX4_begin_9 : decode cX4_begin 9 = .ok (.iload_n 2, 1) := by decide +kernel
theorem dX4_begin_10 : decode cX4_begin 10 = .ok (.i2l, 1) := by decide +kernel
theorem dX4_begin_11 : decode cX4_begin 11 = .ok (.putfield 19, 3) := by decide +kernel
theorem dX4_begin_14 : decode cX4_begin 14 = .ok (.iconst 0, 1) := by decide +kernel
theorem dX4_begin_15 : decode cX4_begin 15 = .ok (.istore_n 3, 1) := by decide +kernel
theorem dX4_begin_16 : decode cX4_begin 16 = .ok (.iload_n 3, 1) := by decide +kernel
theorem dX4_begin_17 : decode cX4_begin 17 = .ok (.aload_n 0, 1) := by decide +kernel
theorem dX4_begin_18 : decode cX4_begin 18 = .ok (.getfield 15, 3) := by decide +kernel
theorem dX4_begin_21 : decode cX4_begin 21 = .ok (.if_icmp .ge 21, 3) := by decide +kernel
theorem dX4_begin_24 : decode cX4_begin 24 = .ok (.aload_n 0, 1) := by decide +kernel
theorem dX4_begin_25 : decode cX4_begin 25 = .ok (.getfield 9, 3) := by decide +kernel
theorem dX4_begin_28 : decode cX4_begin 28 = .ok (.iload_n 3, 1) := by decide +kernel
theorem dX4_begin_29 : decode cX4_begin 29 = .ok (.aload_n 1, 1) := by decide +kernel
theorem dX4_begin_30 : decode cX4_begin 30 = .ok (.getfield 26, 3) := by decide +kernel
theorem dX4_begin_33 : decode cX4_begin 33 = .ok (.iload_n 3, 1) := by decide +kernel
theorem dX4_begin_34 : decode cX4_begin 34 = .ok (.iaload, 1) := by decide +kernel
theorem dX4_begin_35 : decode cX4_begin 35 = .ok (.iastore, 1) := by decide +kernel
theorem dX4_begin_36 : decode cX4_begin 36 = .ok (.iinc 3 1, 3) := by decide +kernel
theorem dX4_begin_39 : decode cX4_begin 39 = .ok (.goto (-23), 3) := by decide +kernel
theorem dX4_begin_42 : decode cX4_begin 42 = .ok (.return_, 1) := by decide +kernel
theorem dX4_draw_0 : decode cX4_draw 0 = .ok (.aload_n 0, 1) := by decide +kernel
theorem dX4_draw_1 : decode cX4_draw 1 = .ok (.getfield 15, 3) := by decide +kernel
theorem dX4_draw_4 : decode cX4_draw 4 = .ok (.iconst 1, 1) := by decide +kernel
theorem dX4_draw_5 : decode cX4_draw 5 = .ok (.isub, 1) := by decide +kernel
theorem dX4_draw_6 : decode cX4_draw 6 = .ok (.istore_n 1, 1) := by decide +kernel
theorem dX4_draw_7 : decode cX4_draw 7 = .ok (.iload_n 1, 1) := by decide +kernel
theorem dX4_draw_8 : decode cX4_draw 8 = .ok (.ifCond .le 40, 3) := by decide +kernel
theorem dX4_draw_11 : decode cX4_draw 11 = .ok (.aload_n 0, 1) := by decide +kernel
theorem dX4_draw_12 : decode cX4_draw 12 = .ok (.aload_n 0, 1) := by decide +kernel
theorem dX4_draw_13 : decode cX4_draw 13 = .ok (.getfield 19, 3) := by decide +kernel
theorem dX4_draw_16 : decode cX4_draw 16 = .ok (.ldc2_w 27, 3) := by decide +kernel
theorem dX4_draw_19 : decode cX4_draw 19 = .ok (.lmul, 1) := by decide +kernel
theorem dX4_draw_20 : decode cX4_draw 20 = .ok (.ldc2_w 29, 3) := by decide +kernel
theorem dX4_draw_23 : decode cX4_draw 23 = .ok (.lrem, 1) := by decide +kernel
theorem dX4_draw_24 : decode cX4_draw 24 = .ok (.putfield 19, 3) := by decide +kernel
theorem dX4_draw_27 : decode cX4_draw 27 = .ok (.aload_n 0, 1) := by decide +kernel
theorem dX4_draw_28 : decode cX4_draw 28 = .ok (.iload_n 1, 1) := by decide +kernel
theorem dX4_draw_29 : decode cX4_draw 29 = .ok (.aload_n 0, 1) := by decide +kernel
theorem dX4_draw_30 : decode cX4_draw 30 = .ok (.getfield 19, 3) := by decide +kernel
theorem dX4_draw_33 : decode cX4_draw 33 = .ok (.iload_n 1, 1) := by decide +kernel
theorem dX4_draw_34 : decode cX4_draw 34 = .ok (.iconst 1, 1) := by decide +kernel
theorem dX4_draw_35 : decode cX4_draw 35 = .ok (.iadd, 1) := by decide +kernel
theorem dX4_draw_36 : decode cX4_draw 36 = .ok (.i2l, 1) := by decide +kernel
theorem dX4_draw_37 : decode cX4_draw 37 = .ok (.lrem, 1) := by decide +kernel
theorem dX4_draw_38 : decode cX4_draw 38 = .ok (.l2i, 1) := by decide +kernel
theorem dX4_draw_39 : decode cX4_draw 39 = .ok (.invokevirtual 31, 3) := by decide +kernel
theorem dX4_draw_42 : decode cX4_draw 42 = .ok (.iinc 1 (-1), 3) := by decide +kernel
theorem dX4_draw_45 : decode cX4_draw 45 = .ok (.goto (-38), 3) := by decide +kernel
theorem dX4_draw_48 : decode cX4_draw 48 = .ok (.return_, 1) := by decide +kernel
theorem dX4_sort_0 : decode cX4_sort 0 = .ok (.iconst 1, 1) := by decide +kernel
theorem dX4_sort_1 : decode cX4_sort 1 = .ok (.istore_n 1, 1) := by decide +kernel
theorem dX4_sort_2 : decode cX4_sort 2 = .ok (.iload_n 1, 1) := by decide +kernel
theorem dX4_sort_3 : decode cX4_sort 3 = .ok (.aload_n 0, 1) := by decide +kernel
theorem dX4_sort_4 : decode cX4_sort 4 = .ok (.getfield 15, 3) := by decide +kernel
theorem dX4_sort_7 : decode cX4_sort 7 = .ok (.if_icmp .ge 46, 3) := by decide +kernel
theorem dX4_sort_10 : decode cX4_sort 10 = .ok (.iload_n 1, 1) := by decide +kernel
theorem dX4_sort_11 : decode cX4_sort 11 = .ok (.istore_n 2, 1) := by decide +kernel
theorem dX4_sort_12 : decode cX4_sort 12 = .ok (.iload_n 2, 1) := by decide +kernel
theorem dX4_sort_13 : decode cX4_sort 13 = .ok (.ifCond .le 34, 3) := by decide +kernel
theorem dX4_sort_16 : decode cX4_sort 16 = .ok (.aload_n 0, 1) := by decide +kernel
theorem dX4_sort_17 : decode cX4_sort 17 = .ok (.getfield 9, 3) := by decide +kernel
theorem dX4_sort_20 : decode cX4_sort 20 = .ok (.iload_n 2, 1) := by decide +kernel
theorem dX4_sort_21 : decode cX4_sort 21 = .ok (.iconst 1, 1) := by decide +kernel
theorem dX4_sort_22 : decode cX4_sort 22 = .ok (.isub, 1) := by decide +kernel
theorem dX4_sort_23 : decode cX4_sort 23 = .ok (.iaload, 1) := by decide +kernel
theorem dX4_sort_24 : decode cX4_sort 24 = .ok (.aload_n 0, 1) := by decide +kernel
theorem dX4_sort_25 : decode cX4_sort 25 = .ok (.getfield 9, 3) := by decide +kernel
theorem dX4_sort_28 : decode cX4_sort 28 = .ok (.iload_n 2, 1) := by decide +kernel
theorem dX4_sort_29 : decode cX4_sort 29 = .ok (.iaload, 1) := by decide +kernel
theorem dX4_sort_30 : decode cX4_sort 30 = .ok (.if_icmp .le 17, 3) := by decide +kernel
theorem dX4_sort_33 : decode cX4_sort 33 = .ok (.aload_n 0, 1) := by decide +kernel
theorem dX4_sort_34 : decode cX4_sort 34 = .ok (.iload_n 2, 1) := by decide +kernel
theorem dX4_sort_35 : decode cX4_sort 35 = .ok (.iconst 1, 1) := by decide +kernel
theorem dX4_sort_36 : decode cX4_sort 36 = .ok (.isub, 1) := by decide +kernel
theorem dX4_sort_37 : decode cX4_sort 37 = .ok (.iload_n 2, 1) := by decide +kernel
theorem dX4_sort_38 : decode cX4_sort 38 = .ok (.invokevirtual 31, 3) := by decide +kernel
theorem dX4_sort_41 : decode cX4_sort 41 = .ok (.iinc 2 (-1), 3) := by decide +kernel
theorem dX4_sort_44 : decode cX4_sort 44 = .ok (.goto (-32), 3) := by decide +kernel
theorem dX4_sort_47 : decode cX4_sort 47 = .ok (.iinc 1 1, 3) := by decide +kernel
theorem dX4_sort_50 : decode cX4_sort 50 = .ok (.goto (-48), 3) := by decide +kernel
theorem dX4_sort_53 : decode cX4_sort 53 = .ok (.return_, 1) := by decide +kernel
theorem dX4_next_0 : decode cX4_next 0 = .ok (.aload_n 0, 1) := by decide +kernel
theorem dX4_next_1 : decode cX4_next 1 = .ok (.getfield 15, 3) := by decide +kernel
theorem dX4_next_4 : decode cX4_next 4 = .ok (.iconst 2, 1) := by decide +kernel
theorem dX4_next_5 : decode cX4_next 5 = .ok (.isub, 1) := by decide +kernel
theorem dX4_next_6 : decode cX4_next 6 = .ok (.istore_n 1, 1) := by decide +kernel
theorem dX4_next_7 : decode cX4_next 7 = .ok (.iload_n 1, 1) := by decide +kernel
theorem dX4_next_8 : decode cX4_next 8 = .ok (.ifCond .lt 26, 3) := by decide +kernel
theorem dX4_next_11 : decode cX4_next 11 = .ok (.aload_n 0, 1) := by decide +kernel
theorem dX4_next_12 : decode cX4_next 12 = .ok (.getfield 9, 3) := by decide +kernel
theorem dX4_next_15 : decode cX4_next 15 = .ok (.iload_n 1, 1) := by decide +kernel
theorem dX4_next_16 : decode cX4_next 16 = .ok (.iaload, 1) := by decide +kernel
theorem dX4_next_17 : decode cX4_next 17 = .ok (.aload_n 0, 1) := by decide +kernel
theorem dX4_next_18 : decode cX4_next 18 = .ok (.getfield 9, 3) := by decide +kernel
theorem dX4_next_21 : decode cX4_next 21 = .ok (.iload_n 1, 1) := by decide +kernel
theorem dX4_next_22 : decode cX4_next 22 = .ok (.iconst 1, 1) := by decide +kernel
theorem dX4_next_23 : decode cX4_next 23 = .ok (.iadd, 1) := by decide +kernel
theorem dX4_next_24 : decode cX4_next 24 = .ok (.iaload, 1) := by decide +kernel
theorem dX4_next_25 : decode cX4_next 25 = .ok (.if_icmp .lt 9, 3) := by decide +kernel
theorem dX4_next_28 : decode cX4_next 28 = .ok (.iinc 1 (-1), 3) := by decide +kernel
theorem dX4_next_31 : decode cX4_next 31 = .ok (.goto (-24), 3) := by decide +kernel
theorem dX4_next_34 : decode cX4_next 34 = .ok (.iload_n 1, 1) := by decide +kernel
theorem dX4_next_35 : decode cX4_next 35 = .ok (.ifCond .ge 5, 3) := by decide +kernel
theorem dX4_next_38 : decode cX4_next 38 = .ok (.iconst 0, 1) := by decide +kernel
theorem dX4_next_39 : decode cX4_next 39 = .ok (.ireturn, 1) := by decide +kernel
theorem dX4_next_40 : decode cX4_next 40 = .ok (.aload_n 0, 1) := by decide +kernel
theorem dX4_next_41 : decode cX4_next 41 = .ok (.getfield 15, 3) := by decide +kernel
theorem dX4_next_44 : decode cX4_next 44 = .ok (.iconst 1, 1) := by decide +kernel
theorem dX4_next_45 : decode cX4_next 45 = .ok (.isub, 1) := by decide +kernel
theorem dX4_next_46 : decode cX4_next 46 = .ok (.istore_n 2, 1) := by decide +kernel
theorem dX4_next_47 : decode cX4_next 47 = .ok (.iload_n 2, 1) := by decide +kernel
theorem dX4_next_48 : decode cX4_next 48 = .ok (.iload_n 1, 1) := by decide +kernel
theorem dX4_next_49 : decode cX4_next 49 = .ok (.if_icmp .le 24, 3) := by decide +kernel
theorem dX4_next_52 : decode cX4_next 52 = .ok (.aload_n 0, 1) := by decide +kernel
theorem dX4_next_53 : decode cX4_next 53 = .ok (.getfield 9, 3) := by decide +kernel
theorem dX4_next_56 : decode cX4_next 56 = .ok (.iload_n 2, 1) := by decide +kernel
theorem dX4_next_57 : decode cX4_next 57 = .ok (.iaload, 1) := by decide +kernel
theorem dX4_next_58 : decode cX4_next 58 = .ok (.aload_n 0, 1) := by decide +kernel
theorem dX4_next_59 : decode cX4_next 59 = .ok (.getfield 9, 3) := by decide +kernel
theorem dX4_next_62 : decode cX4_next 62 = .ok (.iload_n 1, 1) := by decide +kernel
theorem dX4_next_63 : decode cX4_next 63 = .ok (.iaload, 1) := by decide +kernel
theorem dX4_next_64 : decode cX4_next 64 = .ok (.if_icmp .gt 9, 3) := by decide +kernel
theorem dX4_next_67 : decode cX4_next 67 = .ok (.iinc 2 (-1), 3) := by decide +kernel
theorem dX4_next_70 : decode cX4_next 70 = .ok (.goto (-23), 3) := by decide +kernel
theorem dX4_next_73 : decode cX4_next 73 = .ok (.aload_n 0, 1) := by decide +kernel
theorem dX4_next_74 : decode cX4_next 74 = .ok (.iload_n 1, 1) := by decide +kernel
theorem dX4_next_75 : decode cX4_next 75 = .ok (.iload_n 2, 1) := by decide +kernel
theorem dX4_next_76 : decode cX4_next 76 = .ok (.invokevirtual 31, 3) := by decide +kernel
theorem dX4_next_79 : decode cX4_next 79 = .ok (.iload_n 1, 1) := by decide +kernel
theorem dX4_next_80 : decode cX4_next 80 = .ok (.iconst 1, 1) := by decide +kernel
theorem dX4_next_81 : decode cX4_next 81 = .ok (.iadd, 1) := by decide +kernel
theorem dX4_next_82 : decode cX4_next 82 = .ok (.istore_n 3, 1) := by decide +kernel
theorem dX4_next_83 : decode cX4_next 83 = .ok (.aload_n 0, 1) := by decide +kernel
theorem dX4_next_84 : decode cX4_next 84 = .ok (.getfield 15, 3) := by decide +kernel
theorem dX4_next_87 : decode cX4_next 87 = .ok (.iconst 1, 1) := by decide +kernel
theorem dX4_next_88 : decode cX4_next 88 = .ok (.isub, 1) := by decide +kernel
theorem dX4_next_89 : decode cX4_next 89 = .ok (.istore 4, 2) := by decide +kernel
theorem dX4_next_91 : decode cX4_next 91 = .ok (.iload_n 3, 1) := by decide +kernel
theorem dX4_next_92 : decode cX4_next 92 = .ok (.iload 4, 2) := by decide +kernel
theorem dX4_next_94 : decode cX4_next 94 = .ok (.if_icmp .ge 19, 3) := by decide +kernel
theorem dX4_next_97 : decode cX4_next 97 = .ok (.aload_n 0, 1) := by decide +kernel
theorem dX4_next_98 : decode cX4_next 98 = .ok (.iload_n 3, 1) := by decide +kernel
theorem dX4_next_99 : decode cX4_next 99 = .ok (.iload 4, 2) := by decide +kernel
theorem dX4_next_101 : decode cX4_next 101 = .ok (.invokevirtual 31, 3) := by decide +kernel
theorem dX4_next_104 : decode cX4_next 104 = .ok (.iinc 3 1, 3) := by decide +kernel
theorem dX4_next_107 : decode cX4_next 107 = .ok (.iinc 4 (-1), 3) := by decide +kernel
theorem dX4_next_110 : decode cX4_next 110 = .ok (.goto (-19), 3) := by decide +kernel
theorem dX4_next_113 : decode cX4_next 113 = .ok (.iconst 1, 1) := by decide +kernel
theorem dX4_next_114 : decode cX4_next 114 = .ok (.ireturn, 1) := by decide +kernel
theorem dX4_swap_0 : decode cX4_swap 0 = .ok (.aload_n 0, 1) := by decide +kernel
theorem dX4_swap_1 : decode cX4_swap 1 = .ok (.getfield 9, 3) := by decide +kernel
theorem dX4_swap_4 : decode cX4_swap 4 = .ok (.iload_n 1, 1) := by decide +kernel
theorem dX4_swap_5 : decode cX4_swap 5 = .ok (.iaload, 1) := by decide +kernel
theorem dX4_swap_6 : decode cX4_swap 6 = .ok (.istore_n 3, 1) := by decide +kernel
theorem dX4_swap_7 : decode cX4_swap 7 = .ok (.aload_n 0, 1) := by decide +kernel
theorem dX4_swap_8 : decode cX4_swap 8 = .ok (.getfield 9, 3) := by decide +kernel
theorem dX4_swap_11 : decode cX4_swap 11 = .ok (.iload_n 1, 1) := by decide +kernel
theorem dX4_swap_12 : decode cX4_swap 12 = .ok (.aload_n 0, 1) := by decide +kernel
theorem dX4_swap_13 : decode cX4_swap 13 = .ok (.getfield 9, 3) := by decide +kernel
theorem dX4_swap_16 : decode cX4_swap 16 = .ok (.iload_n 2, 1) := by decide +kernel
theorem dX4_swap_17 : decode cX4_swap 17 = .ok (.iaload, 1) := by decide +kernel
theorem dX4_swap_18 : decode cX4_swap 18 = .ok (.iastore, 1) := by decide +kernel
theorem dX4_swap_19 : decode cX4_swap 19 = .ok (.aload_n 0, 1) := by decide +kernel
theorem dX4_swap_20 : decode cX4_swap 20 = .ok (.getfield 9, 3) := by decide +kernel
theorem dX4_swap_23 : decode cX4_swap 23 = .ok (.iload_n 2, 1) := by decide +kernel
theorem dX4_swap_24 : decode cX4_swap 24 = .ok (.iload_n 3, 1) := by decide +kernel
theorem dX4_swap_25 : decode cX4_swap 25 = .ok (.iastore, 1) := by decide +kernel
theorem dX4_swap_26 : decode cX4_swap 26 = .ok (.return_, 1) := by decide +kernel
theorem dX5_init_0 : decode cX5_init 0 = .ok (.aload_n 0, 1) := by decide +kernel
theorem dX5_init_1 : decode cX5_init 1 = .ok (.invokespecial 3, 3) := by decide +kernel
theorem dX5_init_4 : decode cX5_init 4 = .ok (.aload_n 0, 1) := by decide +kernel
theorem dX5_init_5 : decode cX5_init 5 = .ok (.bipush 20, 2) := by decide +kernel
theorem dX5_init_7 : decode cX5_init 7 = .ok (.newarray .int, 2) := by decide +kernel
theorem dX5_init_9 : decode cX5_init 9 = .ok (.putfield 9, 3) := by decide +kernel
theorem dX5_init_12 : decode cX5_init 12 = .ok (.aload_n 0, 1) := by decide +kernel
theorem dX5_init_13 : decode cX5_init 13 = .ok (.iconst 0, 1) := by decide +kernel
theorem dX5_init_14 : decode cX5_init 14 = .ok (.putfield 15, 3) := by decide +kernel
theorem dX5_init_17 : decode cX5_init 17 = .ok (.return_, 1) := by decide +kernel
theorem dX5_isFull_0 : decode cX5_isFull 0 = .ok (.aload_n 0, 1) := by decide +kernel
theorem dX5_isFull_1 : decode cX5_isFull 1 = .ok (.getfield 15, 3) := by decide +kernel
theorem dX5_isFull_4 : decode cX5_isFull 4 = .ok (.bipush 20, 2) := by decide +kernel
theorem dX5_isFull_6 : decode cX5_isFull 6 = .ok (.if_icmp .lt 7, 3) := by decide +kernel
theorem dX5_isFull_9 : decode cX5_isFull 9 = .ok (.iconst 1, 1) := by decide +kernel
theorem dX5_isFull_10 : decode cX5_isFull 10 = .ok (.goto 4, 3) := by decide +kernel
theorem dX5_isFull_13 : decode cX5_isFull 13 = .ok (.iconst 0, 1) := by decide +kernel
theorem dX5_isFull_14 : decode cX5_isFull 14 = .ok (.ireturn, 1) := by decide +kernel
theorem dX5_add_0 : decode cX5_add 0 = .ok (.aload_n 0, 1) := by decide +kernel
theorem dX5_add_1 : decode cX5_add 1 = .ok (.invokevirtual 19, 3) := by decide +kernel
theorem dX5_add_4 : decode cX5_add 4 = .ok (.ifCond .ne 23, 3) := by decide +kernel
theorem dX5_add_7 : decode cX5_add 7 = .ok (.aload_n 0, 1) := by decide +kernel
theorem dX5_add_8 : decode cX5_add 8 = .ok (.getfield 9, 3) := by decide +kernel
theorem dX5_add_11 : decode cX5_add 11 = .ok (.aload_n 0, 1) := by decide +kernel
theorem dX5_add_12 : decode cX5_add 12 = .ok (.getfield 15, 3) := by decide +kernel
theorem dX5_add_15 : decode cX5_add 15 = .ok (.iload_n 1, 1) := by decide +kernel
theorem dX5_add_16 : decode cX5_add 16 = .ok (.iastore, 1) := by decide +kernel
theorem dX5_add_17 : decode cX5_add 17 = .ok (.aload_n 0, 1) := by decide +kernel
theorem dX5_add_18 : decode cX5_add 18 = .ok (.dup, 1) := by decide +kernel
theorem dX5_add_19 : decode cX5_add 19 = .ok (.getfield 15, 3) := by decide +kernel
theorem dX5_add_22 : decode cX5_add 22 = .ok (.iconst 1, 1) := by decide +kernel
theorem dX5_add_23 : decode cX5_add 23 = .ok (.iadd, 1) := by decide +kernel
theorem dX5_add_24 : decode cX5_add 24 = .ok (.putfield 15, 3) := by decide +kernel
theorem dX5_add_27 : decode cX5_add 27 = .ok (.return_, 1) := by decide +kernel
theorem dX5_clear_0 : decode cX5_clear 0 = .ok (.aload_n 0, 1) := by decide +kernel
theorem dX5_clear_1 : decode cX5_clear 1 = .ok (.iconst 0, 1) := by decide +kernel
theorem dX5_clear_2 : decode cX5_clear 2 = .ok (.putfield 15, 3) := by decide +kernel
theorem dX5_clear_5 : decode cX5_clear 5 = .ok (.return_, 1) := by decide +kernel
theorem dX5_firstFault_0 : decode cX5_firstFault 0 = .ok (.iconst 0, 1) := by decide +kernel
theorem dX5_firstFault_1 : decode cX5_firstFault 1 = .ok (.istore_n 1, 1) := by decide +kernel
theorem dX5_firstFault_2 : decode cX5_firstFault 2 = .ok (.iload_n 1, 1) := by decide +kernel
theorem dX5_firstFault_3 : decode cX5_firstFault 3 = .ok (.aload_n 0, 1) := by decide +kernel
theorem dX5_firstFault_4 : decode cX5_firstFault 4 = .ok (.getfield 15, 3) := by decide +kernel
theorem dX5_firstFault_7 : decode cX5_firstFault 7 = .ok (.if_icmp .ge 71, 3) := by decide +kernel
theorem dX5_firstFault_10 : decode cX5_firstFault 10 = .ok (.aload_n 0, 1) := by decide +kernel
theorem dX5_firstFault_11 : decode cX5_firstFault 11 = .ok (.getfield 9, 3) := by decide +kernel
theorem dX5_firstFault_14 : decode cX5_firstFault 14 = .ok (.iload_n 1, 1) := by decide +kernel
theorem dX5_firstFault_15 : decode cX5_firstFault 15 = .ok (.iaload, 1) := by decide +kernel
theorem dX5_firstFault_16 : decode cX5_firstFault 16 = .ok (.invokestatic 23, 3) := by decide +kernel
theorem dX5_firstFault_19 : decode cX5_firstFault 19 = .ok (.istore_n 2, 1) := by decide +kernel
theorem dX5_firstFault_20 : decode cX5_firstFault 20 = .ok (.iload_n 2, 1) := by decide +kernel
theorem dX5_firstFault_21 : decode cX5_firstFault 21 = .ok (.bipush (-6), 2) := by decide +kernel
theorem dX5_firstFault_23 : decode cX5_firstFault 23 = .ok (.if_icmp .ne 5, 3) := by decide +kernel
theorem dX5_firstFault_26 : decode cX5_firstFault 26 = .ok (.iload_n 1, 1) := by decide +kernel
theorem dX5_firstFault_27 : decode cX5_firstFault 27 = .ok (.ireturn, 1) := by decide +kernel
theorem dX5_firstFault_28 : decode cX5_firstFault 28 = .ok (.iconst 1, 1) := by decide +kernel
theorem dX5_firstFault_29 : decode cX5_firstFault 29 = .ok (.istore_n 3, 1) := by decide +kernel
theorem dX5_firstFault_30 : decode cX5_firstFault 30 = .ok (.iload_n 3, 1) := by decide +kernel
theorem dX5_firstFault_31 : decode cX5_firstFault 31 = .ok (.iload_n 2, 1) := by decide +kernel
theorem dX5_firstFault_32 : decode cX5_firstFault 32 = .ok (.if_icmp .gt 37, 3) := by decide +kernel
theorem dX5_firstFault_35 : decode cX5_firstFault 35 = .ok (.iload_n 1, 1) := by decide +kernel
theorem dX5_firstFault_36 : decode cX5_firstFault 36 = .ok (.iload_n 3, 1) := by decide +kernel
theorem dX5_firstFault_37 : decode cX5_firstFault 37 = .ok (.iadd, 1) := by decide +kernel
theorem dX5_firstFault_38 : decode cX5_firstFault 38 = .ok (.aload_n 0, 1) := by decide +kernel
theorem dX5_firstFault_39 : decode cX5_firstFault 39 = .ok (.getfield 15, 3) := by decide +kernel
theorem dX5_firstFault_42 : decode cX5_firstFault 42 = .ok (.if_icmp .lt 8, 3) := by decide +kernel
theorem dX5_firstFault_45 : decode cX5_firstFault 45 = .ok (.aload_n 0, 1) := by decide +kernel
theorem dX5_firstFault_46 : decode cX5_firstFault 46 = .ok (.getfield 15, 3) := by decide +kernel
theorem dX5_firstFault_49 : decode cX5_firstFault 49 = .ok (.ireturn, 1) := by decide +kernel
theorem dX5_firstFault_50 : decode cX5_firstFault 50 = .ok (.aload_n 0, 1) := by decide +kernel
theorem dX5_firstFault_51 : decode cX5_firstFault 51 = .ok (.iload_n 1, 1) := by decide +kernel
theorem dX5_firstFault_52 : decode cX5_firstFault 52 = .ok (.iload_n 3, 1) := by decide +kernel
theorem dX5_firstFault_53 : decode cX5_firstFault 53 = .ok (.invokevirtual 27, 3) := by decide +kernel
theorem dX5_firstFault_56 : decode cX5_firstFault 56 = .ok (.ifCond .ne 7, 3) := by decide +kernel
theorem dX5_firstFault_59 : decode cX5_firstFault 59 = .ok (.iload_n 1, 1) := by decide +kernel
theorem dX5_firstFault_60 : decode cX5_firstFault 60 = .ok (.iload_n 3, 1) := by decide +kernel
theorem dX5_firstFault_61 : decode cX5_firstFault 61 = .ok (.iadd, 1) := by decide +kernel
theorem dX5_firstFault_62 : decode cX5_firstFault 62 = .ok (.ireturn, 1) := by decide +kernel
theorem dX5_firstFault_63 : decode cX5_firstFault 63 = .ok (.iinc 3 1, 3) := by decide +kernel
theorem dX5_firstFault_66 : decode cX5_firstFault 66 = .ok (.goto (-36), 3) := by decide +kernel
theorem dX5_firstFault_69 : decode cX5_firstFault 69 = .ok (.iload_n 1, 1) := by decide +kernel
theorem dX5_firstFault_70 : decode cX5_firstFault 70 = .ok (.iconst 1, 1) := by decide +kernel
theorem dX5_firstFault_71 : decode cX5_firstFault 71 = .ok (.iload_n 2, 1) := by decide +kernel
theorem dX5_firstFault_72 : decode cX5_firstFault 72 = .ok (.iadd, 1) := by decide +kernel
theorem dX5_firstFault_73 : decode cX5_firstFault 73 = .ok (.iadd, 1) := by decide +kernel
theorem dX5_firstFault_74 : decode cX5_firstFault 74 = .ok (.istore_n 1, 1) := by decide +kernel
theorem dX5_firstFault_75 : decode cX5_firstFault 75 = .ok (.goto (-73), 3) := by decide +kernel
theorem dX5_firstFault_78 : decode cX5_firstFault 78 = .ok (.bipush (-6), 2) := by decide +kernel
theorem dX5_firstFault_80 : decode cX5_firstFault 80 = .ok (.ireturn, 1) := by decide +kernel
theorem dX5_work_0 : decode cX5_work 0 = .ok (.iconst 0, 1) := by decide +kernel
theorem dX5_work_1 : decode cX5_work 1 = .ok (.istore_n 2, 1) := by decide +kernel
theorem dX5_work_2 : decode cX5_work 2 = .ok (.iload_n 2, 1) := by decide +kernel
theorem dX5_work_3 : decode cX5_work 3 = .ok (.aload_n 0, 1) := by decide +kernel
theorem dX5_work_4 : decode cX5_work 4 = .ok (.getfield 15, 3) := by decide +kernel
theorem dX5_work_7 : decode cX5_work 7 = .ok (.if_icmp .ge 30, 3) := by decide +kernel
theorem dX5_work_10 : decode cX5_work 10 = .ok (.aload_n 0, 1) := by decide +kernel
theorem dX5_work_11 : decode cX5_work 11 = .ok (.iload_n 2, 1) := by decide +kernel
theorem dX5_work_12 : decode cX5_work 12 = .ok (.aload_n 1, 1) := by decide +kernel
theorem dX5_work_13 : decode cX5_work 13 = .ok (.invokevirtual 31, 3) := by decide +kernel
theorem dX5_work_16 : decode cX5_work 16 = .ok (.iload_n 2, 1) := by decide +kernel
theorem dX5_work_17 : decode cX5_work 17 = .ok (.iconst 1, 1) := by decide +kernel
theorem dX5_work_18 : decode cX5_work 18 = .ok (.iconst 0, 1) := by decide +kernel
theorem dX5_work_19 : decode cX5_work 19 = .ok (.aload_n 0, 1) := by decide +kernel
theorem dX5_work_20 : decode cX5_work 20 = .ok (.getfield 9, 3) := by decide +kernel
theorem dX5_work_23 : decode cX5_work 23 = .ok (.iload_n 2, 1) := by decide +kernel
theorem dX5_work_24 : decode cX5_work 24 = .ok (.iaload, 1) := by decide +kernel
theorem dX5_work_25 : decode cX5_work 25 = .ok (.invokestatic 23, 3) := by decide +kernel
theorem dX5_work_28 : decode cX5_work 28 = .ok (.invokestatic 35, 3) := by decide +kernel
theorem dX5_work_31 : decode cX5_work 31 = .ok (.iadd, 1) := by decide +kernel
theorem dX5_work_32 : decode cX5_work 32 = .ok (.iadd, 1) := by decide +kernel
theorem dX5_work_33 : decode cX5_work 33 = .ok (.istore_n 2, 1) := by decide +kernel
theorem dX5_work_34 : decode cX5_work 34 = .ok (.goto (-32), 3) := by decide +kernel
theorem dX5_work_37 : decode cX5_work 37 = .ok (.return_, 1) := by decide +kernel
theorem dX5_workOne_0 : decode cX5_workOne 0 = .ok (.aload_n 0, 1) := by decide +kernel
theorem dX5_workOne_1 : decode cX5_workOne 1 = .ok (.getfield 9, 3) := by decide +kernel
theorem dX5_workOne_4 : decode cX5_workOne 4 = .ok (.iload_n 1, 1) := by decide +kernel
theorem dX5_workOne_5 : decode cX5_workOne 5 = .ok (.iaload, 1) := by decide +kernel
theorem dX5_workOne_6 : decode cX5_workOne 6 = .ok (.lookupswitch 120 #[(99, 92), (100, 113), (108, 64), (115, 50), (116, 78)], 50) := by decide +kernel
theorem dX5_workOne_56 : decode cX5_workOne 56 = .ok (.aload_n 2, 1) := by decide +kernel
theorem dX5_workOne_57 : decode cX5_workOne 57 = .ok (.aload_n 0, 1) := by decide +kernel
theorem dX5_workOne_58 : decode cX5_workOne 58 = .ok (.iload_n 1, 1) := by decide +kernel
theorem dX5_workOne_59 : decode cX5_workOne 59 = .ok (.iconst 1, 1) := by decide +kernel
theorem dX5_workOne_60 : decode cX5_workOne 60 = .ok (.iadd, 1) := by decide +kernel
theorem dX5_workOne_61 : decode cX5_workOne 61 = .ok (.invokevirtual 41, 3) := by decide +kernel
theorem dX5_workOne_64 : decode cX5_workOne 64 = .ok (.invokestatic 44, 3) := by decide +kernel
theorem dX5_workOne_67 : decode cX5_workOne 67 = .ok (.goto 59, 3) := by decide +kernel
theorem dX5_workOne_70 : decode cX5_workOne 70 = .ok (.aload_n 2, 1) := by decide +kernel
theorem dX5_workOne_71 : decode cX5_workOne 71 = .ok (.aload_n 0, 1) := by decide +kernel
theorem dX5_workOne_72 : decode cX5_workOne 72 = .ok (.iload_n 1, 1) := by decide +kernel
theorem dX5_workOne_73 : decode cX5_workOne 73 = .ok (.iconst 1, 1) := by decide +kernel
theorem dX5_workOne_74 : decode cX5_workOne 74 = .ok (.iadd, 1) := by decide +kernel
theorem dX5_workOne_75 : decode cX5_workOne 75 = .ok (.invokevirtual 41, 3) := by decide +kernel
theorem dX5_workOne_78 : decode cX5_workOne 78 = .ok (.invokestatic 48, 3) := by decide +kernel
theorem dX5_workOne_81 : decode cX5_workOne 81 = .ok (.goto 45, 3) := by decide +kernel
theorem dX5_workOne_84 : decode cX5_workOne 84 = .ok (.aload_n 2, 1) := by decide +kernel
theorem dX5_workOne_85 : decode cX5_workOne 85 = .ok (.aload_n 0, 1) := by decide +kernel
theorem dX5_workOne_86 : decode cX5_workOne 86 = .ok (.iload_n 1, 1) := by decide +kernel
theorem dX5_workOne_87 : decode cX5_workOne 87 = .ok (.iconst 1, 1) := by decide +kernel
theorem dX5_workOne_88 : decode cX5_workOne 88 = .ok (.iadd, 1) := by decide +kernel
theorem dX5_workOne_89 : decode cX5_workOne 89 = .ok (.invokevirtual 51, 3) := by decide +kernel
theorem dX5_workOne_92 : decode cX5_workOne 92 = .ok (.invokestatic 54, 3) := by decide +kernel
theorem dX5_workOne_95 : decode cX5_workOne 95 = .ok (.goto 31, 3) := by decide +kernel
theorem dX5_workOne_98 : decode cX5_workOne 98 = .ok (.aload_n 2, 1) := by decide +kernel
theorem dX5_workOne_99 : decode cX5_workOne 99 = .ok (.aload_n 0, 1) := by decide +kernel
theorem dX5_workOne_100 : decode cX5_workOne 100 = .ok (.iload_n 1, 1) := by decide +kernel
theorem dX5_workOne_101 : decode cX5_workOne 101 = .ok (.iconst 1, 1) := by decide +kernel
theorem dX5_workOne_102 : decode cX5_workOne 102 = .ok (.iadd, 1) := by decide +kernel
theorem dX5_workOne_103 : decode cX5_workOne 103 = .ok (.invokevirtual 51, 3) := by decide +kernel
theorem dX5_workOne_106 : decode cX5_workOne 106 = .ok (.aload_n 0, 1) := by decide +kernel
theorem dX5_workOne_107 : decode cX5_workOne 107 = .ok (.iload_n 1, 1) := by decide +kernel
theorem dX5_workOne_108 : decode cX5_workOne 108 = .ok (.iconst 3, 1) := by decide +kernel
theorem dX5_workOne_109 : decode cX5_workOne 109 = .ok (.iadd, 1) := by decide +kernel
theorem dX5_workOne_110 : decode cX5_workOne 110 = .ok (.invokevirtual 51, 3) := by decide +kernel
theorem dX5_workOne_113 : decode cX5_workOne 113 = .ok (.invokestatic 57, 3) := by decide +kernel
theorem dX5_workOne_116 : decode cX5_workOne 116 = .ok (.goto 10, 3) := by decide +kernel
theorem dX5_workOne_119 : decode cX5_workOne 119 = .ok (.aload_n 2, 1) := by decide +kernel
theorem dX5_workOne_120 : decode cX5_workOne 120 = .ok (.invokestatic 61, 3) := by decide +kernel
theorem dX5_workOne_123 : decode cX5_workOne 123 = .ok (.goto 3, 3) := by decide +kernel
theorem dX5_workOne_126 : decode cX5_workOne 126 = .ok (.return_, 1) := by decide +kernel
theorem dX5_digitsBehind_0 : decode cX5_digitsBehind 0 = .ok (.iload_n 0, 1) := by decide +kernel
theorem dX5_digitsBehind_1 : decode cX5_digitsBehind 1 = .ok (.lookupswitch 59 #[(99, 57), (100, 51), (108, 53), (115, 53), (116, 55)], 51) := by decide +kernel
theorem dX5_digitsBehind_52 : decode cX5_digitsBehind 52 = .ok (.iconst 0, 1) := by decide +kernel
theorem dX5_digitsBehind_53 : decode cX5_digitsBehind 53 = .ok (.ireturn, 1) := by decide +kernel
theorem dX5_digitsBehind_54 : decode cX5_digitsBehind 54 = .ok (.iconst 1, 1) := by decide +kernel
theorem dX5_digitsBehind_55 : decode cX5_digitsBehind 55 = .ok (.ireturn, 1) := by decide +kernel
theorem dX5_digitsBehind_56 : decode cX5_digitsBehind 56 = .ok (.iconst 2, 1) := by decide +kernel
theorem dX5_digitsBehind_57 : decode cX5_digitsBehind 57 = .ok (.ireturn, 1) := by decide +kernel
theorem dX5_digitsBehind_58 : decode cX5_digitsBehind 58 = .ok (.iconst 4, 1) := by decide +kernel
theorem dX5_digitsBehind_59 : decode cX5_digitsBehind 59 = .ok (.ireturn, 1) := by decide +kernel
theorem dX5_digitsBehind_60 : decode cX5_digitsBehind 60 = .ok (.bipush (-6), 2) := by decide +kernel
theorem dX5_digitsBehind_62 : decode cX5_digitsBehind 62 = .ok (.ireturn, 1) := by decide +kernel
theorem dX5_digitAt_0 : decode cX5_digitAt 0 = .ok (.iload_n 1, 1) := by decide +kernel
theorem dX5_digitAt_1 : decode cX5_digitAt 1 = .ok (.ifCond .lt 27, 3) := by decide +kernel
theorem dX5_digitAt_4 : decode cX5_digitAt 4 = .ok (.iload_n 1, 1) := by decide +kernel
theorem dX5_digitAt_5 : decode cX5_digitAt 5 = .ok (.aload_n 0, 1) := by decide +kernel
theorem dX5_digitAt_6 : decode cX5_digitAt 6 = .ok (.getfield 15, 3) := by decide +kernel
theorem dX5_digitAt_9 : decode cX5_digitAt 9 = .ok (.if_icmp .ge 19, 3) := by decide +kernel
theorem dX5_digitAt_12 : decode cX5_digitAt 12 = .ok (.aload_n 0, 1) := by decide +kernel
theorem dX5_digitAt_13 : decode cX5_digitAt 13 = .ok (.getfield 9, 3) := by decide +kernel
theorem dX5_digitAt_16 : decode cX5_digitAt 16 = .ok (.iload_n 1, 1) := by decide +kernel
theorem dX5_digitAt_17 : decode cX5_digitAt 17 = .ok (.iaload, 1) := by decide +kernel
theorem dX5_digitAt_18 : decode cX5_digitAt 18 = .ok (.bipush 48, 2) := by decide +kernel
theorem dX5_digitAt_20 : decode cX5_digitAt 20 = .ok (.bipush 57, 2) := by decide +kernel
theorem dX5_digitAt_22 : decode cX5_digitAt 22 = .ok (.invokestatic 65, 3) := by decide +kernel
theorem dX5_digitAt_25 : decode cX5_digitAt 25 = .ok (.ifCond .ne 6, 3) := by decide +kernel
theorem dX5_digitAt_28 : decode cX5_digitAt 28 = .ok (.bipush (-6), 2) := by decide +kernel
theorem dX5_digitAt_30 : decode cX5_digitAt 30 = .ok (.ireturn, 1) := by decide +kernel
theorem dX5_digitAt_31 : decode cX5_digitAt 31 = .ok (.aload_n 0, 1) := by decide +kernel
theorem dX5_digitAt_32 : decode cX5_digitAt 32 = .ok (.getfield 9, 3) := by decide +kernel
theorem dX5_digitAt_35 : decode cX5_digitAt 35 = .ok (.iload_n 1, 1) := by decide +kernel
theorem dX5_digitAt_36 : decode cX5_digitAt 36 = .ok (.iaload, 1) := by decide +kernel
theorem dX5_digitAt_37 : decode cX5_digitAt 37 = .ok (.bipush 48, 2) := by decide +kernel
theorem dX5_digitAt_39 : decode cX5_digitAt 39 = .ok (.isub, 1) := by decide +kernel
theorem dX5_digitAt_40 : decode cX5_digitAt 40 = .ok (.ireturn, 1) := by decide +kernel
theorem dX5_twoDigitsAt_0 : decode cX5_twoDigitsAt 0 = .ok (.bipush 10, 2) := by decide +kernel
theorem dX5_twoDigitsAt_2 : decode cX5_twoDigitsAt 2 = .ok (.aload_n 0, 1) := by decide +kernel
theorem dX5_twoDigitsAt_3 : decode cX5_twoDigitsAt 3 = .ok (.iload_n 1, 1) := by decide +kernel
theorem dX5_twoDigitsAt_4 : decode cX5_twoDigitsAt 4 = .ok (.invokevirtual 41, 3) := by decide +kernel
theorem dX5_twoDigitsAt_7 : decode cX5_twoDigitsAt 7 = .ok (.imul, 1) := by decide +kernel
theorem dX5_twoDigitsAt_8 : decode cX5_twoDigitsAt 8 = .ok (.aload_n 0, 1) := by decide +kernel
theorem dX5_twoDigitsAt_9 : decode cX5_twoDigitsAt 9 = .ok (.iload_n 1, 1) := by decide +kernel
theorem dX5_twoDigitsAt_10 : decode cX5_twoDigitsAt 10 = .ok (.iconst 1, 1) := by decide +kernel
theorem dX5_twoDigitsAt_11 : decode cX5_twoDigitsAt 11 = .ok (.iadd, 1) := by decide +kernel
theorem dX5_twoDigitsAt_12 : decode cX5_twoDigitsAt 12 = .ok (.invokevirtual 41, 3) := by decide +kernel
theorem dX5_twoDigitsAt_15 : decode cX5_twoDigitsAt 15 = .ok (.iadd, 1) := by decide +kernel
theorem dX5_twoDigitsAt_16 : decode cX5_twoDigitsAt 16 = .ok (.ireturn, 1) := by decide +kernel
theorem dX5_canStand_0 : decode cX5_canStand 0 = .ok (.aload_n 0, 1) := by decide +kernel
theorem dX5_canStand_1 : decode cX5_canStand 1 = .ok (.iload_n 1, 1) := by decide +kernel
theorem dX5_canStand_2 : decode cX5_canStand 2 = .ok (.iload_n 2, 1) := by decide +kernel
theorem dX5_canStand_3 : decode cX5_canStand 3 = .ok (.iadd, 1) := by decide +kernel
theorem dX5_canStand_4 : decode cX5_canStand 4 = .ok (.invokevirtual 41, 3) := by decide +kernel
theorem dX5_canStand_7 : decode cX5_canStand 7 = .ok (.istore_n 3, 1) := by decide +kernel
theorem dX5_canStand_8 : decode cX5_canStand 8 = .ok (.iload_n 3, 1) := by decide +kernel
theorem dX5_canStand_9 : decode cX5_canStand 9 = .ok (.bipush (-6), 2) := by decide +kernel
theorem dX5_canStand_11 : decode cX5_canStand 11 = .ok (.if_icmp .ne 5, 3) := by decide +kernel
theorem dX5_canStand_14 : decode cX5_canStand 14 = .ok (.iconst 0, 1) := by decide +kernel
theorem dX5_canStand_15 : decode cX5_canStand 15 = .ok (.ireturn, 1) := by decide +kernel
theorem dX5_canStand_16 : decode cX5_canStand 16 = .ok (.aload_n 0, 1) := by decide +kernel
theorem dX5_canStand_17 : decode cX5_canStand 17 = .ok (.getfield 9, 3) := by decide +kernel
theorem dX5_canStand_20 : decode cX5_canStand 20 = .ok (.iload_n 1, 1) := by decide +kernel
theorem dX5_canStand_21 : decode cX5_canStand 21 = .ok (.iaload, 1) := by decide +kernel
theorem dX5_canStand_22 : decode cX5_canStand 22 = .ok (.lookupswitch 44 #[(108, 33), (115, 26)], 26) := by decide +kernel
theorem dX5_canStand_48 : decode cX5_canStand 48 = .ok (.iload_n 3, 1) := by decide +kernel
theorem dX5_canStand_49 : decode cX5_canStand 49 = .ok (.iconst 2, 1) := by decide +kernel
theorem dX5_canStand_50 : decode cX5_canStand 50 = .ok (.iconst 5, 1) := by decide +kernel
theorem dX5_canStand_51 : decode cX5_canStand 51 = .ok (.invokestatic 65, 3) := by decide +kernel
theorem dX5_canStand_54 : decode cX5_canStand 54 = .ok (.ireturn, 1) := by decide +kernel
theorem dX5_canStand_55 : decode cX5_canStand 55 = .ok (.iload_n 3, 1) := by decide +kernel
theorem dX5_canStand_56 : decode cX5_canStand 56 = .ok (.iconst 1, 1) := by decide +kernel
theorem dX5_canStand_57 : decode cX5_canStand 57 = .ok (.if_icmp .lt 7, 3) := by decide +kernel
theorem dX5_canStand_60 : decode cX5_canStand 60 = .ok (.iconst 1, 1) := by decide +kernel
theorem dX5_canStand_61 : decode cX5_canStand 61 = .ok (.goto 4, 3) := by decide +kernel
theorem dX5_canStand_64 : decode cX5_canStand 64 = .ok (.iconst 0, 1) := by decide +kernel
theorem dX5_canStand_65 : decode cX5_canStand 65 = .ok (.ireturn, 1) := by decide +kernel
theorem dX5_canStand_66 : decode cX5_canStand 66 = .ok (.aload_n 0, 1) := by decide +kernel
theorem dX5_canStand_67 : decode cX5_canStand 67 = .ok (.iload_n 1, 1) := by decide +kernel
theorem dX5_canStand_68 : decode cX5_canStand 68 = .ok (.iload_n 2, 1) := by decide +kernel
theorem dX5_canStand_69 : decode cX5_canStand 69 = .ok (.iload_n 3, 1) := by decide +kernel
theorem dX5_canStand_70 : decode cX5_canStand 70 = .ok (.invokevirtual 69, 3) := by decide +kernel
theorem dX5_canStand_73 : decode cX5_canStand 73 = .ok (.ireturn, 1) := by decide +kernel
theorem dX5_canStandInYear_0 : decode cX5_canStandInYear 0 = .ok (.iload_n 2, 1) := by decide +kernel
theorem dX5_canStandInYear_1 : decode cX5_canStandInYear 1 = .ok (.iconst 2, 1) := by decide +kernel
theorem dX5_canStandInYear_2 : decode cX5_canStandInYear 2 = .ok (.if_icmp .le 13, 3) := by decide +kernel
theorem dX5_canStandInYear_5 : decode cX5_canStandInYear 5 = .ok (.aload_n 0, 1) := by decide +kernel
theorem dX5_canStandInYear_6 : decode cX5_canStandInYear 6 = .ok (.iload_n 1, 1) := by decide +kernel
theorem dX5_canStandInYear_7 : decode cX5_canStandInYear 7 = .ok (.iconst 1, 1) := by decide +kernel
theorem dX5_canStandInYear_8 : decode cX5_canStandInYear 8 = .ok (.iadd, 1) := by decide +kernel
theorem dX5_canStandInYear_9 : decode cX5_canStandInYear 9 = .ok (.invokevirtual 51, 3) := by decide +kernel
theorem dX5_canStandInYear_12 : decode cX5_canStandInYear 12 = .ok (.goto 4, 3) := by decide +kernel
theorem dX5_canStandInYear_15 : decode cX5_canStandInYear 15 = .ok (.iconst 0, 1) := by decide +kernel
theorem dX5_canStandInYear_16 : decode cX5_canStandInYear 16 = .ok (.istore 4, 2) := by decide +kernel
theorem dX5_canStandInYear_18 : decode cX5_canStandInYear 18 = .ok (.iload_n 2, 1) := by decide +kernel
theorem dX5_canStandInYear_19 : decode cX5_canStandInYear 19 = .ok (.iconst 2, 1) := by decide +kernel
theorem dX5_canStandInYear_20 : decode cX5_canStandInYear 20 = .ok (.irem, 1) := by decide +kernel
theorem dX5_canStandInYear_21 : decode cX5_canStandInYear 21 = .ok (.iconst 1, 1) := by decide +kernel
theorem dX5_canStandInYear_22 : decode cX5_canStandInYear 22 = .ok (.if_icmp .ne 30, 3) := by decide +kernel
theorem dX5_canStandInYear_25 : decode cX5_canStandInYear 25 = .ok (.bipush 10, 2) := by decide +kernel
theorem dX5_canStandInYear_27 : decode cX5_canStandInYear 27 = .ok (.iload_n 3, 1) := by decide +kernel
theorem dX5_canStandInYear_28 : decode cX5_canStandInYear 28 = .ok (.imul, 1) := by decide +kernel
theorem dX5_canStandInYear_29 : decode cX5_canStandInYear 29 = .ok (.bipush 24, 2) := by decide +kernel
theorem dX5_canStandInYear_31 : decode cX5_canStandInYear 31 = .ok (.if_icmp .ge 19, 3) := by decide +kernel
theorem dX5_canStandInYear_34 : decode cX5_canStandInYear 34 = .ok (.bipush 10, 2) := by decide +kernel
theorem dX5_canStandInYear_36 : decode cX5_canStandInYear 36 = .ok (.iload_n 3, 1) := by decide +kernel
theorem dX5_canStandInYear_37 : decode cX5_canStandInYear 37 = .ok (.imul, 1) := by decide +kernel
theorem dX5_canStandInYear_38 : decode cX5_canStandInYear 38 = .ok (.bipush 9, 2) := by decide +kernel
theorem dX5_canStandInYear_40 : decode cX5_canStandInYear 40 = .ok (.iadd, 1) := by decide +kernel
theorem dX5_canStandInYear_41 : decode cX5_canStandInYear 41 = .ok (.iload 4, 2) := by decide +kernel
theorem dX5_canStandInYear_43 : decode cX5_canStandInYear 43 = .ok (.if_icmp .lt 7, 3) := by decide +kernel
theorem dX5_canStandInYear_46 : decode cX5_canStandInYear 46 = .ok (.iconst 1, 1) := by decide +kernel
theorem dX5_canStandInYear_47 : decode cX5_canStandInYear 47 = .ok (.goto 4, 3) := by decide +kernel
theorem dX5_canStandInYear_50 : decode cX5_canStandInYear 50 = .ok (.iconst 0, 1) := by decide +kernel
theorem dX5_canStandInYear_51 : decode cX5_canStandInYear 51 = .ok (.ireturn, 1) := by decide +kernel
theorem dX5_canStandInYear_52 : decode cX5_canStandInYear 52 = .ok (.bipush 10, 2) := by decide +kernel
theorem dX5_canStandInYear_54 : decode cX5_canStandInYear 54 = .ok (.aload_n 0, 1) := by decide +kernel
theorem dX5_canStandInYear_55 : decode cX5_canStandInYear 55 = .ok (.iload_n 1, 1) := by decide +kernel
theorem dX5_canStandInYear_56 : decode cX5_canStandInYear 56 = .ok (.iload_n 2, 1) := by decide +kernel
theorem dX5_canStandInYear_57 : decode cX5_canStandInYear 57 = .ok (.iadd, 1) := by decide +kernel
theorem dX5_canStandInYear_58 : decode cX5_canStandInYear 58 = .ok (.iconst 1, 1) := by decide +kernel
theorem dX5_canStandInYear_59 : decode cX5_canStandInYear 59 = .ok (.isub, 1) := by decide +kernel
theorem dX5_canStandInYear_60 : decode cX5_canStandInYear 60 = .ok (.invokevirtual 41, 3) := by decide +kernel
theorem dX5_canStandInYear_63 : decode cX5_canStandInYear 63 = .ok (.imul, 1) := by decide +kernel
theorem dX5_canStandInYear_64 : decode cX5_canStandInYear 64 = .ok (.iload_n 3, 1) := by decide +kernel
theorem dX5_canStandInYear_65 : decode cX5_canStandInYear 65 = .ok (.iadd, 1) := by decide +kernel
theorem dX5_canStandInYear_66 : decode cX5_canStandInYear 66 = .ok (.iload 4, 2) := by decide +kernel
theorem dX5_canStandInYear_68 : decode cX5_canStandInYear 68 = .ok (.bipush 23, 2) := by decide +kernel
theorem dX5_canStandInYear_70 : decode cX5_canStandInYear 70 = .ok (.invokestatic 65, 3) := by decide +kernel
theorem dX5_canStandInYear_73 : decode cX5_canStandInYear 73 = .ok (.ireturn, 1) := by decide +kernel
theorem dX5_smooth_0 : decode cX5_smooth 0 = .ok (.bipush 23, 2) := by decide +kernel
theorem dX5_smooth_2 : decode cX5_smooth 2 = .ok (.istore_n 2, 1) := by decide +kernel
theorem dX5_smooth_3 : decode cX5_smooth 3 = .ok (.iload_n 2, 1) := by decide +kernel
theorem dX5_smooth_4 : decode cX5_smooth 4 = .ok (.ifCond .lt 66, 3) := by decide +kernel
theorem dX5_smooth_7 : decode cX5_smooth 7 = .ok (.iconst 0, 1) := by decide +kernel
theorem dX5_smooth_8 : decode cX5_smooth 8 = .ok (.istore_n 3, 1) := by decide +kernel
theorem dX5_smooth_9 : decode cX5_smooth 9 = .ok (.iconst 0, 1) := by decide +kernel
theorem dX5_smooth_10 : decode cX5_smooth 10 = .ok (.istore 4, 2) := by decide +kernel
theorem dX5_smooth_12 : decode cX5_smooth 12 = .ok (.iload 4, 2) := by decide +kernel
theorem dX5_smooth_14 : decode cX5_smooth 14 = .ok (.iload_n 1, 1) := by decide +kernel
theorem dX5_smooth_15 : decode cX5_smooth 15 = .ok (.if_icmp .ge 42, 3) := by decide +kernel
theorem dX5_smooth_18 : decode cX5_smooth 18 = .ok (.iload_n 3, 1) := by decide +kernel
theorem dX5_smooth_19 : decode cX5_smooth 19 = .ok (.ldc 72, 2) := by decide +kernel
theorem dX5_smooth_21 : decode cX5_smooth 21 = .ok (.if_icmp .eq 36, 3) := by decide +kernel
theorem dX5_smooth_24 : decode cX5_smooth 24 = .ok (.aload_n 0, 1) := by decide +kernel
theorem dX5_smooth_25 : decode cX5_smooth 25 = .ok (.iload_n 2, 1) := by decide +kernel
theorem dX5_smooth_26 : decode cX5_smooth 26 = .ok (.iload 4, 2) := by decide +kernel
theorem dX5_smooth_28 : decode cX5_smooth 28 = .ok (.isub, 1) := by decide +kernel
theorem dX5_smooth_29 : decode cX5_smooth 29 = .ok (.invokestatic 73, 3) := by decide +kernel
theorem dX5_smooth_32 : decode cX5_smooth 32 = .ok (.istore 5, 2) := by decide +kernel
theorem dX5_smooth_34 : decode cX5_smooth 34 = .ok (.iload 5, 2) := by decide +kernel
theorem dX5_smooth_36 : decode cX5_smooth 36 = .ok (.ldc 72, 2) := by decide +kernel
theorem dX5_smooth_38 : decode cX5_smooth 38 = .ok (.if_icmp .ne 8, 3) := by decide +kernel
theorem dX5_smooth_41 : decode cX5_smooth 41 = .ok (.ldc 72, 2) := by decide +kernel
theorem dX5_smooth_43 : decode cX5_smooth 43 = .ok (.goto 7, 3) := by decide +kernel
theorem dX5_smooth_46 : decode cX5_smooth 46 = .ok (.iload_n 3, 1) := by decide +kernel
theorem dX5_smooth_47 : decode cX5_smooth 47 = .ok (.iload 5, 2) := by decide +kernel
theorem dX5_smooth_49 : decode cX5_smooth 49 = .ok (.iadd, 1) := by decide +kernel
theorem dX5_smooth_50 : decode cX5_smooth 50 = .ok (.istore_n 3, 1) := by decide +kernel
theorem dX5_smooth_51 : decode cX5_smooth 51 = .ok (.iinc 4 1, 3) := by decide +kernel
theorem dX5_smooth_54 : decode cX5_smooth 54 = .ok (.goto (-42), 3) := by decide +kernel
theorem dX5_smooth_57 : decode cX5_smooth 57 = .ok (.aload_n 0, 1) := by decide +kernel
theorem dX5_smooth_58 : decode cX5_smooth 58 = .ok (.iload_n 2, 1) := by decide +kernel
theorem dX5_smooth_59 : decode cX5_smooth 59 = .ok (.iload_n 3, 1) := by decide +kernel
theorem dX5_smooth_60 : decode cX5_smooth 60 = .ok (.invokestatic 77, 3) := by decide +kernel
theorem dX5_smooth_63 : decode cX5_smooth 63 = .ok (.iastore, 1) := by decide +kernel
theorem dX5_smooth_64 : decode cX5_smooth 64 = .ok (.iinc 2 (-1), 3) := by decide +kernel
theorem dX5_smooth_67 : decode cX5_smooth 67 = .ok (.goto (-64), 3) := by decide +kernel
theorem dX5_smooth_70 : decode cX5_smooth 70 = .ok (.return_, 1) := by decide +kernel
theorem dX5_lag_0 : decode cX5_lag 0 = .ok (.bipush 23, 2) := by decide +kernel
theorem dX5_lag_2 : decode cX5_lag 2 = .ok (.istore_n 2, 1) := by decide +kernel
theorem dX5_lag_3 : decode cX5_lag 3 = .ok (.iload_n 2, 1) := by decide +kernel
theorem dX5_lag_4 : decode cX5_lag 4 = .ok (.ifCond .lt 19, 3) := by decide +kernel
theorem dX5_lag_7 : decode cX5_lag 7 = .ok (.aload_n 0, 1) := by decide +kernel
theorem dX5_lag_8 : decode cX5_lag 8 = .ok (.iload_n 2, 1) := by decide +kernel
theorem dX5_lag_9 : decode cX5_lag 9 = .ok (.aload_n 0, 1) := by decide +kernel
theorem dX5_lag_10 : decode cX5_lag 10 = .ok (.iload_n 2, 1) := by decide +kernel
theorem dX5_lag_11 : decode cX5_lag 11 = .ok (.iload_n 1, 1) := by decide +kernel
theorem dX5_lag_12 : decode cX5_lag 12 = .ok (.isub, 1) := by decide +kernel
theorem dX5_lag_13 : decode cX5_lag 13 = .ok (.invokestatic 73, 3) := by decide +kernel
theorem dX5_lag_16 : decode cX5_lag 16 = .ok (.iastore, 1) := by decide +kernel
theorem dX5_lag_17 : decode cX5_lag 17 = .ok (.iinc 2 (-1), 3) := by decide +kernel
theorem dX5_lag_20 : decode cX5_lag 20 = .ok (.goto (-17), 3) := by decide +kernel
theorem dX5_lag_23 : decode cX5_lag 23 = .ok (.return_, 1) := by decide +kernel
theorem dX5_turn_0 : decode cX5_turn 0 = .ok (.iconst 0, 1) := by decide +kernel
theorem dX5_turn_1 : decode cX5_turn 1 = .ok (.iload_n 1, 1) := by decide +kernel
theorem dX5_turn_2 : decode cX5_turn 2 = .ok (.invokestatic 35, 3) := by decide +kernel
theorem dX5_turn_5 : decode cX5_turn 5 = .ok (.istore_n 2, 1) := by decide +kernel
theorem dX5_turn_6 : decode cX5_turn 6 = .ok (.iload_n 2, 1) := by decide +kernel
theorem dX5_turn_7 : decode cX5_turn 7 = .ok (.bipush 24, 2) := by decide +kernel
theorem dX5_turn_9 : decode cX5_turn 9 = .ok (.if_icmp .ge 24, 3) := by decide +kernel
theorem dX5_turn_12 : decode cX5_turn 12 = .ok (.aload_n 0, 1) := by decide +kernel
theorem dX5_turn_13 : decode cX5_turn 13 = .ok (.iload_n 2, 1) := by decide +kernel
theorem dX5_turn_14 : decode cX5_turn 14 = .ok (.iaload, 1) := by decide +kernel
theorem dX5_turn_15 : decode cX5_turn 15 = .ok (.ldc 72, 2) := by decide +kernel
theorem dX5_turn_17 : decode cX5_turn 17 = .ok (.if_icmp .eq 10, 3) := by decide +kernel
theorem dX5_turn_20 : decode cX5_turn 20 = .ok (.aload_n 0, 1) := by decide +kernel
theorem dX5_turn_21 : decode cX5_turn 21 = .ok (.iload_n 2, 1) := by decide +kernel
theorem dX5_turn_22 : decode cX5_turn 22 = .ok (.aload_n 0, 1) := by decide +kernel
theorem dX5_turn_23 : decode cX5_turn 23 = .ok (.iload_n 2, 1) := by decide +kernel
theorem dX5_turn_24 : decode cX5_turn 24 = .ok (.iaload, 1) := by decide +kernel
theorem dX5_turn_25 : decode cX5_turn 25 = .ok (.ineg, 1) := by decide +kernel
theorem dX5_turn_26 : decode cX5_turn 26 = .ok (.iastore, 1) := by decide +kernel
theorem dX5_turn_27 : decode cX5_turn 27 = .ok (.iinc 2 1, 3) := by decide +kernel
theorem dX5_turn_30 : decode cX5_turn 30 = .ok (.goto (-24), 3) := by decide +kernel
theorem dX5_turn_33 : decode cX5_turn 33 = .ok (.return_, 1) := by decide +kernel
theorem dX5_cut_0 : decode cX5_cut 0 = .ok (.iconst 0, 1) := by decide +kernel
theorem dX5_cut_1 : decode cX5_cut 1 = .ok (.istore_n 3, 1) := by decide +kernel
theorem dX5_cut_2 : decode cX5_cut 2 = .ok (.iload_n 3, 1) := by decide +kernel
theorem dX5_cut_3 : decode cX5_cut 3 = .ok (.bipush 24, 2) := by decide +kernel
theorem dX5_cut_5 : decode cX5_cut 5 = .ok (.if_icmp .ge 23, 3) := by decide +kernel
theorem dX5_cut_8 : decode cX5_cut 8 = .ok (.iload_n 3, 1) := by decide +kernel
theorem dX5_cut_9 : decode cX5_cut 9 = .ok (.iload_n 1, 1) := by decide +kernel
theorem dX5_cut_10 : decode cX5_cut 10 = .ok (.iload_n 2, 1) := by decide +kernel
theorem dX5_cut_11 : decode cX5_cut 11 = .ok (.invokestatic 65, 3) := by decide +kernel
theorem dX5_cut_14 : decode cX5_cut 14 = .ok (.ifCond .ne 8, 3) := by decide +kernel
theorem dX5_cut_17 : decode cX5_cut 17 = .ok (.aload_n 0, 1) := by decide +kernel
theorem dX5_cut_18 : decode cX5_cut 18 = .ok (.iload_n 3, 1) := by decide +kernel
theorem dX5_cut_19 : decode cX5_cut 19 = .ok (.ldc 72, 2) := by decide +kernel
theorem dX5_cut_21 : decode cX5_cut 21 = .ok (.iastore, 1) := by decide +kernel
theorem dX5_cut_22 : decode cX5_cut 22 = .ok (.iinc 3 1, 3) := by decide +kernel
theorem dX5_cut_25 : decode cX5_cut 25 = .ok (.goto (-23), 3) := by decide +kernel
theorem dX5_cut_28 : decode cX5_cut 28 = .ok (.return_, 1) := by decide +kernel
theorem dX5_differ_0 : decode cX5_differ 0 = .ok (.bipush 23, 2) := by decide +kernel
theorem dX5_differ_2 : decode cX5_differ 2 = .ok (.istore_n 1, 1) := by decide +kernel
theorem dX5_differ_3 : decode cX5_differ 3 = .ok (.iload_n 1, 1) := by decide +kernel
theorem dX5_differ_4 : decode cX5_differ 4 = .ok (.ifCond .lt 57, 3) := by decide +kernel
theorem dX5_differ_7 : decode cX5_differ 7 = .ok (.aload_n 0, 1) := by decide +kernel
theorem dX5_differ_8 : decode cX5_differ 8 = .ok (.iload_n 1, 1) := by decide +kernel
theorem dX5_differ_9 : decode cX5_differ 9 = .ok (.iconst 1, 1) := by decide +kernel
theorem dX5_differ_10 : decode cX5_differ 10 = .ok (.isub, 1) := by decide +kernel
theorem dX5_differ_11 : decode cX5_differ 11 = .ok (.invokestatic 73, 3) := by decide +kernel
theorem dX5_differ_14 : decode cX5_differ 14 = .ok (.istore_n 2, 1) := by decide +kernel
theorem dX5_differ_15 : decode cX5_differ 15 = .ok (.aload_n 0, 1) := by decide +kernel
theorem dX5_differ_16 : decode cX5_differ 16 = .ok (.iload_n 1, 1) := by decide +kernel
theorem dX5_differ_17 : decode cX5_differ 17 = .ok (.iaload, 1) := by decide +kernel
theorem dX5_differ_18 : decode cX5_differ 18 = .ok (.ldc 72, 2) := by decide +kernel
theorem dX5_differ_20 : decode cX5_differ 20 = .ok (.if_icmp .eq 13, 3) := by decide +kernel
theorem dX5_differ_23 : decode cX5_differ 23 = .ok (.iload_n 2, 1) := by decide +kernel
theorem dX5_differ_24 : decode cX5_differ 24 = .ok (.ldc 72, 2) := by decide +kernel
theorem dX5_differ_26 : decode cX5_differ 26 = .ok (.if_icmp .eq 7, 3) := by decide +kernel
theorem dX5_differ_29 : decode cX5_differ 29 = .ok (.iconst 1, 1) := by decide +kernel
theorem dX5_differ_30 : decode cX5_differ 30 = .ok (.goto 4, 3) := by decide +kernel
theorem dX5_differ_33 : decode cX5_differ 33 = .ok (.iconst 0, 1) := by decide +kernel
theorem dX5_differ_34 : decode cX5_differ 34 = .ok (.istore_n 3, 1) := by decide +kernel
theorem dX5_differ_35 : decode cX5_differ 35 = .ok (.aload_n 0, 1) := by decide +kernel
theorem dX5_differ_36 : decode cX5_differ 36 = .ok (.iload_n 1, 1) := by decide +kernel
theorem dX5_differ_37 : decode cX5_differ 37 = .ok (.iload_n 3, 1) := by decide +kernel
theorem dX5_differ_38 : decode cX5_differ 38 = .ok (.ifCond .eq 14, 3) := by decide +kernel
theorem dX5_differ_41 : decode cX5_differ 41 = .ok (.aload_n 0, 1) := by decide +kernel
theorem dX5_differ_42 : decode cX5_differ 42 = .ok (.iload_n 1, 1) := by decide +kernel
theorem dX5_differ_43 : decode cX5_differ 43 = .ok (.iaload, 1) := by decide +kernel
theorem dX5_differ_44 : decode cX5_differ 44 = .ok (.iload_n 2, 1) := by decide +kernel
theorem dX5_differ_45 : decode cX5_differ 45 = .ok (.isub, 1) := by decide +kernel
theorem dX5_differ_46 : decode cX5_differ 46 = .ok (.invokestatic 77, 3) := by decide +kernel
theorem dX5_differ_49 : decode cX5_differ 49 = .ok (.goto 5, 3) := by decide +kernel
theorem dX5_differ_52 : decode cX5_differ 52 = .ok (.ldc 72, 2) := by decide +kernel
theorem dX5_differ_54 : decode cX5_differ 54 = .ok (.iastore, 1) := by decide +kernel
theorem dX5_differ_55 : decode cX5_differ 55 = .ok (.iinc 1 (-1), 3) := by decide +kernel
theorem dX5_differ_58 : decode cX5_differ 58 = .ok (.goto (-55), 3) := by decide +kernel
theorem dX5_differ_61 : decode cX5_differ 61 = .ok (.return_, 1) := by decide +kernel
theorem dX5_numberAt_0 : decode cX5_numberAt 0 = .ok (.iload_n 1, 1) := by decide +kernel
theorem dX5_numberAt_1 : decode cX5_numberAt 1 = .ok (.invokestatic 80, 3) := by decide +kernel
theorem dX5_numberAt_4 : decode cX5_numberAt 4 = .ok (.ifCond .eq 9, 3) := by decide +kernel
theorem dX5_numberAt_7 : decode cX5_numberAt 7 = .ok (.aload_n 0, 1) := by decide +kernel
theorem dX5_numberAt_8 : decode cX5_numberAt 8 = .ok (.iload_n 1, 1) := by decide +kernel
theorem dX5_numberAt_9 : decode cX5_numberAt 9 = .ok (.iaload, 1) := by decide +kernel
theorem dX5_numberAt_10 : decode cX5_numberAt 10 = .ok (.goto 5, 3) := by decide +kernel
theorem dX5_numberAt_13 : decode cX5_numberAt 13 = .ok (.ldc 72, 2) := by decide +kernel
theorem dX5_numberAt_15 : decode cX5_numberAt 15 = .ok (.ireturn, 1) := by decide +kernel
theorem dX5_hold_0 : decode cX5_hold 0 = .ok (.iload_n 0, 1) := by decide +kernel
theorem dX5_hold_1 : decode cX5_hold 1 = .ok (.ldc 72, 2) := by decide +kernel
theorem dX5_hold_3 : decode cX5_hold 3 = .ok (.if_icmp .ne 8, 3) := by decide +kernel
theorem dX5_hold_6 : decode cX5_hold 6 = .ok (.ldc 72, 2) := by decide +kernel
theorem dX5_hold_8 : decode cX5_hold 8 = .ok (.goto 16, 3) := by decide +kernel
theorem dX5_hold_11 : decode cX5_hold 11 = .ok (.sipush (-999), 3) := by decide +kernel
theorem dX5_hold_14 : decode cX5_hold 14 = .ok (.sipush 999, 3) := by decide +kernel
theorem dX5_hold_17 : decode cX5_hold 17 = .ok (.iload_n 0, 1) := by decide +kernel
theorem dX5_hold_18 : decode cX5_hold 18 = .ok (.invokestatic 84, 3) := by decide +kernel
theorem dX5_hold_21 : decode cX5_hold 21 = .ok (.invokestatic 35, 3) := by decide +kernel
theorem dX5_hold_24 : decode cX5_hold 24 = .ok (.ireturn, 1) := by decide +kernel
theorem dX6_init_0 : decode cX6_init 0 = .ok (.aload_n 0, 1) := by decide +kernel
theorem dX6_init_1 : decode cX6_init 1 = .ok (.invokespecial 3, 3) := by decide +kernel
theorem dX6_init_4 : decode cX6_init 4 = .ok (.aload_n 0, 1) := by decide +kernel
theorem dX6_init_5 : decode cX6_init 5 = .ok (.bipush 8, 2) := by decide +kernel
theorem dX6_init_7 : decode cX6_init 7 = .ok (.newarray .int, 2) := by decide +kernel
theorem dX6_init_9 : decode cX6_init 9 = .ok (.putfield 9, 3) := by decide +kernel
theorem dX6_init_12 : decode cX6_init 12 = .ok (.aload_n 0, 1) := by decide +kernel
theorem dX6_init_13 : decode cX6_init 13 = .ok (.bipush 50, 2) := by decide +kernel
theorem dX6_init_15 : decode cX6_init 15 = .ok (.putfield 15, 3) := by decide +kernel
theorem dX6_init_18 : decode cX6_init 18 = .ok (.return_, 1) := by decide +kernel
theorem dX6_believing_0 : decode cX6_believing 0 = .ok (.iconst 0, 1) := by decide +kernel
theorem dX6_believing_1 : decode cX6_believing 1 = .ok (.istore_n 3, 1) := by decide +kernel
theorem dX6_believing_2 : decode cX6_believing 2 = .ok (.iconst 0, 1) := by decide +kernel
theorem dX6_believing_3 : decode cX6_believing 3 = .ok (.istore 4, 2) := by decide +kernel
theorem dX6_believing_5 : decode cX6_believing 5 = .ok (.iload 4, 2) := by decide +kernel
theorem dX6_believing_7 : decode cX6_believing 7 = .ok (.bipush 8, 2) := by decide +kernel
theorem dX6_believing_9 : decode cX6_believing 9 = .ok (.if_icmp .ge 46, 3) := by decide +kernel
theorem dX6_believing_12 : decode cX6_believing 12 = .ok (.aload_n 0, 1) := by decide +kernel
theorem dX6_believing_13 : decode cX6_believing 13 = .ok (.getfield 9, 3) := by decide +kernel
theorem dX6_believing_16 : decode cX6_believing 16 = .ok (.iload 4, 2) := by decide +kernel
theorem dX6_believing_18 : decode cX6_believing 18 = .ok (.iaload, 1) := by decide +kernel
theorem dX6_believing_19 : decode cX6_believing 19 = .ok (.iload_n 1, 1) := by decide +kernel
theorem dX6_believing_20 : decode cX6_believing 20 = .ok (.iand, 1) := by decide +kernel
theorem dX6_believing_21 : decode cX6_believing 21 = .ok (.istore 5, 2) := by decide +kernel
theorem dX6_believing_23 : decode cX6_believing 23 = .ok (.iload 5, 2) := by decide +kernel
theorem dX6_believing_25 : decode cX6_believing 25 = .ok (.iload_n 2, 1) := by decide +kernel
theorem dX6_believing_26 : decode cX6_believing 26 = .ok (.iand, 1) := by decide +kernel
theorem dX6_believing_27 : decode cX6_believing 27 = .ok (.invokestatic 19, 3) := by decide +kernel
theorem dX6_believing_30 : decode cX6_believing 30 = .ok (.iload 5, 2) := by decide +kernel
theorem dX6_believing_32 : decode cX6_believing 32 = .ok (.iload_n 2, 1) := by decide +kernel
theorem dX6_believing_33 : decode cX6_believing 33 = .ok (.iconst (-1), 1) := by decide +kernel
theorem dX6_believing_34 : decode cX6_believing 34 = .ok (.ixor, 1) := by decide +kernel
theorem dX6_believing_35 : decode cX6_believing 35 = .ok (.iand, 1) := by decide +kernel
theorem dX6_believing_36 : decode cX6_believing 36 = .ok (.invokestatic 19, 3) := by decide +kernel
theorem dX6_believing_39 : decode cX6_believing 39 = .ok (.if_icmp .le 10, 3) := by decide +kernel
theorem dX6_believing_42 : decode cX6_believing 42 = .ok (.iload_n 3, 1) := by decide +kernel
theorem dX6_believing_43 : decode cX6_believing 43 = .ok (.iconst 1, 1) := by decide +kernel
theorem dX6_believing_44 : decode cX6_believing 44 = .ok (.iload 4, 2) := by decide +kernel
theorem dX6_believing_46 : decode cX6_believing 46 = .ok (.ishl, 1) := by decide +kernel
theorem dX6_believing_47 : decode cX6_believing 47 = .ok (.ior, 1) := by decide +kernel
theorem dX6_believing_48 : decode cX6_believing 48 = .ok (.istore_n 3, 1) := by decide +kernel
theorem dX6_believing_49 : decode cX6_believing 49 = .ok (.iinc 4 1, 3) := by decide +kernel
theorem dX6_believing_52 : decode cX6_believing 52 = .ok (.goto (-47), 3) := by decide +kernel
theorem dX6_believing_55 : decode cX6_believing 55 = .ok (.iload_n 3, 1) := by decide +kernel
theorem dX6_believing_56 : decode cX6_believing 56 = .ok (.ireturn, 1) := by decide +kernel
theorem dX6_fewestToTurn_0 : decode cX6_fewestToTurn 0 = .ok (.aload_n 2, 1) := by decide +kernel
theorem dX6_fewestToTurn_1 : decode cX6_fewestToTurn 1 = .ok (.aload_n 0, 1) := by decide +kernel
theorem dX6_fewestToTurn_2 : decode cX6_fewestToTurn 2 = .ok (.getfield 15, 3) := by decide +kernel
theorem dX6_fewestToTurn_5 : decode cX6_fewestToTurn 5 = .ok (.invokevirtual 25, 3) := by decide +kernel
theorem dX6_fewestToTurn_8 : decode cX6_fewestToTurn 8 = .ok (.istore_n 3, 1) := by decide +kernel
theorem dX6_fewestToTurn_9 : decode cX6_fewestToTurn 9 = .ok (.aload_n 2, 1) := by decide +kernel
theorem dX6_fewestToTurn_10 : decode cX6_fewestToTurn 10 = .ok (.invokevirtual 30, 3) := by decide +kernel
theorem dX6_fewestToTurn_13 : decode cX6_fewestToTurn 13 = .ok (.istore 4, 2) := by decide +kernel
theorem dX6_fewestToTurn_15 : decode cX6_fewestToTurn 15 = .ok (.iconst 1, 1) := by decide +kernel
theorem dX6_fewestToTurn_16 : decode cX6_fewestToTurn 16 = .ok (.iload 4, 2) := by decide +kernel
theorem dX6_fewestToTurn_18 : decode cX6_fewestToTurn 18 = .ok (.invokestatic 19, 3) := by decide +kernel
theorem dX6_fewestToTurn_21 : decode cX6_fewestToTurn 21 = .ok (.ishl, 1) := by decide +kernel
theorem dX6_fewestToTurn_22 : decode cX6_fewestToTurn 22 = .ok (.istore 5, 2) := by decide +kernel
theorem dX6_fewestToTurn_24 : decode cX6_fewestToTurn 24 = .ok (.bipush (-6), 2) := by decide +kernel
theorem dX6_fewestToTurn_26 : decode cX6_fewestToTurn 26 = .ok (.istore 6, 2) := by decide +kernel
theorem dX6_fewestToTurn_28 : decode cX6_fewestToTurn 28 = .ok (.iconst 0, 1) := by decide +kernel
theorem dX6_fewestToTurn_29 : decode cX6_fewestToTurn 29 = .ok (.istore 7, 2) := by decide +kernel
theorem dX6_fewestToTurn_31 : decode cX6_fewestToTurn 31 = .ok (.iconst 0, 1) := by decide +kernel
theorem dX6_fewestToTurn_32 : decode cX6_fewestToTurn 32 = .ok (.istore 8, 2) := by decide +kernel
theorem dX6_fewestToTurn_34 : decode cX6_fewestToTurn 34 = .ok (.iload 8, 2) := by decide +kernel
theorem dX6_fewestToTurn_36 : decode cX6_fewestToTurn 36 = .ok (.iload 5, 2) := by decide +kernel
theorem dX6_fewestToTurn_38 : decode cX6_fewestToTurn 38 = .ok (.if_icmp .ge 72, 3) := by decide +kernel
theorem dX6_fewestToTurn_41 : decode cX6_fewestToTurn 41 = .ok (.iload 6, 2) := by decide +kernel
theorem dX6_fewestToTurn_43 : decode cX6_fewestToTurn 43 = .ok (.bipush (-6), 2) := by decide +kernel
theorem dX6_fewestToTurn_45 : decode cX6_fewestToTurn 45 = .ok (.if_icmp .eq 16, 3) := by decide +kernel
theorem dX6_fewestToTurn_48 : decode cX6_fewestToTurn 48 = .ok (.iload 7, 2) := by decide +kernel
theorem dX6_fewestToTurn_50 : decode cX6_fewestToTurn 50 = .ok (.invokestatic 19, 3) := by decide +kernel
theorem dX6_fewestToTurn_53 : decode cX6_fewestToTurn 53 = .ok (.iload 6, 2) := by decide +kernel
theorem dX6_fewestToTurn_55 : decode cX6_fewestToTurn 55 = .ok (.invokestatic 19, 3) := by decide +kernel
theorem dX6_fewestToTurn_58 : decode cX6_fewestToTurn 58 = .ok (.if_icmp .ge 7, 3) := by decide +kernel
theorem dX6_fewestToTurn_61 : decode cX6_fewestToTurn 61 = .ok (.iconst 1, 1) := by decide +kernel
theorem dX6_fewestToTurn_62 : decode cX6_fewestToTurn 62 = .ok (.goto 4, 3) := by decide +kernel
theorem dX6_fewestToTurn_65 : decode cX6_fewestToTurn 65 = .ok (.iconst 0, 1) := by decide +kernel
theorem dX6_fewestToTurn_66 : decode cX6_fewestToTurn 66 = .ok (.istore 9, 2) := by decide +kernel
theorem dX6_fewestToTurn_68 : decode cX6_fewestToTurn 68 = .ok (.iload 9, 2) := by decide +kernel
theorem dX6_fewestToTurn_70 : decode cX6_fewestToTurn 70 = .ok (.ifCond .eq 24, 3) := by decide +kernel
theorem dX6_fewestToTurn_73 : decode cX6_fewestToTurn 73 = .ok (.aload_n 0, 1) := by decide +kernel
theorem dX6_fewestToTurn_74 : decode cX6_fewestToTurn 74 = .ok (.aload_n 2, 1) := by decide +kernel
theorem dX6_fewestToTurn_75 : decode cX6_fewestToTurn 75 = .ok (.getfield 34, 3) := by decide +kernel
theorem dX6_fewestToTurn_78 : decode cX6_fewestToTurn 78 = .ok (.iload 7, 2) := by decide +kernel
theorem dX6_fewestToTurn_80 : decode cX6_fewestToTurn 80 = .ok (.ior, 1) := by decide +kernel
theorem dX6_fewestToTurn_81 : decode cX6_fewestToTurn 81 = .ok (.iload_n 3, 1) := by decide +kernel
theorem dX6_fewestToTurn_82 : decode cX6_fewestToTurn 82 = .ok (.invokevirtual 37, 3) := by decide +kernel
theorem dX6_fewestToTurn_85 : decode cX6_fewestToTurn 85 = .ok (.iload_n 1, 1) := by decide +kernel
theorem dX6_fewestToTurn_86 : decode cX6_fewestToTurn 86 = .ok (.iand, 1) := by decide +kernel
theorem dX6_fewestToTurn_87 : decode cX6_fewestToTurn 87 = .ok (.ifCond .ne 7, 3) := by decide +kernel
theorem dX6_fewestToTurn_90 : decode cX6_fewestToTurn 90 = .ok (.iload 7, 2) := by decide +kernel
theorem dX6_fewestToTurn_92 : decode cX6_fewestToTurn 92 = .ok (.istore 6, 2) := by decide +kernel
theorem dX6_fewestToTurn_94 : decode cX6_fewestToTurn 94 = .ok (.iload 7, 2) := by decide +kernel
theorem dX6_fewestToTurn_96 : decode cX6_fewestToTurn 96 = .ok (.iload 4, 2) := by decide +kernel
theorem dX6_fewestToTurn_98 : decode cX6_fewestToTurn 98 = .ok (.isub, 1) := by decide +kernel
theorem dX6_fewestToTurn_99 : decode cX6_fewestToTurn 99 = .ok (.iload 4, 2) := by decide +kernel
theorem dX6_fewestToTurn_101 : decode cX6_fewestToTurn 101 = .ok (.iand, 1) := by decide +kernel
theorem dX6_fewestToTurn_102 : decode cX6_fewestToTurn 102 = .ok (.istore 7, 2) := by decide +kernel
theorem dX6_fewestToTurn_104 : decode cX6_fewestToTurn 104 = .ok (.iinc 8 1, 3) := by decide +kernel
theorem dX6_fewestToTurn_107 : decode cX6_fewestToTurn 107 = .ok (.goto (-73), 3) := by decide +kernel
theorem dX6_fewestToTurn_110 : decode cX6_fewestToTurn 110 = .ok (.iload 6, 2) := by decide +kernel
theorem dX6_fewestToTurn_112 : decode cX6_fewestToTurn 112 = .ok (.ireturn, 1) := by decide +kernel
theorem dX7_init_0 : decode cX7_init 0 = .ok (.aload_n 0, 1) := by decide +kernel
theorem dX7_init_1 : decode cX7_init 1 = .ok (.invokespecial 3, 3) := by decide +kernel
theorem dX7_init_4 : decode cX7_init 4 = .ok (.aload_n 0, 1) := by decide +kernel
theorem dX7_init_5 : decode cX7_init 5 = .ok (.bipush 24, 2) := by decide +kernel
theorem dX7_init_7 : decode cX7_init 7 = .ok (.newarray .int, 2) := by decide +kernel
theorem dX7_init_9 : decode cX7_init 9 = .ok (.putfield 9, 3) := by decide +kernel
theorem dX7_init_12 : decode cX7_init 12 = .ok (.aload_n 0, 1) := by decide +kernel
theorem dX7_init_13 : decode cX7_init 13 = .ok (.bipush 24, 2) := by decide +kernel
theorem dX7_init_15 : decode cX7_init 15 = .ok (.newarray .long, 2) := by decide +kernel
theorem dX7_init_17 : decode cX7_init 17 = .ok (.putfield 15, 3) := by decide +kernel
theorem dX7_init_20 : decode cX7_init 20 = .ok (.aload_n 0, 1) := by decide +kernel
theorem dX7_init_21 : decode cX7_init 21 = .ok (.iconst 0, 1) := by decide +kernel
theorem dX7_init_22 : decode cX7_init 22 = .ok (.putfield 19, 3) := by decide +kernel
theorem dX7_init_25 : decode cX7_init 25 = .ok (.return_, 1) := by decide +kernel
theorem dX7_lay_0 : decode cX7_lay 0 = .ok (.aload_n 0, 1) := by decide +kernel
theorem dX7_lay_1 : decode cX7_lay 1 = .ok (.iconst 0, 1) := by decide +kernel
theorem dX7_lay_2 : decode cX7_lay 2 = .ok (.putfield 19, 3) := by decide +kernel
theorem dX7_lay_5 : decode cX7_lay 5 = .ok (.iconst 0, 1) := by decide +kernel
theorem dX7_lay_6 : decode cX7_lay 6 = .ok (.istore_n 3, 1) := by decide +kernel
theorem dX7_lay_7 : decode cX7_lay 7 = .ok (.iload_n 3, 1) := by decide +kernel
theorem dX7_lay_8 : decode cX7_lay 8 = .ok (.iload_n 2, 1) := by decide +kernel
theorem dX7_lay_9 : decode cX7_lay 9 = .ok (.if_icmp .ge 109, 3) := by decide +kernel
theorem dX7_lay_12 : decode cX7_lay 12 = .ok (.aload_n 0, 1) := by decide +kernel
theorem dX7_lay_13 : decode cX7_lay 13 = .ok (.getfield 19, 3) := by decide +kernel
theorem dX7_lay_16 : decode cX7_lay 16 = .ok (.istore 4, 2) := by decide +kernel
theorem dX7_lay_18 : decode cX7_lay 18 = .ok (.iconst 0, 1) := by decide +kernel
theorem dX7_lay_19 : decode cX7_lay 19 = .ok (.istore 5, 2) := by decide +kernel
theorem dX7_lay_21 : decode cX7_lay 21 = .ok (.iload 5, 2) := by decide +kernel
theorem dX7_lay_23 : decode cX7_lay 23 = .ok (.aload_n 1, 1) := by decide +kernel
theorem dX7_lay_24 : decode cX7_lay 24 = .ok (.getfield 23, 3) := by decide +kernel
theorem dX7_lay_27 : decode cX7_lay 27 = .ok (.if_icmp .ge 53, 3) := by decide +kernel
theorem dX7_lay_30 : decode cX7_lay 30 = .ok (.aload_n 1, 1) := by decide +kernel
theorem dX7_lay_31 : decode cX7_lay 31 = .ok (.getfield 26, 3) := by decide +kernel
theorem dX7_lay_34 : decode cX7_lay 34 = .ok (.iload 5, 2) := by decide +kernel
theorem dX7_lay_36 : decode cX7_lay 36 = .ok (.iaload, 1) := by decide +kernel
theorem dX7_lay_37 : decode cX7_lay 37 = .ok (.iload_n 2, 1) := by decide +kernel
theorem dX7_lay_38 : decode cX7_lay 38 = .ok (.irem, 1) := by decide +kernel
theorem dX7_lay_39 : decode cX7_lay 39 = .ok (.iload_n 3, 1) := by decide +kernel
theorem dX7_lay_40 : decode cX7_lay 40 = .ok (.if_icmp .ne 34, 3) := by decide +kernel
theorem dX7_lay_43 : decode cX7_lay 43 = .ok (.aload_n 0, 1) := by decide +kernel
theorem dX7_lay_44 : decode cX7_lay 44 = .ok (.getfield 9, 3) := by decide +kernel
theorem dX7_lay_47 : decode cX7_lay 47 = .ok (.aload_n 0, 1) := by decide +kernel
theorem dX7_lay_48 : decode cX7_lay 48 = .ok (.getfield 19, 3) := by decide +kernel
theorem dX7_lay_51 : decode cX7_lay 51 = .ok (.iload 5, 2) := by decide +kernel
theorem dX7_lay_53 : decode cX7_lay 53 = .ok (.iastore, 1) := by decide +kernel
theorem dX7_lay_54 : decode cX7_lay 54 = .ok (.aload_n 0, 1) := by decide +kernel
theorem dX7_lay_55 : decode cX7_lay 55 = .ok (.getfield 15, 3) := by decide +kernel
theorem dX7_lay_58 : decode cX7_lay 58 = .ok (.aload_n 0, 1) := by decide +kernel
theorem dX7_lay_59 : decode cX7_lay 59 = .ok (.getfield 19, 3) := by decide +kernel
theorem dX7_lay_62 : decode cX7_lay 62 = .ok (.lconst 0, 1) := by decide +kernel
theorem dX7_lay_63 : decode cX7_lay 63 = .ok (.lastore, 1) := by decide +kernel
theorem dX7_lay_64 : decode cX7_lay 64 = .ok (.aload_n 0, 1) := by decide +kernel
theorem dX7_lay_65 : decode cX7_lay 65 = .ok (.dup, 1) := by decide +kernel
theorem dX7_lay_66 : decode cX7_lay 66 = .ok (.getfield 19, 3) := by decide +kernel
theorem dX7_lay_69 : decode cX7_lay 69 = .ok (.iconst 1, 1) := by decide +kernel
theorem dX7_lay_70 : decode cX7_lay 70 = .ok (.iadd, 1) := by decide +kernel
theorem dX7_lay_71 : decode cX7_lay 71 = .ok (.putfield 19, 3) := by decide +kernel
theorem dX7_lay_74 : decode cX7_lay 74 = .ok (.iinc 5 1, 3) := by decide +kernel
theorem dX7_lay_77 : decode cX7_lay 77 = .ok (.goto (-56), 3) := by decide +kernel
theorem dX7_lay_80 : decode cX7_lay 80 = .ok (.aload_n 0, 1) := by decide +kernel
theorem dX7_lay_81 : decode cX7_lay 81 = .ok (.getfield 19, 3) := by decide +kernel
theorem dX7_lay_84 : decode cX7_lay 84 = .ok (.iload 4, 2) := by decide +kernel
theorem dX7_lay_86 : decode cX7_lay 86 = .ok (.if_icmp .le 26, 3) := by decide +kernel
theorem dX7_lay_89 : decode cX7_lay 89 = .ok (.aload_n 0, 1) := by decide +kernel
theorem dX7_lay_90 : decode cX7_lay 90 = .ok (.getfield 15, 3) := by decide +kernel
theorem dX7_lay_93 : decode cX7_lay 93 = .ok (.aload_n 0, 1) := by decide +kernel
theorem dX7_lay_94 : decode cX7_lay 94 = .ok (.getfield 19, 3) := by decide +kernel
theorem dX7_lay_97 : decode cX7_lay 97 = .ok (.iconst 1, 1) := by decide +kernel
theorem dX7_lay_98 : decode cX7_lay 98 = .ok (.isub, 1) := by decide +kernel
theorem dX7_lay_99 : decode cX7_lay 99 = .ok (.sipush 27720, 3) := by decide +kernel
theorem dX7_lay_102 : decode cX7_lay 102 = .ok (.aload_n 0, 1) := by decide +kernel
theorem dX7_lay_103 : decode cX7_lay 103 = .ok (.getfield 19, 3) := by decide +kernel
theorem dX7_lay_106 : decode cX7_lay 106 = .ok (.iload 4, 2) := by decide +kernel
theorem dX7_lay_108 : decode cX7_lay 108 = .ok (.isub, 1) := by decide +kernel
theorem dX7_lay_109 : decode cX7_lay 109 = .ok (.idiv, 1) := by decide +kernel
theorem dX7_lay_110 : decode cX7_lay 110 = .ok (.i2l, 1) := by decide +kernel
theorem dX7_lay_111 : decode cX7_lay 111 = .ok (.lastore, 1) := by decide +kernel
theorem dX7_lay_112 : decode cX7_lay 112 = .ok (.iinc 3 1, 3) := by decide +kernel
theorem dX7_lay_115 : decode cX7_lay 115 = .ok (.goto (-108), 3) := by decide +kernel
theorem dX7_lay_118 : decode cX7_lay 118 = .ok (.return_, 1) := by decide +kernel
theorem dX7_weigh_0 : decode cX7_weigh 0 = .ok (.lconst 0, 1) := by decide +kernel
theorem dX7_weigh_1 : decode cX7_weigh 1 = .ok (.lstore_n 2, 1) := by decide +kernel
theorem dX7_weigh_2 : decode cX7_weigh 2 = .ok (.lconst 0, 1) := by decide +kernel
theorem dX7_weigh_3 : decode cX7_weigh 3 = .ok (.lstore 4, 2) := by decide +kernel
theorem dX7_weigh_5 : decode cX7_weigh 5 = .ok (.iconst 0, 1) := by decide +kernel
theorem dX7_weigh_6 : decode cX7_weigh 6 = .ok (.istore 6, 2) := by decide +kernel
theorem dX7_weigh_8 : decode cX7_weigh 8 = .ok (.iload 6, 2) := by decide +kernel
theorem dX7_weigh_10 : decode cX7_weigh 10 = .ok (.aload_n 0, 1) := by decide +kernel
theorem dX7_weigh_11 : decode cX7_weigh 11 = .ok (.getfield 19, 3) := by decide +kernel
theorem dX7_weigh_14 : decode cX7_weigh 14 = .ok (.if_icmp .ge 55, 3) := by decide +kernel
theorem dX7_weigh_17 : decode cX7_weigh 17 = .ok (.lload 4, 2) := by decide +kernel
theorem dX7_weigh_19 : decode cX7_weigh 19 = .ok (.aload_n 1, 1) := by decide +kernel
theorem dX7_weigh_20 : decode cX7_weigh 20 = .ok (.aload_n 0, 1) := by decide +kernel
theorem dX7_weigh_21 : decode cX7_weigh 21 = .ok (.getfield 9, 3) := by decide +kernel
theorem dX7_weigh_24 : decode cX7_weigh 24 = .ok (.iload 6, 2) := by decide +kernel
theorem dX7_weigh_26 : decode cX7_weigh 26 = .ok (.iaload, 1) := by decide +kernel
theorem dX7_weigh_27 : decode cX7_weigh 27 = .ok (.iaload, 1) := by decide +kernel
theorem dX7_weigh_28 : decode cX7_weigh 28 = .ok (.i2l, 1) := by decide +kernel
theorem dX7_weigh_29 : decode cX7_weigh 29 = .ok (.ladd, 1) := by decide +kernel
theorem dX7_weigh_30 : decode cX7_weigh 30 = .ok (.lstore 4, 2) := by decide +kernel
theorem dX7_weigh_32 : decode cX7_weigh 32 = .ok (.aload_n 0, 1) := by decide +kernel
theorem dX7_weigh_33 : decode cX7_weigh 33 = .ok (.getfield 15, 3) := by decide +kernel
theorem dX7_weigh_36 : decode cX7_weigh 36 = .ok (.iload 6, 2) := by decide +kernel
theorem dX7_weigh_38 : decode cX7_weigh 38 = .ok (.laload, 1) := by decide +kernel
theorem dX7_weigh_39 : decode cX7_weigh 39 = .ok (.lconst 0, 1) := by decide +kernel
theorem dX7_weigh_40 : decode cX7_weigh 40 = .ok (.lcmp, 1) := by decide +kernel
theorem dX7_weigh_41 : decode cX7_weigh 41 = .ok (.ifCond .eq 22, 3) := by decide +kernel
theorem dX7_weigh_44 : decode cX7_weigh 44 = .ok (.lload_n 2, 1) := by decide +kernel
theorem dX7_weigh_45 : decode cX7_weigh 45 = .ok (.aload_n 0, 1) := by decide +kernel
theorem dX7_weigh_46 : decode cX7_weigh 46 = .ok (.getfield 15, 3) := by decide +kernel
theorem dX7_weigh_49 : decode cX7_weigh 49 = .ok (.iload 6, 2) := by decide +kernel
theorem dX7_weigh_51 : decode cX7_weigh 51 = .ok (.laload, 1) := by decide +kernel
theorem dX7_weigh_52 : decode cX7_weigh 52 = .ok (.lload 4, 2) := by decide +kernel
theorem dX7_weigh_54 : decode cX7_weigh 54 = .ok (.lmul, 1) := by decide +kernel
theorem dX7_weigh_55 : decode cX7_weigh 55 = .ok (.lload 4, 2) := by decide +kernel
theorem dX7_weigh_57 : decode cX7_weigh 57 = .ok (.lmul, 1) := by decide +kernel
theorem dX7_weigh_58 : decode cX7_weigh 58 = .ok (.ladd, 1) := by decide +kernel
theorem dX7_weigh_59 : decode cX7_weigh 59 = .ok (.lstore_n 2, 1) := by decide +kernel
theorem dX7_weigh_60 : decode cX7_weigh 60 = .ok (.lconst 0, 1) := by decide +kernel
theorem dX7_weigh_61 : decode cX7_weigh 61 = .ok (.lstore 4, 2) := by decide +kernel
theorem dX7_weigh_63 : decode cX7_weigh 63 = .ok (.iinc 6 1, 3) := by decide +kernel
theorem dX7_weigh_66 : decode cX7_weigh 66 = .ok (.goto (-58), 3) := by decide +kernel
theorem dX7_weigh_69 : decode cX7_weigh 69 = .ok (.lload_n 2, 1) := by decide +kernel
theorem dX7_weigh_70 : decode cX7_weigh 70 = .ok (.lreturn, 1) := by decide +kernel
theorem dX8_init_0 : decode cX8_init 0 = .ok (.aload_n 0, 1) := by decide +kernel
theorem dX8_init_1 : decode cX8_init 1 = .ok (.invokespecial 3, 3) := by decide +kernel
theorem dX8_init_4 : decode cX8_init 4 = .ok (.aload_n 0, 1) := by decide +kernel
theorem dX8_init_5 : decode cX8_init 5 = .ok (.bipush 13, 2) := by decide +kernel
theorem dX8_init_7 : decode cX8_init 7 = .ok (.anewarray 9, 3) := by decide +kernel
theorem dX8_init_10 : decode cX8_init 10 = .ok (.putfield 11, 3) := by decide +kernel
theorem dX8_init_13 : decode cX8_init 13 = .ok (.aload_n 0, 1) := by decide +kernel
theorem dX8_init_14 : decode cX8_init 14 = .ok (.iconst 2, 1) := by decide +kernel
theorem dX8_init_15 : decode cX8_init 15 = .ok (.putfield 17, 3) := by decide +kernel
theorem dX8_init_18 : decode cX8_init 18 = .ok (.aload_n 0, 1) := by decide +kernel
theorem dX8_init_19 : decode cX8_init 19 = .ok (.iconst 2, 1) := by decide +kernel
theorem dX8_init_20 : decode cX8_init 20 = .ok (.putfield 21, 3) := by decide +kernel
theorem dX8_init_23 : decode cX8_init 23 = .ok (.iconst 0, 1) := by decide +kernel
theorem dX8_init_24 : decode cX8_init 24 = .ok (.istore_n 1, 1) := by decide +kernel
theorem dX8_init_25 : decode cX8_init 25 = .ok (.iload_n 1, 1) := by decide +kernel
theorem dX8_init_26 : decode cX8_init 26 = .ok (.bipush 12, 2) := by decide +kernel
theorem dX8_init_28 : decode cX8_init 28 = .ok (.if_icmp .gt 22, 3) := by decide +kernel
theorem dX8_init_31 : decode cX8_init 31 = .ok (.aload_n 0, 1) := by decide +kernel
theorem dX8_init_32 : decode cX8_init 32 = .ok (.getfield 11, 3) := by decide +kernel
theorem dX8_init_35 : decode cX8_init 35 = .ok (.iload_n 1, 1) := by decide +kernel
theorem dX8_init_36 : decode cX8_init 36 = .ok (.new 9, 3) := by decide +kernel
theorem dX8_init_39 : decode cX8_init 39 = .ok (.dup, 1) := by decide +kernel
theorem dX8_init_40 : decode cX8_init 40 = .ok (.invokespecial 24, 3) := by decide +kernel
theorem dX8_init_43 : decode cX8_init 43 = .ok (.aastore, 1) := by decide +kernel
theorem dX8_init_44 : decode cX8_init 44 = .ok (.iinc 1 1, 3) := by decide +kernel
theorem dX8_init_47 : decode cX8_init 47 = .ok (.goto (-22), 3) := by decide +kernel
theorem dX8_init_50 : decode cX8_init 50 = .ok (.return_, 1) := by decide +kernel
theorem dX8_lay_0 : decode cX8_lay 0 = .ok (.aload_n 0, 1) := by decide +kernel
theorem dX8_lay_1 : decode cX8_lay 1 = .ok (.iconst 2, 1) := by decide +kernel
theorem dX8_lay_2 : decode cX8_lay 2 = .ok (.bipush 12, 2) := by decide +kernel
theorem dX8_lay_4 : decode cX8_lay 4 = .ok (.iload_n 2, 1) := by decide +kernel
theorem dX8_lay_5 : decode cX8_lay 5 = .ok (.invokestatic 25, 3) := by decide +kernel
theorem dX8_lay_8 : decode cX8_lay 8 = .ok (.invokestatic 31, 3) := by decide +kernel
theorem dX8_lay_11 : decode cX8_lay 11 = .ok (.putfield 17, 3) := by decide +kernel
theorem dX8_lay_14 : decode cX8_lay 14 = .ok (.aload_n 0, 1) := by decide +kernel
theorem dX8_lay_15 : decode cX8_lay 15 = .ok (.iconst 2, 1) := by decide +kernel
theorem dX8_lay_16 : decode cX8_lay 16 = .ok (.bipush 12, 2) := by decide +kernel
theorem dX8_lay_18 : decode cX8_lay 18 = .ok (.iload_n 3, 1) := by decide +kernel
theorem dX8_lay_19 : decode cX8_lay 19 = .ok (.invokestatic 25, 3) := by decide +kernel
theorem dX8_lay_22 : decode cX8_lay 22 = .ok (.invokestatic 31, 3) := by decide +kernel
theorem dX8_lay_25 : decode cX8_lay 25 = .ok (.putfield 21, 3) := by decide +kernel
theorem dX8_lay_28 : decode cX8_lay 28 = .ok (.aload_n 0, 1) := by decide +kernel
theorem dX8_lay_29 : decode cX8_lay 29 = .ok (.getfield 17, 3) := by decide +kernel
theorem dX8_lay_32 : decode cX8_lay 32 = .ok (.istore 4, 2) := by decide +kernel
theorem dX8_lay_34 : decode cX8_lay 34 = .ok (.iload 4, 2) := by decide +kernel
theorem dX8_lay_36 : decode cX8_lay 36 = .ok (.aload_n 0, 1) := by decide +kernel
theorem dX8_lay_37 : decode cX8_lay 37 = .ok (.getfield 21, 3) := by decide +kernel
theorem dX8_lay_40 : decode cX8_lay 40 = .ok (.if_icmp .gt 22, 3) := by decide +kernel
theorem dX8_lay_43 : decode cX8_lay 43 = .ok (.aload_n 0, 1) := by decide +kernel
theorem dX8_lay_44 : decode cX8_lay 44 = .ok (.getfield 11, 3) := by decide +kernel
theorem dX8_lay_47 : decode cX8_lay 47 = .ok (.iload 4, 2) := by decide +kernel
theorem dX8_lay_49 : decode cX8_lay 49 = .ok (.aaload, 1) := by decide +kernel
theorem dX8_lay_50 : decode cX8_lay 50 = .ok (.aload_n 1, 1) := by decide +kernel
theorem dX8_lay_51 : decode cX8_lay 51 = .ok (.iload 4, 2) := by decide +kernel
theorem dX8_lay_53 : decode cX8_lay 53 = .ok (.invokevirtual 34, 3) := by decide +kernel
theorem dX8_lay_56 : decode cX8_lay 56 = .ok (.iinc 4 1, 3) := by decide +kernel
theorem dX8_lay_59 : decode cX8_lay 59 = .ok (.goto (-25), 3) := by decide +kernel
theorem dX8_lay_62 : decode cX8_lay 62 = .ok (.return_, 1) := by decide +kernel
theorem dX8_firstGreatest_0 : decode cX8_firstGreatest 0 = .ok (.aload_n 0, 1) := by decide +kernel
theorem dX8_firstGreatest_1 : decode cX8_firstGreatest 1 = .ok (.getfield 17, 3) := by decide +kernel
theorem dX8_firstGreatest_4 : decode cX8_firstGreatest 4 = .ok (.istore_n 2, 1) := by decide +kernel
theorem dX8_firstGreatest_5 : decode cX8_firstGreatest 5 = .ok (.ldc2_w 38, 3) := by decide +kernel
theorem dX8_firstGreatest_8 : decode cX8_firstGreatest 8 = .ok (.lstore_n 3, 1) := by decide +kernel
theorem dX8_firstGreatest_9 : decode cX8_firstGreatest 9 = .ok (.aload_n 0, 1) := by decide +kernel
theorem dX8_firstGreatest_10 : decode cX8_firstGreatest 10 = .ok (.getfield 17, 3) := by decide +kernel
theorem dX8_firstGreatest_13 : decode cX8_firstGreatest 13 = .ok (.istore 5, 2) := by decide +kernel
theorem dX8_firstGreatest_15 : decode cX8_firstGreatest 15 = .ok (.iload 5, 2) := by decide +kernel
theorem dX8_firstGreatest_17 : decode cX8_firstGreatest 17 = .ok (.aload_n 0, 1) := by decide +kernel
theorem dX8_firstGreatest_18 : decode cX8_firstGreatest 18 = .ok (.getfield 21, 3) := by decide +kernel
theorem dX8_firstGreatest_21 : decode cX8_firstGreatest 21 = .ok (.if_icmp .gt 35, 3) := by decide +kernel
theorem dX8_firstGreatest_24 : decode cX8_firstGreatest 24 = .ok (.aload_n 0, 1) := by decide +kernel
theorem dX8_firstGreatest_25 : decode cX8_firstGreatest 25 = .ok (.getfield 11, 3) := by decide +kernel
theorem dX8_firstGreatest_28 : decode cX8_firstGreatest 28 = .ok (.iload 5, 2) := by decide +kernel
theorem dX8_firstGreatest_30 : decode cX8_firstGreatest 30 = .ok (.aaload, 1) := by decide +kernel
theorem dX8_firstGreatest_31 : decode cX8_firstGreatest 31 = .ok (.aload_n 1, 1) := by decide +kernel
theorem dX8_firstGreatest_32 : decode cX8_firstGreatest 32 = .ok (.invokevirtual 40, 3) := by decide +kernel
theorem dX8_firstGreatest_35 : decode cX8_firstGreatest 35 = .ok (.lstore 6, 2) := by decide +kernel
theorem dX8_firstGreatest_37 : decode cX8_firstGreatest 37 = .ok (.lload 6, 2) := by decide +kernel
theorem dX8_firstGreatest_39 : decode cX8_firstGreatest 39 = .ok (.lload_n 3, 1) := by decide +kernel
theorem dX8_firstGreatest_40 : decode cX8_firstGreatest 40 = .ok (.lcmp, 1) := by decide +kernel
theorem dX8_firstGreatest_41 : decode cX8_firstGreatest 41 = .ok (.ifCond .le 9, 3) := by decide +kernel
theorem dX8_firstGreatest_44 : decode cX8_firstGreatest 44 = .ok (.lload 6, 2) := by decide +kernel
theorem dX8_firstGreatest_46 : decode cX8_firstGreatest 46 = .ok (.lstore_n 3, 1) := by decide +kernel
theorem dX8_firstGreatest_47 : decode cX8_firstGreatest 47 = .ok (.iload 5, 2) := by decide +kernel
theorem dX8_firstGreatest_49 : decode cX8_firstGreatest 49 = .ok (.istore_n 2, 1) := by decide +kernel
theorem dX8_firstGreatest_50 : decode cX8_firstGreatest 50 = .ok (.iinc 5 1, 3) := by decide +kernel
theorem dX8_firstGreatest_53 : decode cX8_firstGreatest 53 = .ok (.goto (-38), 3) := by decide +kernel
theorem dX8_firstGreatest_56 : decode cX8_firstGreatest 56 = .ok (.iload_n 2, 1) := by decide +kernel
theorem dX8_firstGreatest_57 : decode cX8_firstGreatest 57 = .ok (.ireturn, 1) := by decide +kernel
theorem dX8_greatest_0 : decode cX8_greatest 0 = .ok (.aload_n 0, 1) := by decide +kernel
theorem dX8_greatest_1 : decode cX8_greatest 1 = .ok (.getfield 11, 3) := by decide +kernel
theorem dX8_greatest_4 : decode cX8_greatest 4 = .ok (.aload_n 0, 1) := by decide +kernel
theorem dX8_greatest_5 : decode cX8_greatest 5 = .ok (.aload_n 1, 1) := by decide +kernel
theorem dX8_greatest_6 : decode cX8_greatest 6 = .ok (.invokevirtual 44, 3) := by decide +kernel
theorem dX8_greatest_9 : decode cX8_greatest 9 = .ok (.aaload, 1) := by decide +kernel
theorem dX8_greatest_10 : decode cX8_greatest 10 = .ok (.aload_n 1, 1) := by decide +kernel
theorem dX8_greatest_11 : decode cX8_greatest 11 = .ok (.invokevirtual 40, 3) := by decide +kernel
theorem dX8_greatest_14 : decode cX8_greatest 14 = .ok (.lreturn, 1) := by decide +kernel
theorem dX8_reach_0 : decode cX8_reach 0 = .ok (.aload_n 0, 1) := by decide +kernel
theorem dX8_reach_1 : decode cX8_reach 1 = .ok (.getfield 21, 3) := by decide +kernel
theorem dX8_reach_4 : decode cX8_reach 4 = .ok (.istore 4, 2) := by decide +kernel
theorem dX8_reach_6 : decode cX8_reach 6 = .ok (.iload 4, 2) := by decide +kernel
theorem dX8_reach_8 : decode cX8_reach 8 = .ok (.aload_n 0, 1) := by decide +kernel
theorem dX8_reach_9 : decode cX8_reach 9 = .ok (.getfield 17, 3) := by decide +kernel
theorem dX8_reach_12 : decode cX8_reach 12 = .ok (.if_icmp .lt 27, 3) := by decide +kernel
theorem dX8_reach_15 : decode cX8_reach 15 = .ok (.aload_n 0, 1) := by decide +kernel
theorem dX8_reach_16 : decode cX8_reach 16 = .ok (.getfield 11, 3) := by decide +kernel
theorem dX8_reach_19 : decode cX8_reach 19 = .ok (.iload 4, 2) := by decide +kernel
end
section
theorem dX8_reach_21 : decode cX8_reach 21 = .ok (.aaload, 1) := by decide +kernel
theorem dX8_reach_22 : decode cX8_reach 22 = .ok (.aload_n 1, 1) := by decide +kernel
theorem dX8_reach_23 : decode cX8_reach 23 = .ok (.invokevirtual 40, 3) := by decide +kernel
theorem dX8_reach_26 : decode cX8_reach 26 = .ok (.lload_n 2, 1) := by decide +kernel
theorem dX8_reach_27 : decode cX8_reach 27 = .ok (.lcmp, 1) := by decide +kernel
theorem dX8_reach_28 : decode cX8_reach 28 = .ok (.ifCond .lt 5, 3) := by decide +kernel
theorem dX8_reach_31 : decode cX8_reach 31 = .ok (.iconst 1, 1) := by decide +kernel
theorem dX8_reach_32 : decode cX8_reach 32 = .ok (.ireturn, 1) := by decide +kernel
theorem dX8_reach_33 : decode cX8_reach 33 = .ok (.iinc 4 (-1), 3) := by decide +kernel
theorem dX8_reach_36 : decode cX8_reach 36 = .ok (.goto (-30), 3) := by decide +kernel
theorem dX8_reach_39 : decode cX8_reach 39 = .ok (.iconst 0, 1) := by decide +kernel
theorem dX8_reach_40 : decode cX8_reach 40 = .ok (.ireturn, 1) := by decide +kernel
theorem dX9_init_0 : decode cX9_init 0 = .ok (.aload_n 0, 1) := by decide +kernel
theorem dX9_init_1 : decode cX9_init 1 = .ok (.invokespecial 3, 3) := by decide +kernel
theorem dX9_init_4 : decode cX9_init 4 = .ok (.aload_n 0, 1) := by decide +kernel
theorem dX9_init_5 : decode cX9_init 5 = .ok (.bipush 6, 2) := by decide +kernel
theorem dX9_init_7 : decode cX9_init 7 = .ok (.bipush 24, 2) := by decide +kernel
theorem dX9_init_9 : decode cX9_init 9 = .ok (.multianewarray 9 2, 4) := by decide +kernel
theorem dX9_init_13 : decode cX9_init 13 = .ok (.putfield 11, 3) := by decide +kernel
theorem dX9_init_16 : decode cX9_init 16 = .ok (.aload_n 0, 1) := by decide +kernel
theorem dX9_init_17 : decode cX9_init 17 = .ok (.new 14, 3) := by decide +kernel
theorem dX9_init_20 : decode cX9_init 20 = .ok (.dup, 1) := by decide +kernel
theorem dX9_init_21 : decode cX9_init 21 = .ok (.invokespecial 16, 3) := by decide +kernel
theorem dX9_init_24 : decode cX9_init 24 = .ok (.putfield 17, 3) := by decide +kernel
theorem dX9_init_27 : decode cX9_init 27 = .ok (.aload_n 0, 1) := by decide +kernel
theorem dX9_init_28 : decode cX9_init 28 = .ok (.new 21, 3) := by decide +kernel
theorem dX9_init_31 : decode cX9_init 31 = .ok (.dup, 1) := by decide +kernel
theorem dX9_init_32 : decode cX9_init 32 = .ok (.invokespecial 23, 3) := by decide +kernel
theorem dX9_init_35 : decode cX9_init 35 = .ok (.putfield 24, 3) := by decide +kernel
theorem dX9_init_38 : decode cX9_init 38 = .ok (.aload_n 0, 1) := by decide +kernel
theorem dX9_init_39 : decode cX9_init 39 = .ok (.new 21, 3) := by decide +kernel
theorem dX9_init_42 : decode cX9_init 42 = .ok (.dup, 1) := by decide +kernel
theorem dX9_init_43 : decode cX9_init 43 = .ok (.invokespecial 23, 3) := by decide +kernel
theorem dX9_init_46 : decode cX9_init 46 = .ok (.putfield 28, 3) := by decide +kernel
theorem dX9_init_49 : decode cX9_init 49 = .ok (.aload_n 0, 1) := by decide +kernel
theorem dX9_init_50 : decode cX9_init 50 = .ok (.new 31, 3) := by decide +kernel
theorem dX9_init_53 : decode cX9_init 53 = .ok (.dup, 1) := by decide +kernel
theorem dX9_init_54 : decode cX9_init 54 = .ok (.invokespecial 33, 3) := by decide +kernel
theorem dX9_init_57 : decode cX9_init 57 = .ok (.putfield 34, 3) := by decide +kernel
theorem dX9_init_60 : decode cX9_init 60 = .ok (.aload_n 0, 1) := by decide +kernel
theorem dX9_init_61 : decode cX9_init 61 = .ok (.new 38, 3) := by decide +kernel
theorem dX9_init_64 : decode cX9_init 64 = .ok (.dup, 1) := by decide +kernel
theorem dX9_init_65 : decode cX9_init 65 = .ok (.invokespecial 40, 3) := by decide +kernel
theorem dX9_init_68 : decode cX9_init 68 = .ok (.putfield 41, 3) := by decide +kernel
theorem dX9_init_71 : decode cX9_init 71 = .ok (.aload_n 0, 1) := by decide +kernel
theorem dX9_init_72 : decode cX9_init 72 = .ok (.new 45, 3) := by decide +kernel
theorem dX9_init_75 : decode cX9_init 75 = .ok (.dup, 1) := by decide +kernel
theorem dX9_init_76 : decode cX9_init 76 = .ok (.invokespecial 47, 3) := by decide +kernel
theorem dX9_init_79 : decode cX9_init 79 = .ok (.putfield 48, 3) := by decide +kernel
theorem dX9_init_82 : decode cX9_init 82 = .ok (.aload_n 0, 1) := by decide +kernel
theorem dX9_init_83 : decode cX9_init 83 = .ok (.new 52, 3) := by decide +kernel
theorem dX9_init_86 : decode cX9_init 86 = .ok (.dup, 1) := by decide +kernel
theorem dX9_init_87 : decode cX9_init 87 = .ok (.invokespecial 54, 3) := by decide +kernel
theorem dX9_init_90 : decode cX9_init 90 = .ok (.putfield 55, 3) := by decide +kernel
theorem dX9_init_93 : decode cX9_init 93 = .ok (.aload_n 0, 1) := by decide +kernel
theorem dX9_init_94 : decode cX9_init 94 = .ok (.new 52, 3) := by decide +kernel
theorem dX9_init_97 : decode cX9_init 97 = .ok (.dup, 1) := by decide +kernel
theorem dX9_init_98 : decode cX9_init 98 = .ok (.invokespecial 54, 3) := by decide +kernel
theorem dX9_init_101 : decode cX9_init 101 = .ok (.putfield 59, 3) := by decide +kernel
theorem dX9_init_104 : decode cX9_init 104 = .ok (.aload_n 0, 1) := by decide +kernel
theorem dX9_init_105 : decode cX9_init 105 = .ok (.new 62, 3) := by decide +kernel
theorem dX9_init_108 : decode cX9_init 108 = .ok (.dup, 1) := by decide +kernel
theorem dX9_init_109 : decode cX9_init 109 = .ok (.invokespecial 64, 3) := by decide +kernel
theorem dX9_init_112 : decode cX9_init 112 = .ok (.putfield 65, 3) := by decide +kernel
theorem dX9_init_115 : decode cX9_init 115 = .ok (.aload_n 0, 1) := by decide +kernel
theorem dX9_init_116 : decode cX9_init 116 = .ok (.new 69, 3) := by decide +kernel
theorem dX9_init_119 : decode cX9_init 119 = .ok (.dup, 1) := by decide +kernel
theorem dX9_init_120 : decode cX9_init 120 = .ok (.invokespecial 71, 3) := by decide +kernel
theorem dX9_init_123 : decode cX9_init 123 = .ok (.putfield 72, 3) := by decide +kernel
theorem dX9_init_126 : decode cX9_init 126 = .ok (.iconst 0, 1) := by decide +kernel
theorem dX9_init_127 : decode cX9_init 127 = .ok (.istore_n 1, 1) := by decide +kernel
theorem dX9_init_128 : decode cX9_init 128 = .ok (.iload_n 1, 1) := by decide +kernel
theorem dX9_init_129 : decode cX9_init 129 = .ok (.bipush 6, 2) := by decide +kernel
theorem dX9_init_131 : decode cX9_init 131 = .ok (.if_icmp .ge 33, 3) := by decide +kernel
theorem dX9_init_134 : decode cX9_init 134 = .ok (.iconst 0, 1) := by decide +kernel
theorem dX9_init_135 : decode cX9_init 135 = .ok (.istore_n 2, 1) := by decide +kernel
theorem dX9_init_136 : decode cX9_init 136 = .ok (.iload_n 2, 1) := by decide +kernel
theorem dX9_init_137 : decode cX9_init 137 = .ok (.bipush 24, 2) := by decide +kernel
theorem dX9_init_139 : decode cX9_init 139 = .ok (.if_icmp .ge 19, 3) := by decide +kernel
theorem dX9_init_142 : decode cX9_init 142 = .ok (.aload_n 0, 1) := by decide +kernel
theorem dX9_init_143 : decode cX9_init 143 = .ok (.getfield 11, 3) := by decide +kernel
theorem dX9_init_146 : decode cX9_init 146 = .ok (.iload_n 1, 1) := by decide +kernel
theorem dX9_init_147 : decode cX9_init 147 = .ok (.aaload, 1) := by decide +kernel
theorem dX9_init_148 : decode cX9_init 148 = .ok (.iload_n 2, 1) := by decide +kernel
theorem dX9_init_149 : decode cX9_init 149 = .ok (.ldc 76, 2) := by decide +kernel
theorem dX9_init_151 : decode cX9_init 151 = .ok (.iastore, 1) := by decide +kernel
theorem dX9_init_152 : decode cX9_init 152 = .ok (.iinc 2 1, 3) := by decide +kernel
theorem dX9_init_155 : decode cX9_init 155 = .ok (.goto (-19), 3) := by decide +kernel
theorem dX9_init_158 : decode cX9_init 158 = .ok (.iinc 1 1, 3) := by decide +kernel
theorem dX9_init_161 : decode cX9_init 161 = .ok (.goto (-33), 3) := by decide +kernel
theorem dX9_init_164 : decode cX9_init 164 = .ok (.return_, 1) := by decide +kernel
theorem dX9_year_0 : decode cX9_year 0 = .ok (.iload_n 1, 1) := by decide +kernel
theorem dX9_year_1 : decode cX9_year 1 = .ok (.invokestatic 77, 3) := by decide +kernel
theorem dX9_year_4 : decode cX9_year 4 = .ok (.ifCond .ne 6, 3) := by decide +kernel
theorem dX9_year_7 : decode cX9_year 7 = .ok (.ldc 81, 2) := by decide +kernel
theorem dX9_year_9 : decode cX9_year 9 = .ok (.ireturn, 1) := by decide +kernel
theorem dX9_year_10 : decode cX9_year 10 = .ok (.iload_n 2, 1) := by decide +kernel
theorem dX9_year_11 : decode cX9_year 11 = .ok (.invokestatic 82, 3) := by decide +kernel
theorem dX9_year_14 : decode cX9_year 14 = .ok (.ifCond .eq 10, 3) := by decide +kernel
theorem dX9_year_17 : decode cX9_year 17 = .ok (.iload_n 3, 1) := by decide +kernel
theorem dX9_year_18 : decode cX9_year 18 = .ok (.invokestatic 85, 3) := by decide +kernel
theorem dX9_year_21 : decode cX9_year 21 = .ok (.ifCond .ne 6, 3) := by decide +kernel
theorem dX9_year_24 : decode cX9_year 24 = .ok (.ldc 88, 2) := by decide +kernel
theorem dX9_year_26 : decode cX9_year 26 = .ok (.ireturn, 1) := by decide +kernel
theorem dX9_year_27 : decode cX9_year 27 = .ok (.aload_n 0, 1) := by decide +kernel
theorem dX9_year_28 : decode cX9_year 28 = .ok (.getfield 11, 3) := by decide +kernel
theorem dX9_year_31 : decode cX9_year 31 = .ok (.iload_n 1, 1) := by decide +kernel
theorem dX9_year_32 : decode cX9_year 32 = .ok (.aaload, 1) := by decide +kernel
theorem dX9_year_33 : decode cX9_year 33 = .ok (.iload_n 2, 1) := by decide +kernel
theorem dX9_year_34 : decode cX9_year 34 = .ok (.iaload, 1) := by decide +kernel
theorem dX9_year_35 : decode cX9_year 35 = .ok (.istore 4, 2) := by decide +kernel
theorem dX9_year_37 : decode cX9_year 37 = .ok (.aload_n 0, 1) := by decide +kernel
theorem dX9_year_38 : decode cX9_year 38 = .ok (.getfield 11, 3) := by decide +kernel
theorem dX9_year_41 : decode cX9_year 41 = .ok (.iload_n 1, 1) := by decide +kernel
theorem dX9_year_42 : decode cX9_year 42 = .ok (.aaload, 1) := by decide +kernel
theorem dX9_year_43 : decode cX9_year 43 = .ok (.iload_n 2, 1) := by decide +kernel
theorem dX9_year_44 : decode cX9_year 44 = .ok (.iload_n 3, 1) := by decide +kernel
theorem dX9_year_45 : decode cX9_year 45 = .ok (.iastore, 1) := by decide +kernel
theorem dX9_year_46 : decode cX9_year 46 = .ok (.iload 4, 2) := by decide +kernel
theorem dX9_year_48 : decode cX9_year 48 = .ok (.ireturn, 1) := by decide +kernel
theorem dX9_say_0 : decode cX9_say 0 = .ok (.iload_n 1, 1) := by decide +kernel
theorem dX9_say_1 : decode cX9_say 1 = .ok (.bipush 33, 2) := by decide +kernel
theorem dX9_say_3 : decode cX9_say 3 = .ok (.bipush 126, 2) := by decide +kernel
theorem dX9_say_5 : decode cX9_say 5 = .ok (.invokestatic 89, 3) := by decide +kernel
theorem dX9_say_8 : decode cX9_say 8 = .ok (.ifCond .ne 6, 3) := by decide +kernel
theorem dX9_say_11 : decode cX9_say 11 = .ok (.bipush (-2), 2) := by decide +kernel
theorem dX9_say_13 : decode cX9_say 13 = .ok (.ireturn, 1) := by decide +kernel
theorem dX9_say_14 : decode cX9_say 14 = .ok (.aload_n 0, 1) := by decide +kernel
theorem dX9_say_15 : decode cX9_say 15 = .ok (.getfield 17, 3) := by decide +kernel
theorem dX9_say_18 : decode cX9_say 18 = .ok (.invokevirtual 93, 3) := by decide +kernel
theorem dX9_say_21 : decode cX9_say 21 = .ok (.ifCond .eq 6, 3) := by decide +kernel
theorem dX9_say_24 : decode cX9_say 24 = .ok (.bipush (-4), 2) := by decide +kernel
theorem dX9_say_26 : decode cX9_say 26 = .ok (.ireturn, 1) := by decide +kernel
theorem dX9_say_27 : decode cX9_say 27 = .ok (.aload_n 0, 1) := by decide +kernel
theorem dX9_say_28 : decode cX9_say 28 = .ok (.getfield 17, 3) := by decide +kernel
theorem dX9_say_31 : decode cX9_say 31 = .ok (.iload_n 1, 1) := by decide +kernel
theorem dX9_say_32 : decode cX9_say 32 = .ok (.invokevirtual 97, 3) := by decide +kernel
theorem dX9_say_35 : decode cX9_say 35 = .ok (.aload_n 0, 1) := by decide +kernel
theorem dX9_say_36 : decode cX9_say 36 = .ok (.getfield 17, 3) := by decide +kernel
theorem dX9_say_39 : decode cX9_say 39 = .ok (.getfield 101, 3) := by decide +kernel
theorem dX9_say_42 : decode cX9_say 42 = .ok (.ireturn, 1) := by decide +kernel
theorem dX9_wipe_0 : decode cX9_wipe 0 = .ok (.aload_n 0, 1) := by decide +kernel
theorem dX9_wipe_1 : decode cX9_wipe 1 = .ok (.getfield 17, 3) := by decide +kernel
theorem dX9_wipe_4 : decode cX9_wipe 4 = .ok (.getfield 101, 3) := by decide +kernel
theorem dX9_wipe_7 : decode cX9_wipe 7 = .ok (.istore_n 1, 1) := by decide +kernel
theorem dX9_wipe_8 : decode cX9_wipe 8 = .ok (.aload_n 0, 1) := by decide +kernel
theorem dX9_wipe_9 : decode cX9_wipe 9 = .ok (.getfield 17, 3) := by decide +kernel
theorem dX9_wipe_12 : decode cX9_wipe 12 = .ok (.invokevirtual 105, 3) := by decide +kernel
theorem dX9_wipe_15 : decode cX9_wipe 15 = .ok (.iload_n 1, 1) := by decide +kernel
theorem dX9_wipe_16 : decode cX9_wipe 16 = .ok (.ireturn, 1) := by decide +kernel
theorem dX9_fault_0 : decode cX9_fault 0 = .ok (.aload_n 0, 1) := by decide +kernel
theorem dX9_fault_1 : decode cX9_fault 1 = .ok (.getfield 17, 3) := by decide +kernel
theorem dX9_fault_4 : decode cX9_fault 4 = .ok (.invokevirtual 108, 3) := by decide +kernel
theorem dX9_fault_7 : decode cX9_fault 7 = .ok (.ireturn, 1) := by decide +kernel
theorem dX9_dealt_0 : decode cX9_dealt 0 = .ok (.aload_n 0, 1) := by decide +kernel
theorem dX9_dealt_1 : decode cX9_dealt 1 = .ok (.iload_n 1, 1) := by decide +kernel
theorem dX9_dealt_2 : decode cX9_dealt 2 = .ok (.invokestatic 77, 3) := by decide +kernel
theorem dX9_dealt_5 : decode cX9_dealt 5 = .ok (.iload_n 2, 1) := by decide +kernel
theorem dX9_dealt_6 : decode cX9_dealt 6 = .ok (.invokestatic 82, 3) := by decide +kernel
theorem dX9_dealt_9 : decode cX9_dealt 9 = .ok (.invokevirtual 112, 3) := by decide +kernel
theorem dX9_dealt_12 : decode cX9_dealt 12 = .ok (.istore_n 3, 1) := by decide +kernel
theorem dX9_dealt_13 : decode cX9_dealt 13 = .ok (.iload_n 3, 1) := by decide +kernel
theorem dX9_dealt_14 : decode cX9_dealt 14 = .ok (.ifCond .eq 8, 3) := by decide +kernel
theorem dX9_dealt_17 : decode cX9_dealt 17 = .ok (.ldc 76, 2) := by decide +kernel
theorem dX9_dealt_19 : decode cX9_dealt 19 = .ok (.iload_n 3, 1) := by decide +kernel
theorem dX9_dealt_20 : decode cX9_dealt 20 = .ok (.iadd, 1) := by decide +kernel
theorem dX9_dealt_21 : decode cX9_dealt 21 = .ok (.ireturn, 1) := by decide +kernel
theorem dX9_dealt_22 : decode cX9_dealt 22 = .ok (.aload_n 0, 1) := by decide +kernel
theorem dX9_dealt_23 : decode cX9_dealt 23 = .ok (.getfield 24, 3) := by decide +kernel
theorem dX9_dealt_26 : decode cX9_dealt 26 = .ok (.aload_n 0, 1) := by decide +kernel
theorem dX9_dealt_27 : decode cX9_dealt 27 = .ok (.getfield 11, 3) := by decide +kernel
theorem dX9_dealt_30 : decode cX9_dealt 30 = .ok (.iload_n 1, 1) := by decide +kernel
theorem dX9_dealt_31 : decode cX9_dealt 31 = .ok (.aaload, 1) := by decide +kernel
theorem dX9_dealt_32 : decode cX9_dealt 32 = .ok (.aload_n 0, 1) := by decide +kernel
theorem dX9_dealt_33 : decode cX9_dealt 33 = .ok (.getfield 17, 3) := by decide +kernel
theorem dX9_dealt_36 : decode cX9_dealt 36 = .ok (.invokevirtual 116, 3) := by decide +kernel
theorem dX9_dealt_39 : decode cX9_dealt 39 = .ok (.aload_n 0, 1) := by decide +kernel
theorem dX9_dealt_40 : decode cX9_dealt 40 = .ok (.getfield 24, 3) := by decide +kernel
theorem dX9_dealt_43 : decode cX9_dealt 43 = .ok (.getfield 120, 3) := by decide +kernel
theorem dX9_dealt_46 : decode cX9_dealt 46 = .ok (.iload_n 2, 1) := by decide +kernel
theorem dX9_dealt_47 : decode cX9_dealt 47 = .ok (.iaload, 1) := by decide +kernel
theorem dX9_dealt_48 : decode cX9_dealt 48 = .ok (.ireturn, 1) := by decide +kernel
theorem dX9_share_0 : decode cX9_share 0 = .ok (.aload_n 0, 1) := by decide +kernel
theorem dX9_share_1 : decode cX9_share 1 = .ok (.iload_n 1, 1) := by decide +kernel
theorem dX9_share_2 : decode cX9_share 2 = .ok (.invokestatic 77, 3) := by decide +kernel
theorem dX9_share_5 : decode cX9_share 5 = .ok (.iload_n 2, 1) := by decide +kernel
theorem dX9_share_6 : decode cX9_share 6 = .ok (.invokestatic 124, 3) := by decide +kernel
theorem dX9_share_9 : decode cX9_share 9 = .ok (.ifCond .eq 14, 3) := by decide +kernel
theorem dX9_share_12 : decode cX9_share 12 = .ok (.iload_n 3, 1) := by decide +kernel
theorem dX9_share_13 : decode cX9_share 13 = .ok (.invokestatic 127, 3) := by decide +kernel
theorem dX9_share_16 : decode cX9_share 16 = .ok (.ifCond .eq 7, 3) := by decide +kernel
theorem dX9_share_19 : decode cX9_share 19 = .ok (.iconst 1, 1) := by decide +kernel
theorem dX9_share_20 : decode cX9_share 20 = .ok (.goto 4, 3) := by decide +kernel
theorem dX9_share_23 : decode cX9_share 23 = .ok (.iconst 0, 1) := by decide +kernel
theorem dX9_share_24 : decode cX9_share 24 = .ok (.invokevirtual 112, 3) := by decide +kernel
theorem dX9_share_27 : decode cX9_share 27 = .ok (.istore 4, 2) := by decide +kernel
theorem dX9_share_29 : decode cX9_share 29 = .ok (.iload 4, 2) := by decide +kernel
theorem dX9_share_31 : decode cX9_share 31 = .ok (.ifCond .eq 11, 3) := by decide +kernel
theorem dX9_share_34 : decode cX9_share 34 = .ok (.ldc2_w 130, 3) := by decide +kernel
theorem dX9_share_37 : decode cX9_share 37 = .ok (.iload 4, 2) := by decide +kernel
theorem dX9_share_39 : decode cX9_share 39 = .ok (.i2l, 1) := by decide +kernel
theorem dX9_share_40 : decode cX9_share 40 = .ok (.ladd, 1) := by decide +kernel
theorem dX9_share_41 : decode cX9_share 41 = .ok (.lreturn, 1) := by decide +kernel
theorem dX9_share_42 : decode cX9_share 42 = .ok (.aload_n 0, 1) := by decide +kernel
theorem dX9_share_43 : decode cX9_share 43 = .ok (.iload_n 1, 1) := by decide +kernel
theorem dX9_share_44 : decode cX9_share 44 = .ok (.iload_n 2, 1) := by decide +kernel
theorem dX9_share_45 : decode cX9_share 45 = .ok (.invokevirtual 132, 3) := by decide +kernel
theorem dX9_share_48 : decode cX9_share 48 = .ok (.aload_n 0, 1) := by decide +kernel
theorem dX9_share_49 : decode cX9_share 49 = .ok (.getfield 55, 3) := by decide +kernel
theorem dX9_share_52 : decode cX9_share 52 = .ok (.iload_n 3, 1) := by decide +kernel
theorem dX9_share_53 : decode cX9_share 53 = .ok (.invokevirtual 136, 3) := by decide +kernel
theorem dX9_share_56 : decode cX9_share 56 = .ok (.lreturn, 1) := by decide +kernel
theorem dX9_odds_0 : decode cX9_odds 0 = .ok (.aload_n 0, 1) := by decide +kernel
theorem dX9_odds_1 : decode cX9_odds 1 = .ok (.iload_n 1, 1) := by decide +kernel
theorem dX9_odds_2 : decode cX9_odds 2 = .ok (.iload_n 2, 1) := by decide +kernel
theorem dX9_odds_3 : decode cX9_odds 3 = .ok (.iload_n 2, 1) := by decide +kernel
theorem dX9_odds_4 : decode cX9_odds 4 = .ok (.iload_n 3, 1) := by decide +kernel
theorem dX9_odds_5 : decode cX9_odds 5 = .ok (.invokevirtual 140, 3) := by decide +kernel
theorem dX9_odds_8 : decode cX9_odds 8 = .ok (.lreturn, 1) := by decide +kernel
theorem dX9_tried_0 : decode cX9_tried 0 = .ok (.aload_n 0, 1) := by decide +kernel
theorem dX9_tried_1 : decode cX9_tried 1 = .ok (.iload_n 1, 1) := by decide +kernel
theorem dX9_tried_2 : decode cX9_tried 2 = .ok (.iload_n 2, 1) := by decide +kernel
theorem dX9_tried_3 : decode cX9_tried 3 = .ok (.iload_n 3, 1) := by decide +kernel
theorem dX9_tried_4 : decode cX9_tried 4 = .ok (.iload 4, 2) := by decide +kernel
theorem dX9_tried_6 : decode cX9_tried 6 = .ok (.invokevirtual 140, 3) := by decide +kernel
theorem dX9_tried_9 : decode cX9_tried 9 = .ok (.lreturn, 1) := by decide +kernel
theorem dX9_drawn_0 : decode cX9_drawn 0 = .ok (.iload_n 2, 1) := by decide +kernel
theorem dX9_drawn_1 : decode cX9_drawn 1 = .ok (.invokestatic 124, 3) := by decide +kernel
theorem dX9_drawn_4 : decode cX9_drawn 4 = .ok (.ifCond .eq 28, 3) := by decide +kernel
theorem dX9_drawn_7 : decode cX9_drawn 7 = .ok (.iload_n 3, 1) := by decide +kernel
theorem dX9_drawn_8 : decode cX9_drawn 8 = .ok (.iconst 1, 1) := by decide +kernel
theorem dX9_drawn_9 : decode cX9_drawn 9 = .ok (.bipush 100, 2) := by decide +kernel
theorem dX9_drawn_11 : decode cX9_drawn 11 = .ok (.invokestatic 89, 3) := by decide +kernel
theorem dX9_drawn_14 : decode cX9_drawn 14 = .ok (.ifCond .eq 18, 3) := by decide +kernel
theorem dX9_drawn_17 : decode cX9_drawn 17 = .ok (.iload 4, 2) := by decide +kernel
theorem dX9_drawn_19 : decode cX9_drawn 19 = .ok (.iconst 1, 1) := by decide +kernel
theorem dX9_drawn_20 : decode cX9_drawn 20 = .ok (.ldc 144, 2) := by decide +kernel
theorem dX9_drawn_22 : decode cX9_drawn 22 = .ok (.invokestatic 89, 3) := by decide +kernel
theorem dX9_drawn_25 : decode cX9_drawn 25 = .ok (.ifCond .eq 7, 3) := by decide +kernel
theorem dX9_drawn_28 : decode cX9_drawn 28 = .ok (.iconst 1, 1) := by decide +kernel
theorem dX9_drawn_29 : decode cX9_drawn 29 = .ok (.goto 4, 3) := by decide +kernel
theorem dX9_drawn_32 : decode cX9_drawn 32 = .ok (.iconst 0, 1) := by decide +kernel
theorem dX9_drawn_33 : decode cX9_drawn 33 = .ok (.istore 5, 2) := by decide +kernel
theorem dX9_drawn_35 : decode cX9_drawn 35 = .ok (.aload_n 0, 1) := by decide +kernel
theorem dX9_drawn_36 : decode cX9_drawn 36 = .ok (.iload_n 1, 1) := by decide +kernel
theorem dX9_drawn_37 : decode cX9_drawn 37 = .ok (.invokestatic 77, 3) := by decide +kernel
theorem dX9_drawn_40 : decode cX9_drawn 40 = .ok (.iload 5, 2) := by decide +kernel
theorem dX9_drawn_42 : decode cX9_drawn 42 = .ok (.invokevirtual 112, 3) := by decide +kernel
theorem dX9_drawn_45 : decode cX9_drawn 45 = .ok (.istore 6, 2) := by decide +kernel
theorem dX9_drawn_47 : decode cX9_drawn 47 = .ok (.iload 6, 2) := by decide +kernel
theorem dX9_drawn_49 : decode cX9_drawn 49 = .ok (.ifCond .eq 6, 3) := by decide +kernel
theorem dX9_drawn_52 : decode cX9_drawn 52 = .ok (.iload 6, 2) := by decide +kernel
theorem dX9_drawn_54 : decode cX9_drawn 54 = .ok (.ireturn, 1) := by decide +kernel
theorem dX9_drawn_55 : decode cX9_drawn 55 = .ok (.aload_n 0, 1) := by decide +kernel
theorem dX9_drawn_56 : decode cX9_drawn 56 = .ok (.iload_n 1, 1) := by decide +kernel
theorem dX9_drawn_57 : decode cX9_drawn 57 = .ok (.bipush 24, 2) := by decide +kernel
theorem dX9_drawn_59 : decode cX9_drawn 59 = .ok (.iload_n 2, 1) := by decide +kernel
theorem dX9_drawn_60 : decode cX9_drawn 60 = .ok (.iload_n 2, 1) := by decide +kernel
theorem dX9_drawn_61 : decode cX9_drawn 61 = .ok (.invokevirtual 145, 3) := by decide +kernel
theorem dX9_drawn_64 : decode cX9_drawn 64 = .ok (.aload_n 0, 1) := by decide +kernel
theorem dX9_drawn_65 : decode cX9_drawn 65 = .ok (.getfield 34, 3) := by decide +kernel
theorem dX9_drawn_68 : decode cX9_drawn 68 = .ok (.aload_n 0, 1) := by decide +kernel
theorem dX9_drawn_69 : decode cX9_drawn 69 = .ok (.getfield 24, 3) := by decide +kernel
theorem dX9_drawn_72 : decode cX9_drawn 72 = .ok (.getfield 149, 3) := by decide +kernel
theorem dX9_drawn_75 : decode cX9_drawn 75 = .ok (.invokevirtual 152, 3) := by decide +kernel
theorem dX9_drawn_78 : decode cX9_drawn 78 = .ok (.lstore 7, 2) := by decide +kernel
theorem dX9_drawn_80 : decode cX9_drawn 80 = .ok (.aload_n 0, 1) := by decide +kernel
theorem dX9_drawn_81 : decode cX9_drawn 81 = .ok (.getfield 41, 3) := by decide +kernel
theorem dX9_drawn_84 : decode cX9_drawn 84 = .ok (.aload_n 0, 1) := by decide +kernel
theorem dX9_drawn_85 : decode cX9_drawn 85 = .ok (.getfield 24, 3) := by decide +kernel
theorem dX9_drawn_88 : decode cX9_drawn 88 = .ok (.iload 4, 2) := by decide +kernel
theorem dX9_drawn_90 : decode cX9_drawn 90 = .ok (.invokevirtual 156, 3) := by decide +kernel
theorem dX9_drawn_93 : decode cX9_drawn 93 = .ok (.iconst 0, 1) := by decide +kernel
theorem dX9_drawn_94 : decode cX9_drawn 94 = .ok (.istore 9, 2) := by decide +kernel
theorem dX9_drawn_96 : decode cX9_drawn 96 = .ok (.iconst 0, 1) := by decide +kernel
theorem dX9_drawn_97 : decode cX9_drawn 97 = .ok (.istore 10, 2) := by decide +kernel
theorem dX9_drawn_99 : decode cX9_drawn 99 = .ok (.iload 10, 2) := by decide +kernel
theorem dX9_drawn_101 : decode cX9_drawn 101 = .ok (.iload_n 3, 1) := by decide +kernel
theorem dX9_drawn_102 : decode cX9_drawn 102 = .ok (.if_icmp .ge 38, 3) := by decide +kernel
theorem dX9_drawn_105 : decode cX9_drawn 105 = .ok (.aload_n 0, 1) := by decide +kernel
theorem dX9_drawn_106 : decode cX9_drawn 106 = .ok (.getfield 41, 3) := by decide +kernel
theorem dX9_drawn_109 : decode cX9_drawn 109 = .ok (.invokevirtual 160, 3) := by decide +kernel
theorem dX9_drawn_112 : decode cX9_drawn 112 = .ok (.aload_n 0, 1) := by decide +kernel
theorem dX9_drawn_113 : decode cX9_drawn 113 = .ok (.getfield 34, 3) := by decide +kernel
theorem dX9_drawn_116 : decode cX9_drawn 116 = .ok (.aload_n 0, 1) := by decide +kernel
theorem dX9_drawn_117 : decode cX9_drawn 117 = .ok (.getfield 41, 3) := by decide +kernel
theorem dX9_drawn_120 : decode cX9_drawn 120 = .ok (.getfield 163, 3) := by decide +kernel
theorem dX9_drawn_123 : decode cX9_drawn 123 = .ok (.lload 7, 2) := by decide +kernel
theorem dX9_drawn_125 : decode cX9_drawn 125 = .ok (.invokevirtual 164, 3) := by decide +kernel
theorem dX9_drawn_128 : decode cX9_drawn 128 = .ok (.ifCond .eq 6, 3) := by decide +kernel
theorem dX9_drawn_131 : decode cX9_drawn 131 = .ok (.iinc 9 1, 3) := by decide +kernel
theorem dX9_drawn_134 : decode cX9_drawn 134 = .ok (.iinc 10 1, 3) := by decide +kernel
theorem dX9_drawn_137 : decode cX9_drawn 137 = .ok (.goto (-38), 3) := by decide +kernel
theorem dX9_drawn_140 : decode cX9_drawn 140 = .ok (.iload 9, 2) := by decide +kernel
theorem dX9_drawn_142 : decode cX9_drawn 142 = .ok (.ireturn, 1) := by decide +kernel
theorem dX9_together_0 : decode cX9_together 0 = .ok (.aload_n 0, 1) := by decide +kernel
theorem dX9_together_1 : decode cX9_together 1 = .ok (.iload_n 1, 1) := by decide +kernel
theorem dX9_together_2 : decode cX9_together 2 = .ok (.invokestatic 77, 3) := by decide +kernel
theorem dX9_together_5 : decode cX9_together 5 = .ok (.ifCond .eq 14, 3) := by decide +kernel
theorem dX9_together_8 : decode cX9_together 8 = .ok (.iload_n 2, 1) := by decide +kernel
theorem dX9_together_9 : decode cX9_together 9 = .ok (.invokestatic 77, 3) := by decide +kernel
theorem dX9_together_12 : decode cX9_together 12 = .ok (.ifCond .eq 7, 3) := by decide +kernel
theorem dX9_together_15 : decode cX9_together 15 = .ok (.iconst 1, 1) := by decide +kernel
theorem dX9_together_16 : decode cX9_together 16 = .ok (.goto 4, 3) := by decide +kernel
theorem dX9_together_19 : decode cX9_together 19 = .ok (.iconst 0, 1) := by decide +kernel
theorem dX9_together_20 : decode cX9_together 20 = .ok (.iload_n 3, 1) := by decide +kernel
theorem dX9_together_21 : decode cX9_together 21 = .ok (.invokestatic 82, 3) := by decide +kernel
theorem dX9_together_24 : decode cX9_together 24 = .ok (.ifCond .eq 15, 3) := by decide +kernel
theorem dX9_together_27 : decode cX9_together 27 = .ok (.iload 4, 2) := by decide +kernel
theorem dX9_together_29 : decode cX9_together 29 = .ok (.invokestatic 127, 3) := by decide +kernel
theorem dX9_together_32 : decode cX9_together 32 = .ok (.ifCond .eq 7, 3) := by decide +kernel
theorem dX9_together_35 : decode cX9_together 35 = .ok (.iconst 1, 1) := by decide +kernel
theorem dX9_together_36 : decode cX9_together 36 = .ok (.goto 4, 3) := by decide +kernel
theorem dX9_together_39 : decode cX9_together 39 = .ok (.iconst 0, 1) := by decide +kernel
theorem dX9_together_40 : decode cX9_together 40 = .ok (.invokevirtual 112, 3) := by decide +kernel
theorem dX9_together_43 : decode cX9_together 43 = .ok (.istore 5, 2) := by decide +kernel
theorem dX9_together_45 : decode cX9_together 45 = .ok (.iload 5, 2) := by decide +kernel
theorem dX9_together_47 : decode cX9_together 47 = .ok (.ifCond .eq 11, 3) := by decide +kernel
theorem dX9_together_50 : decode cX9_together 50 = .ok (.ldc2_w 130, 3) := by decide +kernel
theorem dX9_together_53 : decode cX9_together 53 = .ok (.iload 5, 2) := by decide +kernel
theorem dX9_together_55 : decode cX9_together 55 = .ok (.i2l, 1) := by decide +kernel
theorem dX9_together_56 : decode cX9_together 56 = .ok (.ladd, 1) := by decide +kernel
theorem dX9_together_57 : decode cX9_together 57 = .ok (.lreturn, 1) := by decide +kernel
theorem dX9_together_58 : decode cX9_together 58 = .ok (.aload_n 0, 1) := by decide +kernel
theorem dX9_together_59 : decode cX9_together 59 = .ok (.iload_n 1, 1) := by decide +kernel
theorem dX9_together_60 : decode cX9_together 60 = .ok (.iload_n 2, 1) := by decide +kernel
theorem dX9_together_61 : decode cX9_together 61 = .ok (.invokevirtual 168, 3) := by decide +kernel
theorem dX9_together_64 : decode cX9_together 64 = .ok (.aload_n 0, 1) := by decide +kernel
theorem dX9_together_65 : decode cX9_together 65 = .ok (.iload_n 3, 1) := by decide +kernel
theorem dX9_together_66 : decode cX9_together 66 = .ok (.aload_n 0, 1) := by decide +kernel
theorem dX9_together_67 : decode cX9_together 67 = .ok (.getfield 55, 3) := by decide +kernel
theorem dX9_together_70 : decode cX9_together 70 = .ok (.invokevirtual 171, 3) := by decide +kernel
theorem dX9_together_73 : decode cX9_together 73 = .ok (.aload_n 0, 1) := by decide +kernel
theorem dX9_together_74 : decode cX9_together 74 = .ok (.getfield 55, 3) := by decide +kernel
theorem dX9_together_77 : decode cX9_together 77 = .ok (.iload 4, 2) := by decide +kernel
theorem dX9_together_79 : decode cX9_together 79 = .ok (.invokevirtual 136, 3) := by decide +kernel
theorem dX9_together_82 : decode cX9_together 82 = .ok (.lreturn, 1) := by decide +kernel
theorem dX9_go_0 : decode cX9_go 0 = .ok (.aload_n 0, 1) := by decide +kernel
theorem dX9_go_1 : decode cX9_go 1 = .ok (.iload_n 1, 1) := by decide +kernel
theorem dX9_go_2 : decode cX9_go 2 = .ok (.invokestatic 77, 3) := by decide +kernel
theorem dX9_go_5 : decode cX9_go 5 = .ok (.ifCond .eq 14, 3) := by decide +kernel
theorem dX9_go_8 : decode cX9_go 8 = .ok (.iload_n 2, 1) := by decide +kernel
theorem dX9_go_9 : decode cX9_go 9 = .ok (.invokestatic 77, 3) := by decide +kernel
theorem dX9_go_12 : decode cX9_go 12 = .ok (.ifCond .eq 7, 3) := by decide +kernel
theorem dX9_go_15 : decode cX9_go 15 = .ok (.iconst 1, 1) := by decide +kernel
theorem dX9_go_16 : decode cX9_go 16 = .ok (.goto 4, 3) := by decide +kernel
theorem dX9_go_19 : decode cX9_go 19 = .ok (.iconst 0, 1) := by decide +kernel
theorem dX9_go_20 : decode cX9_go 20 = .ok (.iconst 1, 1) := by decide +kernel
theorem dX9_go_21 : decode cX9_go 21 = .ok (.invokevirtual 112, 3) := by decide +kernel
theorem dX9_go_24 : decode cX9_go 24 = .ok (.istore_n 3, 1) := by decide +kernel
theorem dX9_go_25 : decode cX9_go 25 = .ok (.iload_n 3, 1) := by decide +kernel
theorem dX9_go_26 : decode cX9_go 26 = .ok (.ifCond .eq 5, 3) := by decide +kernel
theorem dX9_go_29 : decode cX9_go 29 = .ok (.iload_n 3, 1) := by decide +kernel
theorem dX9_go_30 : decode cX9_go 30 = .ok (.ireturn, 1) := by decide +kernel
theorem dX9_go_31 : decode cX9_go 31 = .ok (.aload_n 0, 1) := by decide +kernel
theorem dX9_go_32 : decode cX9_go 32 = .ok (.iload_n 1, 1) := by decide +kernel
theorem dX9_go_33 : decode cX9_go 33 = .ok (.iload_n 2, 1) := by decide +kernel
theorem dX9_go_34 : decode cX9_go 34 = .ok (.invokevirtual 168, 3) := by decide +kernel
theorem dX9_go_37 : decode cX9_go 37 = .ok (.aload_n 0, 1) := by decide +kernel
theorem dX9_go_38 : decode cX9_go 38 = .ok (.iconst 0, 1) := by decide +kernel
theorem dX9_go_39 : decode cX9_go 39 = .ok (.aload_n 0, 1) := by decide +kernel
theorem dX9_go_40 : decode cX9_go 40 = .ok (.getfield 59, 3) := by decide +kernel
theorem dX9_go_43 : decode cX9_go 43 = .ok (.invokevirtual 171, 3) := by decide +kernel
theorem dX9_go_46 : decode cX9_go 46 = .ok (.iconst 0, 1) := by decide +kernel
theorem dX9_go_47 : decode cX9_go 47 = .ok (.istore 4, 2) := by decide +kernel
theorem dX9_go_49 : decode cX9_go 49 = .ok (.iconst 0, 1) := by decide +kernel
theorem dX9_go_50 : decode cX9_go 50 = .ok (.istore 5, 2) := by decide +kernel
theorem dX9_go_52 : decode cX9_go 52 = .ok (.iload 5, 2) := by decide +kernel
theorem dX9_go_54 : decode cX9_go 54 = .ok (.bipush 24, 2) := by decide +kernel
theorem dX9_go_56 : decode cX9_go 56 = .ok (.if_icmp .ge 36, 3) := by decide +kernel
theorem dX9_go_59 : decode cX9_go 59 = .ok (.aload_n 0, 1) := by decide +kernel
theorem dX9_go_60 : decode cX9_go 60 = .ok (.iload 5, 2) := by decide +kernel
theorem dX9_go_62 : decode cX9_go 62 = .ok (.aload_n 0, 1) := by decide +kernel
theorem dX9_go_63 : decode cX9_go 63 = .ok (.getfield 55, 3) := by decide +kernel
theorem dX9_go_66 : decode cX9_go 66 = .ok (.invokevirtual 171, 3) := by decide +kernel
theorem dX9_go_69 : decode cX9_go 69 = .ok (.aload_n 0, 1) := by decide +kernel
theorem dX9_go_70 : decode cX9_go 70 = .ok (.getfield 55, 3) := by decide +kernel
theorem dX9_go_73 : decode cX9_go 73 = .ok (.aload_n 0, 1) := by decide +kernel
theorem dX9_go_74 : decode cX9_go 74 = .ok (.getfield 59, 3) := by decide +kernel
theorem dX9_go_77 : decode cX9_go 77 = .ok (.invokevirtual 175, 3) := by decide +kernel
theorem dX9_go_80 : decode cX9_go 80 = .ok (.ifCond .eq 6, 3) := by decide +kernel
theorem dX9_go_83 : decode cX9_go 83 = .ok (.iinc 4 1, 3) := by decide +kernel
theorem dX9_go_86 : decode cX9_go 86 = .ok (.iinc 5 1, 3) := by decide +kernel
theorem dX9_go_89 : decode cX9_go 89 = .ok (.goto (-37), 3) := by decide +kernel
theorem dX9_go_92 : decode cX9_go 92 = .ok (.iload 4, 2) := by decide +kernel
theorem dX9_go_94 : decode cX9_go 94 = .ok (.ireturn, 1) := by decide +kernel
theorem dX9_waves_0 : decode cX9_waves 0 = .ok (.iload_n 1, 1) := by decide +kernel
theorem dX9_waves_1 : decode cX9_waves 1 = .ok (.iconst 3, 1) := by decide +kernel
theorem dX9_waves_2 : decode cX9_waves 2 = .ok (.bipush 12, 2) := by decide +kernel
theorem dX9_waves_4 : decode cX9_waves 4 = .ok (.invokestatic 89, 3) := by decide +kernel
theorem dX9_waves_7 : decode cX9_waves 7 = .ok (.ifCond .eq 19, 3) := by decide +kernel
theorem dX9_waves_10 : decode cX9_waves 10 = .ok (.iload_n 2, 1) := by decide +kernel
theorem dX9_waves_11 : decode cX9_waves 11 = .ok (.iconst 1, 1) := by decide +kernel
theorem dX9_waves_12 : decode cX9_waves 12 = .ok (.iconst 5, 1) := by decide +kernel
theorem dX9_waves_13 : decode cX9_waves 13 = .ok (.invokestatic 89, 3) := by decide +kernel
theorem dX9_waves_16 : decode cX9_waves 16 = .ok (.ifCond .eq 10, 3) := by decide +kernel
theorem dX9_waves_19 : decode cX9_waves 19 = .ok (.iload_n 3, 1) := by decide +kernel
theorem dX9_waves_20 : decode cX9_waves 20 = .ok (.invokestatic 127, 3) := by decide +kernel
theorem dX9_waves_23 : decode cX9_waves 23 = .ok (.ifCond .ne 7, 3) := by decide +kernel
theorem dX9_waves_26 : decode cX9_waves 26 = .ok (.ldc2_w 179, 3) := by decide +kernel
theorem dX9_waves_29 : decode cX9_waves 29 = .ok (.lreturn, 1) := by decide +kernel
theorem dX9_waves_30 : decode cX9_waves 30 = .ok (.iconst 0, 1) := by decide +kernel
theorem dX9_waves_31 : decode cX9_waves 31 = .ok (.istore 4, 2) := by decide +kernel
theorem dX9_waves_33 : decode cX9_waves 33 = .ok (.iconst 0, 1) := by decide +kernel
theorem dX9_waves_34 : decode cX9_waves 34 = .ok (.istore 5, 2) := by decide +kernel
theorem dX9_waves_36 : decode cX9_waves 36 = .ok (.iload 5, 2) := by decide +kernel
theorem dX9_waves_38 : decode cX9_waves 38 = .ok (.iconst 1, 1) := by decide +kernel
theorem dX9_waves_39 : decode cX9_waves 39 = .ok (.iload_n 1, 1) := by decide +kernel
theorem dX9_waves_40 : decode cX9_waves 40 = .ok (.ishl, 1) := by decide +kernel
theorem dX9_waves_41 : decode cX9_waves 41 = .ok (.if_icmp .ge 21, 3) := by decide +kernel
theorem dX9_waves_44 : decode cX9_waves 44 = .ok (.iload 4, 2) := by decide +kernel
theorem dX9_waves_46 : decode cX9_waves 46 = .ok (.iload 5, 2) := by decide +kernel
theorem dX9_waves_48 : decode cX9_waves 48 = .ok (.iload_n 1, 1) := by decide +kernel
theorem dX9_waves_49 : decode cX9_waves 49 = .ok (.iload_n 2, 1) := by decide +kernel
theorem dX9_waves_50 : decode cX9_waves 50 = .ok (.invokestatic 181, 3) := by decide +kernel
theorem dX9_waves_53 : decode cX9_waves 53 = .ok (.iadd, 1) := by decide +kernel
theorem dX9_waves_54 : decode cX9_waves 54 = .ok (.istore 4, 2) := by decide +kernel
theorem dX9_waves_56 : decode cX9_waves 56 = .ok (.iinc 5 1, 3) := by decide +kernel
theorem dX9_waves_59 : decode cX9_waves 59 = .ok (.goto (-23), 3) := by decide +kernel
theorem dX9_waves_62 : decode cX9_waves 62 = .ok (.aload_n 0, 1) := by decide +kernel
theorem dX9_waves_63 : decode cX9_waves 63 = .ok (.getfield 55, 3) := by decide +kernel
theorem dX9_waves_66 : decode cX9_waves 66 = .ok (.iload 4, 2) := by decide +kernel
theorem dX9_waves_68 : decode cX9_waves 68 = .ok (.i2l, 1) := by decide +kernel
theorem dX9_waves_69 : decode cX9_waves 69 = .ok (.iconst 1, 1) := by decide +kernel
theorem dX9_waves_70 : decode cX9_waves 70 = .ok (.iload_n 1, 1) := by decide +kernel
theorem dX9_waves_71 : decode cX9_waves 71 = .ok (.ishl, 1) := by decide +kernel
theorem dX9_waves_72 : decode cX9_waves 72 = .ok (.i2l, 1) := by decide +kernel
theorem dX9_waves_73 : decode cX9_waves 73 = .ok (.invokevirtual 185, 3) := by decide +kernel
theorem dX9_waves_76 : decode cX9_waves 76 = .ok (.aload_n 0, 1) := by decide +kernel
theorem dX9_waves_77 : decode cX9_waves 77 = .ok (.getfield 55, 3) := by decide +kernel
theorem dX9_waves_80 : decode cX9_waves 80 = .ok (.iload_n 3, 1) := by decide +kernel
theorem dX9_waves_81 : decode cX9_waves 81 = .ok (.invokevirtual 136, 3) := by decide +kernel
theorem dX9_waves_84 : decode cX9_waves 84 = .ok (.lreturn, 1) := by decide +kernel
theorem dX9_found_0 : decode cX9_found 0 = .ok (.aload_n 0, 1) := by decide +kernel
theorem dX9_found_1 : decode cX9_found 1 = .ok (.iload_n 1, 1) := by decide +kernel
theorem dX9_found_2 : decode cX9_found 2 = .ok (.invokestatic 77, 3) := by decide +kernel
theorem dX9_found_5 : decode cX9_found 5 = .ok (.iload_n 2, 1) := by decide +kernel
theorem dX9_found_6 : decode cX9_found 6 = .ok (.invokestatic 189, 3) := by decide +kernel
theorem dX9_found_9 : decode cX9_found 9 = .ok (.ifCond .eq 16, 3) := by decide +kernel
theorem dX9_found_12 : decode cX9_found 12 = .ok (.iload_n 3, 1) := by decide +kernel
theorem dX9_found_13 : decode cX9_found 13 = .ok (.iconst 0, 1) := by decide +kernel
theorem dX9_found_14 : decode cX9_found 14 = .ok (.iconst 2, 1) := by decide +kernel
theorem dX9_found_15 : decode cX9_found 15 = .ok (.invokestatic 89, 3) := by decide +kernel
theorem dX9_found_18 : decode cX9_found 18 = .ok (.ifCond .eq 7, 3) := by decide +kernel
theorem dX9_found_21 : decode cX9_found 21 = .ok (.iconst 1, 1) := by decide +kernel
theorem dX9_found_22 : decode cX9_found 22 = .ok (.goto 4, 3) := by decide +kernel
theorem dX9_found_25 : decode cX9_found 25 = .ok (.iconst 0, 1) := by decide +kernel
theorem dX9_found_26 : decode cX9_found 26 = .ok (.invokevirtual 112, 3) := by decide +kernel
theorem dX9_found_29 : decode cX9_found 29 = .ok (.istore 4, 2) := by decide +kernel
theorem dX9_found_31 : decode cX9_found 31 = .ok (.iload 4, 2) := by decide +kernel
theorem dX9_found_33 : decode cX9_found 33 = .ok (.ifCond .eq 6, 3) := by decide +kernel
theorem dX9_found_36 : decode cX9_found 36 = .ok (.iload 4, 2) := by decide +kernel
theorem dX9_found_38 : decode cX9_found 38 = .ok (.ireturn, 1) := by decide +kernel
theorem dX9_found_39 : decode cX9_found 39 = .ok (.aload_n 0, 1) := by decide +kernel
theorem dX9_found_40 : decode cX9_found 40 = .ok (.iload_n 1, 1) := by decide +kernel
theorem dX9_found_41 : decode cX9_found 41 = .ok (.iload_n 2, 1) := by decide +kernel
theorem dX9_found_42 : decode cX9_found 42 = .ok (.invokevirtual 192, 3) := by decide +kernel
theorem dX9_found_45 : decode cX9_found 45 = .ok (.iload_n 3, 1) := by decide +kernel
theorem dX9_found_46 : decode cX9_found 46 = .ok (.ifCond .ne 11, 3) := by decide +kernel
theorem dX9_found_49 : decode cX9_found 49 = .ok (.aload_n 0, 1) := by decide +kernel
theorem dX9_found_50 : decode cX9_found 50 = .ok (.getfield 48, 3) := by decide +kernel
theorem dX9_found_53 : decode cX9_found 53 = .ok (.getfield 195, 3) := by decide +kernel
theorem dX9_found_56 : decode cX9_found 56 = .ok (.ireturn, 1) := by decide +kernel
theorem dX9_found_57 : decode cX9_found 57 = .ok (.iload_n 3, 1) := by decide +kernel
theorem dX9_found_58 : decode cX9_found 58 = .ok (.iconst 1, 1) := by decide +kernel
theorem dX9_found_59 : decode cX9_found 59 = .ok (.if_icmp .ne 13, 3) := by decide +kernel
theorem dX9_found_62 : decode cX9_found 62 = .ok (.aload_n 0, 1) := by decide +kernel
theorem dX9_found_63 : decode cX9_found 63 = .ok (.getfield 48, 3) := by decide +kernel
theorem dX9_found_66 : decode cX9_found 66 = .ok (.getfield 198, 3) := by decide +kernel
theorem dX9_found_69 : decode cX9_found 69 = .ok (.goto 10, 3) := by decide +kernel
theorem dX9_found_72 : decode cX9_found 72 = .ok (.aload_n 0, 1) := by decide +kernel
theorem dX9_found_73 : decode cX9_found 73 = .ok (.getfield 48, 3) := by decide +kernel
theorem dX9_found_76 : decode cX9_found 76 = .ok (.getfield 201, 3) := by decide +kernel
theorem dX9_found_79 : decode cX9_found 79 = .ok (.ireturn, 1) := by decide +kernel
theorem dX9_luck_0 : decode cX9_luck 0 = .ok (.aload_n 0, 1) := by decide +kernel
theorem dX9_luck_1 : decode cX9_luck 1 = .ok (.iload_n 1, 1) := by decide +kernel
theorem dX9_luck_2 : decode cX9_luck 2 = .ok (.invokestatic 77, 3) := by decide +kernel
theorem dX9_luck_5 : decode cX9_luck 5 = .ok (.iload_n 2, 1) := by decide +kernel
theorem dX9_luck_6 : decode cX9_luck 6 = .ok (.invokestatic 189, 3) := by decide +kernel
theorem dX9_luck_9 : decode cX9_luck 9 = .ok (.ifCond .eq 14, 3) := by decide +kernel
theorem dX9_luck_12 : decode cX9_luck 12 = .ok (.iload_n 3, 1) := by decide +kernel
theorem dX9_luck_13 : decode cX9_luck 13 = .ok (.invokestatic 127, 3) := by decide +kernel
theorem dX9_luck_16 : decode cX9_luck 16 = .ok (.ifCond .eq 7, 3) := by decide +kernel
theorem dX9_luck_19 : decode cX9_luck 19 = .ok (.iconst 1, 1) := by decide +kernel
theorem dX9_luck_20 : decode cX9_luck 20 = .ok (.goto 4, 3) := by decide +kernel
theorem dX9_luck_23 : decode cX9_luck 23 = .ok (.iconst 0, 1) := by decide +kernel
theorem dX9_luck_24 : decode cX9_luck 24 = .ok (.invokevirtual 112, 3) := by decide +kernel
theorem dX9_luck_27 : decode cX9_luck 27 = .ok (.istore 4, 2) := by decide +kernel
theorem dX9_luck_29 : decode cX9_luck 29 = .ok (.iload 4, 2) := by decide +kernel
theorem dX9_luck_31 : decode cX9_luck 31 = .ok (.ifCond .eq 11, 3) := by decide +kernel
theorem dX9_luck_34 : decode cX9_luck 34 = .ok (.ldc2_w 130, 3) := by decide +kernel
theorem dX9_luck_37 : decode cX9_luck 37 = .ok (.iload 4, 2) := by decide +kernel
theorem dX9_luck_39 : decode cX9_luck 39 = .ok (.i2l, 1) := by decide +kernel
theorem dX9_luck_40 : decode cX9_luck 40 = .ok (.ladd, 1) := by decide +kernel
theorem dX9_luck_41 : decode cX9_luck 41 = .ok (.lreturn, 1) := by decide +kernel
theorem dX9_luck_42 : decode cX9_luck 42 = .ok (.aload_n 0, 1) := by decide +kernel
theorem dX9_luck_43 : decode cX9_luck 43 = .ok (.iload_n 1, 1) := by decide +kernel
theorem dX9_luck_44 : decode cX9_luck 44 = .ok (.iload_n 2, 1) := by decide +kernel
theorem dX9_luck_45 : decode cX9_luck 45 = .ok (.invokevirtual 192, 3) := by decide +kernel
theorem dX9_luck_48 : decode cX9_luck 48 = .ok (.aload_n 0, 1) := by decide +kernel
theorem dX9_luck_49 : decode cX9_luck 49 = .ok (.getfield 48, 3) := by decide +kernel
theorem dX9_luck_52 : decode cX9_luck 52 = .ok (.aload_n 0, 1) := by decide +kernel
theorem dX9_luck_53 : decode cX9_luck 53 = .ok (.getfield 55, 3) := by decide +kernel
theorem dX9_luck_56 : decode cX9_luck 56 = .ok (.invokevirtual 204, 3) := by decide +kernel
theorem dX9_luck_59 : decode cX9_luck 59 = .ok (.aload_n 0, 1) := by decide +kernel
theorem dX9_luck_60 : decode cX9_luck 60 = .ok (.getfield 55, 3) := by decide +kernel
theorem dX9_luck_63 : decode cX9_luck 63 = .ok (.iload_n 3, 1) := by decide +kernel
theorem dX9_luck_64 : decode cX9_luck 64 = .ok (.invokevirtual 136, 3) := by decide +kernel
theorem dX9_luck_67 : decode cX9_luck 67 = .ok (.lreturn, 1) := by decide +kernel
theorem dX9_trial_0 : decode cX9_trial 0 = .ok (.aload_n 0, 1) := by decide +kernel
theorem dX9_trial_1 : decode cX9_trial 1 = .ok (.iload_n 1, 1) := by decide +kernel
theorem dX9_trial_2 : decode cX9_trial 2 = .ok (.invokestatic 77, 3) := by decide +kernel
theorem dX9_trial_5 : decode cX9_trial 5 = .ok (.iload_n 2, 1) := by decide +kernel
theorem dX9_trial_6 : decode cX9_trial 6 = .ok (.invokestatic 124, 3) := by decide +kernel
theorem dX9_trial_9 : decode cX9_trial 9 = .ok (.invokevirtual 112, 3) := by decide +kernel
theorem dX9_trial_12 : decode cX9_trial 12 = .ok (.istore_n 3, 1) := by decide +kernel
theorem dX9_trial_13 : decode cX9_trial 13 = .ok (.iload_n 3, 1) := by decide +kernel
theorem dX9_trial_14 : decode cX9_trial 14 = .ok (.ifCond .eq 5, 3) := by decide +kernel
theorem dX9_trial_17 : decode cX9_trial 17 = .ok (.iload_n 3, 1) := by decide +kernel
theorem dX9_trial_18 : decode cX9_trial 18 = .ok (.ireturn, 1) := by decide +kernel
theorem dX9_trial_19 : decode cX9_trial 19 = .ok (.aload_n 0, 1) := by decide +kernel
theorem dX9_trial_20 : decode cX9_trial 20 = .ok (.getfield 65, 3) := by decide +kernel
theorem dX9_trial_23 : decode cX9_trial 23 = .ok (.invokevirtual 208, 3) := by decide +kernel
theorem dX9_trial_26 : decode cX9_trial 26 = .ok (.ifCond .eq 6, 3) := by decide +kernel
theorem dX9_trial_29 : decode cX9_trial 29 = .ok (.bipush (-4), 2) := by decide +kernel
theorem dX9_trial_31 : decode cX9_trial 31 = .ok (.ireturn, 1) := by decide +kernel
theorem dX9_trial_32 : decode cX9_trial 32 = .ok (.aload_n 0, 1) := by decide +kernel
theorem dX9_trial_33 : decode cX9_trial 33 = .ok (.iload_n 1, 1) := by decide +kernel
theorem dX9_trial_34 : decode cX9_trial 34 = .ok (.iload_n 2, 1) := by decide +kernel
theorem dX9_trial_35 : decode cX9_trial 35 = .ok (.invokevirtual 132, 3) := by decide +kernel
theorem dX9_trial_38 : decode cX9_trial 38 = .ok (.aload_n 0, 1) := by decide +kernel
theorem dX9_trial_39 : decode cX9_trial 39 = .ok (.getfield 65, 3) := by decide +kernel
theorem dX9_trial_42 : decode cX9_trial 42 = .ok (.iload_n 1, 1) := by decide +kernel
theorem dX9_trial_43 : decode cX9_trial 43 = .ok (.iload_n 2, 1) := by decide +kernel
theorem dX9_trial_44 : decode cX9_trial 44 = .ok (.aload_n 0, 1) := by decide +kernel
theorem dX9_trial_45 : decode cX9_trial 45 = .ok (.getfield 55, 3) := by decide +kernel
theorem dX9_trial_48 : decode cX9_trial 48 = .ok (.invokevirtual 209, 3) := by decide +kernel
theorem dX9_trial_51 : decode cX9_trial 51 = .ok (.invokevirtual 212, 3) := by decide +kernel
theorem dX9_trial_54 : decode cX9_trial 54 = .ok (.aload_n 0, 1) := by decide +kernel
theorem dX9_trial_55 : decode cX9_trial 55 = .ok (.getfield 65, 3) := by decide +kernel
theorem dX9_trial_58 : decode cX9_trial 58 = .ok (.getfield 215, 3) := by decide +kernel
theorem dX9_trial_61 : decode cX9_trial 61 = .ok (.iconst 1, 1) := by decide +kernel
theorem dX9_trial_62 : decode cX9_trial 62 = .ok (.isub, 1) := by decide +kernel
theorem dX9_trial_63 : decode cX9_trial 63 = .ok (.ireturn, 1) := by decide +kernel
theorem dX9_of_0 : decode cX9_of 0 = .ok (.aload_n 0, 1) := by decide +kernel
theorem dX9_of_1 : decode cX9_of 1 = .ok (.getfield 65, 3) := by decide +kernel
theorem dX9_of_4 : decode cX9_of 4 = .ok (.iload_n 1, 1) := by decide +kernel
theorem dX9_of_5 : decode cX9_of 5 = .ok (.invokevirtual 216, 3) := by decide +kernel
theorem dX9_of_8 : decode cX9_of 8 = .ok (.ifCond .ne 5, 3) := by decide +kernel
theorem dX9_of_11 : decode cX9_of 11 = .ok (.iconst (-1), 1) := by decide +kernel
theorem dX9_of_12 : decode cX9_of 12 = .ok (.ireturn, 1) := by decide +kernel
theorem dX9_of_13 : decode cX9_of 13 = .ok (.iload_n 2, 1) := by decide +kernel
theorem dX9_of_14 : decode cX9_of 14 = .ok (.tableswitch 77 0 3 #[30, 40, 50, 60], 30) := by decide +kernel
theorem dX9_of_44 : decode cX9_of 44 = .ok (.aload_n 0, 1) := by decide +kernel
theorem dX9_of_45 : decode cX9_of 45 = .ok (.getfield 65, 3) := by decide +kernel
theorem dX9_of_48 : decode cX9_of 48 = .ok (.getfield 219, 3) := by decide +kernel
theorem dX9_of_51 : decode cX9_of 51 = .ok (.iload_n 1, 1) := by decide +kernel
theorem dX9_of_52 : decode cX9_of 52 = .ok (.iaload, 1) := by decide +kernel
theorem dX9_of_53 : decode cX9_of 53 = .ok (.ireturn, 1) := by decide +kernel
theorem dX9_of_54 : decode cX9_of 54 = .ok (.aload_n 0, 1) := by decide +kernel
theorem dX9_of_55 : decode cX9_of 55 = .ok (.getfield 65, 3) := by decide +kernel
theorem dX9_of_58 : decode cX9_of 58 = .ok (.getfield 222, 3) := by decide +kernel
theorem dX9_of_61 : decode cX9_of 61 = .ok (.iload_n 1, 1) := by decide +kernel
theorem dX9_of_62 : decode cX9_of 62 = .ok (.iaload, 1) := by decide +kernel
theorem dX9_of_63 : decode cX9_of 63 = .ok (.ireturn, 1) := by decide +kernel
theorem dX9_of_64 : decode cX9_of 64 = .ok (.aload_n 0, 1) := by decide +kernel
theorem dX9_of_65 : decode cX9_of 65 = .ok (.getfield 65, 3) := by decide +kernel
theorem dX9_of_68 : decode cX9_of 68 = .ok (.getfield 225, 3) := by decide +kernel
theorem dX9_of_71 : decode cX9_of 71 = .ok (.iload_n 1, 1) := by decide +kernel
theorem dX9_of_72 : decode cX9_of 72 = .ok (.iaload, 1) := by decide +kernel
theorem dX9_of_73 : decode cX9_of 73 = .ok (.ireturn, 1) := by decide +kernel
theorem dX9_of_74 : decode cX9_of 74 = .ok (.aload_n 0, 1) := by decide +kernel
theorem dX9_of_75 : decode cX9_of 75 = .ok (.getfield 65, 3) := by decide +kernel
theorem dX9_of_78 : decode cX9_of 78 = .ok (.iload_n 1, 1) := by decide +kernel
theorem dX9_of_79 : decode cX9_of 79 = .ok (.invokevirtual 228, 3) := by decide +kernel
theorem dX9_of_82 : decode cX9_of 82 = .ok (.ifCond .eq 7, 3) := by decide +kernel
theorem dX9_of_85 : decode cX9_of 85 = .ok (.iconst 1, 1) := by decide +kernel
theorem dX9_of_86 : decode cX9_of 86 = .ok (.goto 4, 3) := by decide +kernel
theorem dX9_of_89 : decode cX9_of 89 = .ok (.iconst 0, 1) := by decide +kernel
theorem dX9_of_90 : decode cX9_of 90 = .ok (.ireturn, 1) := by decide +kernel
theorem dX9_of_91 : decode cX9_of 91 = .ok (.bipush (-2), 2) := by decide +kernel
theorem dX9_of_93 : decode cX9_of 93 = .ok (.ireturn, 1) := by decide +kernel
theorem dX9_print_0 : decode cX9_print 0 = .ok (.aload_n 0, 1) := by decide +kernel
theorem dX9_print_1 : decode cX9_print 1 = .ok (.getfield 65, 3) := by decide +kernel
theorem dX9_print_4 : decode cX9_print 4 = .ok (.iload_n 1, 1) := by decide +kernel
theorem dX9_print_5 : decode cX9_print 5 = .ok (.invokevirtual 216, 3) := by decide +kernel
theorem dX9_print_8 : decode cX9_print 8 = .ok (.ifCond .ne 5, 3) := by decide +kernel
theorem dX9_print_11 : decode cX9_print 11 = .ok (.iconst (-1), 1) := by decide +kernel
theorem dX9_print_12 : decode cX9_print 12 = .ok (.ireturn, 1) := by decide +kernel
theorem dX9_print_13 : decode cX9_print 13 = .ok (.aload_n 0, 1) := by decide +kernel
theorem dX9_print_14 : decode cX9_print 14 = .ok (.getfield 65, 3) := by decide +kernel
theorem dX9_print_17 : decode cX9_print 17 = .ok (.iload_n 1, 1) := by decide +kernel
theorem dX9_print_18 : decode cX9_print 18 = .ok (.invokevirtual 228, 3) := by decide +kernel
theorem dX9_print_21 : decode cX9_print 21 = .ok (.ifCond .eq 7, 3) := by decide +kernel
theorem dX9_print_24 : decode cX9_print 24 = .ok (.iconst 1, 1) := by decide +kernel
theorem dX9_print_25 : decode cX9_print 25 = .ok (.goto 4, 3) := by decide +kernel
theorem dX9_print_28 : decode cX9_print 28 = .ok (.iconst 0, 1) := by decide +kernel
theorem dX9_print_29 : decode cX9_print 29 = .ok (.istore_n 3, 1) := by decide +kernel
theorem dX9_print_30 : decode cX9_print 30 = .ok (.aload_n 0, 1) := by decide +kernel
theorem dX9_print_31 : decode cX9_print 31 = .ok (.getfield 65, 3) := by decide +kernel
theorem dX9_print_34 : decode cX9_print 34 = .ok (.iload_n 1, 1) := by decide +kernel
theorem dX9_print_35 : decode cX9_print 35 = .ok (.iload_n 2, 1) := by decide +kernel
theorem dX9_print_36 : decode cX9_print 36 = .ok (.invokevirtual 231, 3) := by decide +kernel
theorem dX9_print_39 : decode cX9_print 39 = .ok (.iload_n 3, 1) := by decide +kernel
theorem dX9_print_40 : decode cX9_print 40 = .ok (.ireturn, 1) := by decide +kernel
theorem dX9_lean_0 : decode cX9_lean 0 = .ok (.iload_n 1, 1) := by decide +kernel
theorem dX9_lean_1 : decode cX9_lean 1 = .ok (.invokestatic 127, 3) := by decide +kernel
theorem dX9_lean_4 : decode cX9_lean 4 = .ok (.ifCond .ne 7, 3) := by decide +kernel
theorem dX9_lean_7 : decode cX9_lean 7 = .ok (.ldc2_w 179, 3) := by decide +kernel
theorem dX9_lean_10 : decode cX9_lean 10 = .ok (.lreturn, 1) := by decide +kernel
theorem dX9_lean_11 : decode cX9_lean 11 = .ok (.aload_n 0, 1) := by decide +kernel
theorem dX9_lean_12 : decode cX9_lean 12 = .ok (.getfield 65, 3) := by decide +kernel
theorem dX9_lean_15 : decode cX9_lean 15 = .ok (.getfield 235, 3) := by decide +kernel
theorem dX9_lean_18 : decode cX9_lean 18 = .ok (.ifCond .ne 7, 3) := by decide +kernel
theorem dX9_lean_21 : decode cX9_lean 21 = .ok (.ldc2_w 238, 3) := by decide +kernel
theorem dX9_lean_24 : decode cX9_lean 24 = .ok (.lreturn, 1) := by decide +kernel
theorem dX9_lean_25 : decode cX9_lean 25 = .ok (.aload_n 0, 1) := by decide +kernel
theorem dX9_lean_26 : decode cX9_lean 26 = .ok (.getfield 65, 3) := by decide +kernel
theorem dX9_lean_29 : decode cX9_lean 29 = .ok (.aload_n 0, 1) := by decide +kernel
theorem dX9_lean_30 : decode cX9_lean 30 = .ok (.getfield 55, 3) := by decide +kernel
theorem dX9_lean_33 : decode cX9_lean 33 = .ok (.invokevirtual 240, 3) := by decide +kernel
theorem dX9_lean_36 : decode cX9_lean 36 = .ok (.aload_n 0, 1) := by decide +kernel
theorem dX9_lean_37 : decode cX9_lean 37 = .ok (.getfield 55, 3) := by decide +kernel
theorem dX9_lean_40 : decode cX9_lean 40 = .ok (.iload_n 1, 1) := by decide +kernel
theorem dX9_lean_41 : decode cX9_lean 41 = .ok (.invokevirtual 136, 3) := by decide +kernel
theorem dX9_lean_44 : decode cX9_lean 44 = .ok (.lreturn, 1) := by decide +kernel
theorem dX9_reads_0 : decode cX9_reads 0 = .ok (.iload_n 1, 1) := by decide +kernel
theorem dX9_reads_1 : decode cX9_reads 1 = .ok (.iconst 0, 1) := by decide +kernel
theorem dX9_reads_2 : decode cX9_reads 2 = .ok (.bipush 7, 2) := by decide +kernel
theorem dX9_reads_4 : decode cX9_reads 4 = .ok (.invokestatic 89, 3) := by decide +kernel
theorem dX9_reads_7 : decode cX9_reads 7 = .ok (.ifCond .ne 5, 3) := by decide +kernel
theorem dX9_reads_10 : decode cX9_reads 10 = .ok (.iconst (-1), 1) := by decide +kernel
theorem dX9_reads_11 : decode cX9_reads 11 = .ok (.ireturn, 1) := by decide +kernel
theorem dX9_reads_12 : decode cX9_reads 12 = .ok (.iload_n 2, 1) := by decide +kernel
theorem dX9_reads_13 : decode cX9_reads 13 = .ok (.iconst 0, 1) := by decide +kernel
theorem dX9_reads_14 : decode cX9_reads 14 = .ok (.ldc 243, 2) := by decide +kernel
theorem dX9_reads_16 : decode cX9_reads 16 = .ok (.invokestatic 89, 3) := by decide +kernel
theorem dX9_reads_19 : decode cX9_reads 19 = .ok (.ifCond .ne 6, 3) := by decide +kernel
theorem dX9_reads_22 : decode cX9_reads 22 = .ok (.bipush (-2), 2) := by decide +kernel
theorem dX9_reads_24 : decode cX9_reads 24 = .ok (.ireturn, 1) := by decide +kernel
theorem dX9_reads_25 : decode cX9_reads 25 = .ok (.aload_n 0, 1) := by decide +kernel
theorem dX9_reads_26 : decode cX9_reads 26 = .ok (.getfield 72, 3) := by decide +kernel
theorem dX9_reads_29 : decode cX9_reads 29 = .ok (.getfield 244, 3) := by decide +kernel
theorem dX9_reads_32 : decode cX9_reads 32 = .ok (.iload_n 1, 1) := by decide +kernel
theorem dX9_reads_33 : decode cX9_reads 33 = .ok (.iaload, 1) := by decide +kernel
theorem dX9_reads_34 : decode cX9_reads 34 = .ok (.istore_n 3, 1) := by decide +kernel
theorem dX9_reads_35 : decode cX9_reads 35 = .ok (.aload_n 0, 1) := by decide +kernel
theorem dX9_reads_36 : decode cX9_reads 36 = .ok (.getfield 72, 3) := by decide +kernel
theorem dX9_reads_39 : decode cX9_reads 39 = .ok (.getfield 244, 3) := by decide +kernel
theorem dX9_reads_42 : decode cX9_reads 42 = .ok (.iload_n 1, 1) := by decide +kernel
theorem dX9_reads_43 : decode cX9_reads 43 = .ok (.iload_n 2, 1) := by decide +kernel
theorem dX9_reads_44 : decode cX9_reads 44 = .ok (.iastore, 1) := by decide +kernel
theorem dX9_reads_45 : decode cX9_reads 45 = .ok (.iload_n 3, 1) := by decide +kernel
theorem dX9_reads_46 : decode cX9_reads 46 = .ok (.ireturn, 1) := by decide +kernel
theorem dX9_bar_0 : decode cX9_bar 0 = .ok (.iload_n 1, 1) := by decide +kernel
theorem dX9_bar_1 : decode cX9_bar 1 = .ok (.iconst 0, 1) := by decide +kernel
theorem dX9_bar_2 : decode cX9_bar 2 = .ok (.bipush 100, 2) := by decide +kernel
theorem dX9_bar_4 : decode cX9_bar 4 = .ok (.invokestatic 89, 3) := by decide +kernel
theorem dX9_bar_7 : decode cX9_bar 7 = .ok (.ifCond .ne 6, 3) := by decide +kernel
theorem dX9_bar_10 : decode cX9_bar 10 = .ok (.bipush (-2), 2) := by decide +kernel
theorem dX9_bar_12 : decode cX9_bar 12 = .ok (.ireturn, 1) := by decide +kernel
theorem dX9_bar_13 : decode cX9_bar 13 = .ok (.aload_n 0, 1) := by decide +kernel
theorem dX9_bar_14 : decode cX9_bar 14 = .ok (.getfield 72, 3) := by decide +kernel
theorem dX9_bar_17 : decode cX9_bar 17 = .ok (.getfield 247, 3) := by decide +kernel
theorem dX9_bar_20 : decode cX9_bar 20 = .ok (.istore_n 2, 1) := by decide +kernel
theorem dX9_bar_21 : decode cX9_bar 21 = .ok (.aload_n 0, 1) := by decide +kernel
theorem dX9_bar_22 : decode cX9_bar 22 = .ok (.getfield 72, 3) := by decide +kernel
theorem dX9_bar_25 : decode cX9_bar 25 = .ok (.iload_n 1, 1) := by decide +kernel
theorem dX9_bar_26 : decode cX9_bar 26 = .ok (.putfield 247, 3) := by decide +kernel
theorem dX9_bar_29 : decode cX9_bar 29 = .ok (.iload_n 2, 1) := by decide +kernel
theorem dX9_bar_30 : decode cX9_bar 30 = .ok (.ireturn, 1) := by decide +kernel
theorem dX9_club_0 : decode cX9_club 0 = .ok (.aload_n 0, 1) := by decide +kernel
theorem dX9_club_1 : decode cX9_club 1 = .ok (.getfield 72, 3) := by decide +kernel
theorem dX9_club_4 : decode cX9_club 4 = .ok (.aload_n 0, 1) := by decide +kernel
theorem dX9_club_5 : decode cX9_club 5 = .ok (.getfield 65, 3) := by decide +kernel
theorem dX9_club_8 : decode cX9_club 8 = .ok (.getfield 235, 3) := by decide +kernel
theorem dX9_club_11 : decode cX9_club 11 = .ok (.aload_n 0, 1) := by decide +kernel
theorem dX9_club_12 : decode cX9_club 12 = .ok (.getfield 65, 3) := by decide +kernel
theorem dX9_club_15 : decode cX9_club 15 = .ok (.aload_n 0, 1) := by decide +kernel
theorem dX9_club_16 : decode cX9_club 16 = .ok (.getfield 72, 3) := by decide +kernel
theorem dX9_club_19 : decode cX9_club 19 = .ok (.getfield 247, 3) := by decide +kernel
theorem dX9_club_22 : decode cX9_club 22 = .ok (.invokevirtual 250, 3) := by decide +kernel
theorem dX9_club_25 : decode cX9_club 25 = .ok (.invokevirtual 254, 3) := by decide +kernel
theorem dX9_club_28 : decode cX9_club 28 = .ok (.ireturn, 1) := by decide +kernel
theorem dX9_least_0 : decode cX9_least 0 = .ok (.iload_n 1, 1) := by decide +kernel
theorem dX9_least_1 : decode cX9_least 1 = .ok (.iconst 0, 1) := by decide +kernel
theorem dX9_least_2 : decode cX9_least 2 = .ok (.sipush 255, 3) := by decide +kernel
theorem dX9_least_5 : decode cX9_least 5 = .ok (.invokestatic 89, 3) := by decide +kernel
theorem dX9_least_8 : decode cX9_least 8 = .ok (.ifCond .eq 12, 3) := by decide +kernel
theorem dX9_least_11 : decode cX9_least 11 = .ok (.iload_n 2, 1) := by decide +kernel
theorem dX9_least_12 : decode cX9_least 12 = .ok (.iconst 0, 1) := by decide +kernel
theorem dX9_least_13 : decode cX9_least 13 = .ok (.iconst 1, 1) := by decide +kernel
theorem dX9_least_14 : decode cX9_least 14 = .ok (.invokestatic 89, 3) := by decide +kernel
theorem dX9_least_17 : decode cX9_least 17 = .ok (.ifCond .ne 6, 3) := by decide +kernel
theorem dX9_least_20 : decode cX9_least 20 = .ok (.bipush (-2), 2) := by decide +kernel
theorem dX9_least_22 : decode cX9_least 22 = .ok (.ireturn, 1) := by decide +kernel
theorem dX9_least_23 : decode cX9_least 23 = .ok (.aload_n 0, 1) := by decide +kernel
theorem dX9_least_24 : decode cX9_least 24 = .ok (.getfield 72, 3) := by decide +kernel
theorem dX9_least_27 : decode cX9_least 27 = .ok (.iload_n 1, 1) := by decide +kernel
theorem dX9_least_28 : decode cX9_least 28 = .ok (.aload_n 0, 1) := by decide +kernel
theorem dX9_least_29 : decode cX9_least 29 = .ok (.getfield 65, 3) := by decide +kernel
theorem dX9_least_32 : decode cX9_least 32 = .ok (.invokevirtual 258, 3) := by decide +kernel
theorem dX9_least_35 : decode cX9_least 35 = .ok (.istore_n 3, 1) := by decide +kernel
theorem dX9_least_36 : decode cX9_least 36 = .ok (.iload_n 3, 1) := by decide +kernel
theorem dX9_least_37 : decode cX9_least 37 = .ok (.bipush (-6), 2) := by decide +kernel
theorem dX9_least_39 : decode cX9_least 39 = .ok (.if_icmp .ne 6, 3) := by decide +kernel
theorem dX9_least_42 : decode cX9_least 42 = .ok (.bipush (-5), 2) := by decide +kernel
theorem dX9_least_44 : decode cX9_least 44 = .ok (.ireturn, 1) := by decide +kernel
theorem dX9_least_45 : decode cX9_least 45 = .ok (.iload_n 2, 1) := by decide +kernel
theorem dX9_least_46 : decode cX9_least 46 = .ok (.ifCond .ne 7, 3) := by decide +kernel
theorem dX9_least_49 : decode cX9_least 49 = .ok (.iload_n 3, 1) := by decide +kernel
theorem dX9_least_50 : decode cX9_least 50 = .ok (.goto 7, 3) := by decide +kernel
theorem dX9_least_53 : decode cX9_least 53 = .ok (.iload_n 3, 1) := by decide +kernel
theorem dX9_least_54 : decode cX9_least 54 = .ok (.invokestatic 262, 3) := by decide +kernel
theorem dX9_least_57 : decode cX9_least 57 = .ok (.ireturn, 1) := by decide +kernel
theorem dX9_truth_0 : decode cX9_truth 0 = .ok (.iload_n 1, 1) := by decide +kernel
theorem dX9_truth_1 : decode cX9_truth 1 = .ok (.iconst 0, 1) := by decide +kernel
theorem dX9_truth_2 : decode cX9_truth 2 = .ok (.ldc 243, 2) := by decide +kernel
theorem dX9_truth_4 : decode cX9_truth 4 = .ok (.invokestatic 89, 3) := by decide +kernel
theorem dX9_truth_7 : decode cX9_truth 7 = .ok (.ifCond .ne 6, 3) := by decide +kernel
theorem dX9_truth_10 : decode cX9_truth 10 = .ok (.bipush (-2), 2) := by decide +kernel
theorem dX9_truth_12 : decode cX9_truth 12 = .ok (.ireturn, 1) := by decide +kernel
theorem dX9_truth_13 : decode cX9_truth 13 = .ok (.aload_n 0, 1) := by decide +kernel
theorem dX9_truth_14 : decode cX9_truth 14 = .ok (.getfield 65, 3) := by decide +kernel
theorem dX9_truth_17 : decode cX9_truth 17 = .ok (.getfield 267, 3) := by decide +kernel
theorem dX9_truth_20 : decode cX9_truth 20 = .ok (.istore_n 2, 1) := by decide +kernel
theorem dX9_truth_21 : decode cX9_truth 21 = .ok (.aload_n 0, 1) := by decide +kernel
theorem dX9_truth_22 : decode cX9_truth 22 = .ok (.getfield 65, 3) := by decide +kernel
theorem dX9_truth_25 : decode cX9_truth 25 = .ok (.iload_n 1, 1) := by decide +kernel
theorem dX9_truth_26 : decode cX9_truth 26 = .ok (.putfield 267, 3) := by decide +kernel
theorem dX9_truth_29 : decode cX9_truth 29 = .ok (.iload_n 2, 1) := by decide +kernel
theorem dX9_truth_30 : decode cX9_truth 30 = .ok (.ireturn, 1) := by decide +kernel
theorem dX9_good_0 : decode cX9_good 0 = .ok (.iload_n 1, 1) := by decide +kernel
theorem dX9_good_1 : decode cX9_good 1 = .ok (.iconst 0, 1) := by decide +kernel
theorem dX9_good_2 : decode cX9_good 2 = .ok (.bipush 101, 2) := by decide +kernel
theorem dX9_good_4 : decode cX9_good 4 = .ok (.invokestatic 89, 3) := by decide +kernel
theorem dX9_good_7 : decode cX9_good 7 = .ok (.ifCond .ne 6, 3) := by decide +kernel
theorem dX9_good_10 : decode cX9_good 10 = .ok (.ldc 88, 2) := by decide +kernel
theorem dX9_good_12 : decode cX9_good 12 = .ok (.ireturn, 1) := by decide +kernel
theorem dX9_good_13 : decode cX9_good 13 = .ok (.aload_n 0, 1) := by decide +kernel
theorem dX9_good_14 : decode cX9_good 14 = .ok (.getfield 65, 3) := by decide +kernel
theorem dX9_good_17 : decode cX9_good 17 = .ok (.iload_n 1, 1) := by decide +kernel
theorem dX9_good_18 : decode cX9_good 18 = .ok (.invokevirtual 270, 3) := by decide +kernel
theorem dX9_good_21 : decode cX9_good 21 = .ok (.ireturn, 1) := by decide +kernel
theorem dX9_best_0 : decode cX9_best 0 = .ok (.iload_n 1, 1) := by decide +kernel
theorem dX9_best_1 : decode cX9_best 1 = .ok (.iconst 0, 1) := by decide +kernel
theorem dX9_best_2 : decode cX9_best 2 = .ok (.iconst 1, 1) := by decide +kernel
theorem dX9_best_3 : decode cX9_best 3 = .ok (.invokestatic 89, 3) := by decide +kernel
theorem dX9_best_6 : decode cX9_best 6 = .ok (.ifCond .ne 6, 3) := by decide +kernel
theorem dX9_best_9 : decode cX9_best 9 = .ok (.ldc 88, 2) := by decide +kernel
theorem dX9_best_11 : decode cX9_best 11 = .ok (.ireturn, 1) := by decide +kernel
theorem dX9_best_12 : decode cX9_best 12 = .ok (.aload_n 0, 1) := by decide +kernel
theorem dX9_best_13 : decode cX9_best 13 = .ok (.getfield 65, 3) := by decide +kernel
theorem dX9_best_16 : decode cX9_best 16 = .ok (.invokevirtual 273, 3) := by decide +kernel
theorem dX9_best_19 : decode cX9_best 19 = .ok (.istore_n 2, 1) := by decide +kernel
theorem dX9_best_20 : decode cX9_best 20 = .ok (.iload_n 1, 1) := by decide +kernel
theorem dX9_best_21 : decode cX9_best 21 = .ok (.ifCond .ne 7, 3) := by decide +kernel
theorem dX9_best_24 : decode cX9_best 24 = .ok (.iload_n 2, 1) := by decide +kernel
theorem dX9_best_25 : decode cX9_best 25 = .ok (.goto 11, 3) := by decide +kernel
theorem dX9_best_28 : decode cX9_best 28 = .ok (.aload_n 0, 1) := by decide +kernel
theorem dX9_best_29 : decode cX9_best 29 = .ok (.getfield 65, 3) := by decide +kernel
theorem dX9_best_32 : decode cX9_best 32 = .ok (.iload_n 2, 1) := by decide +kernel
theorem dX9_best_33 : decode cX9_best 33 = .ok (.invokevirtual 270, 3) := by decide +kernel
theorem dX9_best_36 : decode cX9_best 36 = .ok (.ireturn, 1) := by decide +kernel
theorem dX9_told_0 : decode cX9_told 0 = .ok (.iload_n 1, 1) := by decide +kernel
theorem dX9_told_1 : decode cX9_told 1 = .ok (.tableswitch 83 0 4 #[35, 43, 51, 59, 67], 35) := by decide +kernel
theorem dX9_told_36 : decode cX9_told 36 = .ok (.aload_n 0, 1) := by decide +kernel
theorem dX9_told_37 : decode cX9_told 37 = .ok (.getfield 17, 3) := by decide +kernel
theorem dX9_told_40 : decode cX9_told 40 = .ok (.getfield 101, 3) := by decide +kernel
theorem dX9_told_43 : decode cX9_told 43 = .ok (.ireturn, 1) := by decide +kernel
theorem dX9_told_44 : decode cX9_told 44 = .ok (.aload_n 0, 1) := by decide +kernel
theorem dX9_told_45 : decode cX9_told 45 = .ok (.getfield 65, 3) := by decide +kernel
theorem dX9_told_48 : decode cX9_told 48 = .ok (.getfield 215, 3) := by decide +kernel
theorem dX9_told_51 : decode cX9_told 51 = .ok (.ireturn, 1) := by decide +kernel
theorem dX9_told_52 : decode cX9_told 52 = .ok (.aload_n 0, 1) := by decide +kernel
theorem dX9_told_53 : decode cX9_told 53 = .ok (.getfield 65, 3) := by decide +kernel
theorem dX9_told_56 : decode cX9_told 56 = .ok (.getfield 235, 3) := by decide +kernel
theorem dX9_told_59 : decode cX9_told 59 = .ok (.ireturn, 1) := by decide +kernel
theorem dX9_told_60 : decode cX9_told 60 = .ok (.aload_n 0, 1) := by decide +kernel
theorem dX9_told_61 : decode cX9_told 61 = .ok (.getfield 72, 3) := by decide +kernel
theorem dX9_told_64 : decode cX9_told 64 = .ok (.getfield 247, 3) := by decide +kernel
theorem dX9_told_67 : decode cX9_told 67 = .ok (.ireturn, 1) := by decide +kernel
theorem dX9_told_68 : decode cX9_told 68 = .ok (.aload_n 0, 1) := by decide +kernel
theorem dX9_told_69 : decode cX9_told 69 = .ok (.getfield 65, 3) := by decide +kernel
theorem dX9_told_72 : decode cX9_told 72 = .ok (.getfield 267, 3) := by decide +kernel
theorem dX9_told_75 : decode cX9_told 75 = .ok (.aload_n 0, 1) := by decide +kernel
theorem dX9_told_76 : decode cX9_told 76 = .ok (.getfield 65, 3) := by decide +kernel
theorem dX9_told_79 : decode cX9_told 79 = .ok (.invokevirtual 276, 3) := by decide +kernel
theorem dX9_told_82 : decode cX9_told 82 = .ok (.iand, 1) := by decide +kernel
theorem dX9_told_83 : decode cX9_told 83 = .ok (.ireturn, 1) := by decide +kernel
theorem dX9_told_84 : decode cX9_told 84 = .ok (.iload_n 1, 1) := by decide +kernel
theorem dX9_told_85 : decode cX9_told 85 = .ok (.bipush 10, 2) := by decide +kernel
theorem dX9_told_87 : decode cX9_told 87 = .ok (.isub, 1) := by decide +kernel
theorem dX9_told_88 : decode cX9_told 88 = .ok (.invokestatic 77, 3) := by decide +kernel
theorem dX9_told_91 : decode cX9_told 91 = .ok (.ifCond .eq 18, 3) := by decide +kernel
theorem dX9_told_94 : decode cX9_told 94 = .ok (.aload_n 0, 1) := by decide +kernel
theorem dX9_told_95 : decode cX9_told 95 = .ok (.getfield 11, 3) := by decide +kernel
theorem dX9_told_98 : decode cX9_told 98 = .ok (.iload_n 1, 1) := by decide +kernel
theorem dX9_told_99 : decode cX9_told 99 = .ok (.bipush 10, 2) := by decide +kernel
theorem dX9_told_101 : decode cX9_told 101 = .ok (.isub, 1) := by decide +kernel
theorem dX9_told_102 : decode cX9_told 102 = .ok (.aaload, 1) := by decide +kernel
theorem dX9_told_103 : decode cX9_told 103 = .ok (.invokestatic 279, 3) := by decide +kernel
theorem dX9_told_106 : decode cX9_told 106 = .ok (.goto 5, 3) := by decide +kernel
theorem dX9_told_109 : decode cX9_told 109 = .ok (.bipush (-2), 2) := by decide +kernel
theorem dX9_told_111 : decode cX9_told 111 = .ok (.ireturn, 1) := by decide +kernel
theorem dX9_isWithin_0 : decode cX9_isWithin 0 = .ok (.iload_n 0, 1) := by decide +kernel
theorem dX9_isWithin_1 : decode cX9_isWithin 1 = .ok (.iload_n 1, 1) := by decide +kernel
theorem dX9_isWithin_2 : decode cX9_isWithin 2 = .ok (.if_icmp .lt 12, 3) := by decide +kernel
theorem dX9_isWithin_5 : decode cX9_isWithin 5 = .ok (.iload_n 0, 1) := by decide +kernel
theorem dX9_isWithin_6 : decode cX9_isWithin 6 = .ok (.iload_n 2, 1) := by decide +kernel
theorem dX9_isWithin_7 : decode cX9_isWithin 7 = .ok (.if_icmp .gt 7, 3) := by decide +kernel
theorem dX9_isWithin_10 : decode cX9_isWithin 10 = .ok (.iconst 1, 1) := by decide +kernel
theorem dX9_isWithin_11 : decode cX9_isWithin 11 = .ok (.goto 4, 3) := by decide +kernel
theorem dX9_isWithin_14 : decode cX9_isWithin 14 = .ok (.iconst 0, 1) := by decide +kernel
theorem dX9_isWithin_15 : decode cX9_isWithin 15 = .ok (.ireturn, 1) := by decide +kernel
theorem dX9_isRow_0 : decode cX9_isRow 0 = .ok (.iload_n 0, 1) := by decide +kernel
theorem dX9_isRow_1 : decode cX9_isRow 1 = .ok (.iconst 0, 1) := by decide +kernel
theorem dX9_isRow_2 : decode cX9_isRow 2 = .ok (.iconst 5, 1) := by decide +kernel
theorem dX9_isRow_3 : decode cX9_isRow 3 = .ok (.invokestatic 89, 3) := by decide +kernel
theorem dX9_isRow_6 : decode cX9_isRow 6 = .ok (.ireturn, 1) := by decide +kernel
theorem dX9_isYear_0 : decode cX9_isYear 0 = .ok (.iload_n 0, 1) := by decide +kernel
theorem dX9_isYear_1 : decode cX9_isYear 1 = .ok (.iconst 0, 1) := by decide +kernel
theorem dX9_isYear_2 : decode cX9_isYear 2 = .ok (.bipush 23, 2) := by decide +kernel
theorem dX9_isYear_4 : decode cX9_isYear 4 = .ok (.invokestatic 89, 3) := by decide +kernel
theorem dX9_isYear_7 : decode cX9_isYear 7 = .ok (.ireturn, 1) := by decide +kernel
theorem dX9_isDivide_0 : decode cX9_isDivide 0 = .ok (.iload_n 0, 1) := by decide +kernel
theorem dX9_isDivide_1 : decode cX9_isDivide 1 = .ok (.iconst 4, 1) := by decide +kernel
theorem dX9_isDivide_2 : decode cX9_isDivide 2 = .ok (.bipush 22, 2) := by decide +kernel
theorem dX9_isDivide_4 : decode cX9_isDivide 4 = .ok (.invokestatic 89, 3) := by decide +kernel
theorem dX9_isDivide_7 : decode cX9_isDivide 7 = .ok (.ireturn, 1) := by decide +kernel
theorem dX9_isLength_0 : decode cX9_isLength 0 = .ok (.iload_n 0, 1) := by decide +kernel
theorem dX9_isLength_1 : decode cX9_isLength 1 = .ok (.iconst 2, 1) := by decide +kernel
theorem dX9_isLength_2 : decode cX9_isLength 2 = .ok (.bipush 12, 2) := by decide +kernel
theorem dX9_isLength_4 : decode cX9_isLength 4 = .ok (.invokestatic 89, 3) := by decide +kernel
theorem dX9_isLength_7 : decode cX9_isLength 7 = .ok (.ireturn, 1) := by decide +kernel
theorem dX9_isPart_0 : decode cX9_isPart 0 = .ok (.iload_n 0, 1) := by decide +kernel
theorem dX9_isPart_1 : decode cX9_isPart 1 = .ok (.iconst 0, 1) := by decide +kernel
theorem dX9_isPart_2 : decode cX9_isPart 2 = .ok (.iconst 1, 1) := by decide +kernel
theorem dX9_isPart_3 : decode cX9_isPart 3 = .ok (.invokestatic 89, 3) := by decide +kernel
theorem dX9_isPart_6 : decode cX9_isPart 6 = .ok (.ireturn, 1) := by decide +kernel
theorem dX9_isNumberOrNone_0 : decode cX9_isNumberOrNone 0 = .ok (.iload_n 0, 1) := by decide +kernel
theorem dX9_isNumberOrNone_1 : decode cX9_isNumberOrNone 1 = .ok (.ldc 76, 2) := by decide +kernel
theorem dX9_isNumberOrNone_3 : decode cX9_isNumberOrNone 3 = .ok (.if_icmp .eq 14, 3) := by decide +kernel
theorem dX9_isNumberOrNone_6 : decode cX9_isNumberOrNone 6 = .ok (.iload_n 0, 1) := by decide +kernel
theorem dX9_isNumberOrNone_7 : decode cX9_isNumberOrNone 7 = .ok (.bipush (-99), 2) := by decide +kernel
theorem dX9_isNumberOrNone_9 : decode cX9_isNumberOrNone 9 = .ok (.bipush 99, 2) := by decide +kernel
theorem dX9_isNumberOrNone_11 : decode cX9_isNumberOrNone 11 = .ok (.invokestatic 89, 3) := by decide +kernel
theorem dX9_isNumberOrNone_14 : decode cX9_isNumberOrNone 14 = .ok (.ifCond .eq 7, 3) := by decide +kernel
theorem dX9_isNumberOrNone_17 : decode cX9_isNumberOrNone 17 = .ok (.iconst 1, 1) := by decide +kernel
theorem dX9_isNumberOrNone_18 : decode cX9_isNumberOrNone 18 = .ok (.goto 4, 3) := by decide +kernel
theorem dX9_isNumberOrNone_21 : decode cX9_isNumberOrNone 21 = .ok (.iconst 0, 1) := by decide +kernel
theorem dX9_isNumberOrNone_22 : decode cX9_isNumberOrNone 22 = .ok (.ireturn, 1) := by decide +kernel
theorem dX9_refusalOf_0 : decode cX9_refusalOf 0 = .ok (.iload_n 1, 1) := by decide +kernel
theorem dX9_refusalOf_1 : decode cX9_refusalOf 1 = .ok (.ifCond .ne 5, 3) := by decide +kernel
theorem dX9_refusalOf_4 : decode cX9_refusalOf 4 = .ok (.iconst (-1), 1) := by decide +kernel
theorem dX9_refusalOf_5 : decode cX9_refusalOf 5 = .ok (.ireturn, 1) := by decide +kernel
theorem dX9_refusalOf_6 : decode cX9_refusalOf 6 = .ok (.iload_n 2, 1) := by decide +kernel
theorem dX9_refusalOf_7 : decode cX9_refusalOf 7 = .ok (.ifCond .ne 6, 3) := by decide +kernel
theorem dX9_refusalOf_10 : decode cX9_refusalOf 10 = .ok (.bipush (-2), 2) := by decide +kernel
theorem dX9_refusalOf_12 : decode cX9_refusalOf 12 = .ok (.ireturn, 1) := by decide +kernel
theorem dX9_refusalOf_13 : decode cX9_refusalOf 13 = .ok (.aload_n 0, 1) := by decide +kernel
theorem dX9_refusalOf_14 : decode cX9_refusalOf 14 = .ok (.getfield 17, 3) := by decide +kernel
theorem dX9_refusalOf_17 : decode cX9_refusalOf 17 = .ok (.invokevirtual 108, 3) := by decide +kernel
theorem dX9_refusalOf_20 : decode cX9_refusalOf 20 = .ok (.bipush (-6), 2) := by decide +kernel
theorem dX9_refusalOf_22 : decode cX9_refusalOf 22 = .ok (.if_icmp .ne 7, 3) := by decide +kernel
theorem dX9_refusalOf_25 : decode cX9_refusalOf 25 = .ok (.iconst 0, 1) := by decide +kernel
theorem dX9_refusalOf_26 : decode cX9_refusalOf 26 = .ok (.goto 5, 3) := by decide +kernel
theorem dX9_refusalOf_29 : decode cX9_refusalOf 29 = .ok (.bipush (-5), 2) := by decide +kernel
theorem dX9_refusalOf_31 : decode cX9_refusalOf 31 = .ok (.ireturn, 1) := by decide +kernel
theorem dX9_numbersIn_0 : decode cX9_numbersIn 0 = .ok (.iconst 0, 1) := by decide +kernel
theorem dX9_numbersIn_1 : decode cX9_numbersIn 1 = .ok (.istore_n 1, 1) := by decide +kernel
theorem dX9_numbersIn_2 : decode cX9_numbersIn 2 = .ok (.iconst 0, 1) := by decide +kernel
theorem dX9_numbersIn_3 : decode cX9_numbersIn 3 = .ok (.istore_n 2, 1) := by decide +kernel
theorem dX9_numbersIn_4 : decode cX9_numbersIn 4 = .ok (.iload_n 2, 1) := by decide +kernel
theorem dX9_numbersIn_5 : decode cX9_numbersIn 5 = .ok (.bipush 24, 2) := by decide +kernel
theorem dX9_numbersIn_7 : decode cX9_numbersIn 7 = .ok (.if_icmp .ge 20, 3) := by decide +kernel
theorem dX9_numbersIn_10 : decode cX9_numbersIn 10 = .ok (.aload_n 0, 1) := by decide +kernel
theorem dX9_numbersIn_11 : decode cX9_numbersIn 11 = .ok (.iload_n 2, 1) := by decide +kernel
theorem dX9_numbersIn_12 : decode cX9_numbersIn 12 = .ok (.iaload, 1) := by decide +kernel
theorem dX9_numbersIn_13 : decode cX9_numbersIn 13 = .ok (.ldc 76, 2) := by decide +kernel
theorem dX9_numbersIn_15 : decode cX9_numbersIn 15 = .ok (.if_icmp .eq 6, 3) := by decide +kernel
theorem dX9_numbersIn_18 : decode cX9_numbersIn 18 = .ok (.iinc 1 1, 3) := by decide +kernel
theorem dX9_numbersIn_21 : decode cX9_numbersIn 21 = .ok (.iinc 2 1, 3) := by decide +kernel
theorem dX9_numbersIn_24 : decode cX9_numbersIn 24 = .ok (.goto (-20), 3) := by decide +kernel
theorem dX9_numbersIn_27 : decode cX9_numbersIn 27 = .ok (.iload_n 1, 1) := by decide +kernel
theorem dX9_numbersIn_28 : decode cX9_numbersIn 28 = .ok (.ireturn, 1) := by decide +kernel
theorem dX9_takeRounds_0 : decode cX9_takeRounds 0 = .ok (.aload_n 0, 1) := by decide +kernel
theorem dX9_takeRounds_1 : decode cX9_takeRounds 1 = .ok (.getfield 24, 3) := by decide +kernel
theorem dX9_takeRounds_4 : decode cX9_takeRounds 4 = .ok (.aload_n 0, 1) := by decide +kernel
theorem dX9_takeRounds_5 : decode cX9_takeRounds 5 = .ok (.getfield 11, 3) := by decide +kernel
theorem dX9_takeRounds_8 : decode cX9_takeRounds 8 = .ok (.iload_n 1, 1) := by decide +kernel
theorem dX9_takeRounds_9 : decode cX9_takeRounds 9 = .ok (.aaload, 1) := by decide +kernel
theorem dX9_takeRounds_10 : decode cX9_takeRounds 10 = .ok (.aload_n 0, 1) := by decide +kernel
theorem dX9_takeRounds_11 : decode cX9_takeRounds 11 = .ok (.getfield 17, 3) := by decide +kernel
theorem dX9_takeRounds_14 : decode cX9_takeRounds 14 = .ok (.invokevirtual 116, 3) := by decide +kernel
theorem dX9_takeRounds_17 : decode cX9_takeRounds 17 = .ok (.aload_n 0, 1) := by decide +kernel
theorem dX9_takeRounds_18 : decode cX9_takeRounds 18 = .ok (.getfield 24, 3) := by decide +kernel
theorem dX9_takeRounds_21 : decode cX9_takeRounds 21 = .ok (.iload_n 2, 1) := by decide +kernel
theorem dX9_takeRounds_22 : decode cX9_takeRounds 22 = .ok (.invokevirtual 283, 3) := by decide +kernel
theorem dX9_takeRounds_25 : decode cX9_takeRounds 25 = .ok (.aload_n 0, 1) := by decide +kernel
theorem dX9_takeRounds_26 : decode cX9_takeRounds 26 = .ok (.getfield 34, 3) := by decide +kernel
theorem dX9_takeRounds_29 : decode cX9_takeRounds 29 = .ok (.aload_n 0, 1) := by decide +kernel
theorem dX9_takeRounds_30 : decode cX9_takeRounds 30 = .ok (.getfield 24, 3) := by decide +kernel
theorem dX9_takeRounds_33 : decode cX9_takeRounds 33 = .ok (.iload_n 3, 1) := by decide +kernel
theorem dX9_takeRounds_34 : decode cX9_takeRounds 34 = .ok (.iload 4, 2) := by decide +kernel
theorem dX9_takeRounds_36 : decode cX9_takeRounds 36 = .ok (.invokevirtual 286, 3) := by decide +kernel
theorem dX9_takeRounds_39 : decode cX9_takeRounds 39 = .ok (.return_, 1) := by decide +kernel
theorem dX9_takeTwo_0 : decode cX9_takeTwo 0 = .ok (.aload_n 0, 1) := by decide +kernel
theorem dX9_takeTwo_1 : decode cX9_takeTwo 1 = .ok (.getfield 24, 3) := by decide +kernel
theorem dX9_takeTwo_4 : decode cX9_takeTwo 4 = .ok (.aload_n 0, 1) := by decide +kernel
theorem dX9_takeTwo_5 : decode cX9_takeTwo 5 = .ok (.getfield 11, 3) := by decide +kernel
theorem dX9_takeTwo_8 : decode cX9_takeTwo 8 = .ok (.iload_n 1, 1) := by decide +kernel
theorem dX9_takeTwo_9 : decode cX9_takeTwo 9 = .ok (.aaload, 1) := by decide +kernel
theorem dX9_takeTwo_10 : decode cX9_takeTwo 10 = .ok (.aload_n 0, 1) := by decide +kernel
theorem dX9_takeTwo_11 : decode cX9_takeTwo 11 = .ok (.getfield 17, 3) := by decide +kernel
theorem dX9_takeTwo_14 : decode cX9_takeTwo 14 = .ok (.invokevirtual 116, 3) := by decide +kernel
theorem dX9_takeTwo_17 : decode cX9_takeTwo 17 = .ok (.aload_n 0, 1) := by decide +kernel
theorem dX9_takeTwo_18 : decode cX9_takeTwo 18 = .ok (.getfield 28, 3) := by decide +kernel
theorem dX9_takeTwo_21 : decode cX9_takeTwo 21 = .ok (.aload_n 0, 1) := by decide +kernel
theorem dX9_takeTwo_22 : decode cX9_takeTwo 22 = .ok (.getfield 11, 3) := by decide +kernel
theorem dX9_takeTwo_25 : decode cX9_takeTwo 25 = .ok (.iload_n 2, 1) := by decide +kernel
theorem dX9_takeTwo_26 : decode cX9_takeTwo 26 = .ok (.aaload, 1) := by decide +kernel
theorem dX9_takeTwo_27 : decode cX9_takeTwo 27 = .ok (.aload_n 0, 1) := by decide +kernel
theorem dX9_takeTwo_28 : decode cX9_takeTwo 28 = .ok (.getfield 17, 3) := by decide +kernel
theorem dX9_takeTwo_31 : decode cX9_takeTwo 31 = .ok (.invokevirtual 116, 3) := by decide +kernel
theorem dX9_takeTwo_34 : decode cX9_takeTwo 34 = .ok (.return_, 1) := by decide +kernel
theorem dX9_putShare_0 : decode cX9_putShare 0 = .ok (.aload_n 0, 1) := by decide +kernel
theorem dX9_putShare_1 : decode cX9_putShare 1 = .ok (.iload_n 1, 1) := by decide +kernel
theorem dX9_putShare_2 : decode cX9_putShare 2 = .ok (.bipush 24, 2) := by decide +kernel
theorem dX9_putShare_4 : decode cX9_putShare 4 = .ok (.iload_n 2, 1) := by decide +kernel
theorem dX9_putShare_5 : decode cX9_putShare 5 = .ok (.iload_n 2, 1) := by decide +kernel
theorem dX9_putShare_6 : decode cX9_putShare 6 = .ok (.invokevirtual 145, 3) := by decide +kernel
theorem dX9_putShare_9 : decode cX9_putShare 9 = .ok (.aload_n 0, 1) := by decide +kernel
theorem dX9_putShare_10 : decode cX9_putShare 10 = .ok (.getfield 24, 3) := by decide +kernel
theorem dX9_putShare_13 : decode cX9_putShare 13 = .ok (.getfield 290, 3) := by decide +kernel
theorem dX9_putShare_16 : decode cX9_putShare 16 = .ok (.i2l, 1) := by decide +kernel
theorem dX9_putShare_17 : decode cX9_putShare 17 = .ok (.lstore_n 3, 1) := by decide +kernel
theorem dX9_putShare_18 : decode cX9_putShare 18 = .ok (.aload_n 0, 1) := by decide +kernel
theorem dX9_putShare_19 : decode cX9_putShare 19 = .ok (.getfield 24, 3) := by decide +kernel
theorem dX9_putShare_22 : decode cX9_putShare 22 = .ok (.invokevirtual 293, 3) := by decide +kernel
theorem dX9_putShare_25 : decode cX9_putShare 25 = .ok (.lstore 5, 2) := by decide +kernel
theorem dX9_putShare_27 : decode cX9_putShare 27 = .ok (.lload_n 3, 1) := by decide +kernel
theorem dX9_putShare_28 : decode cX9_putShare 28 = .ok (.aload_n 0, 1) := by decide +kernel
theorem dX9_putShare_29 : decode cX9_putShare 29 = .ok (.getfield 34, 3) := by decide +kernel
theorem dX9_putShare_32 : decode cX9_putShare 32 = .ok (.aload_n 0, 1) := by decide +kernel
theorem dX9_putShare_33 : decode cX9_putShare 33 = .ok (.getfield 24, 3) := by decide +kernel
theorem dX9_putShare_36 : decode cX9_putShare 36 = .ok (.getfield 149, 3) := by decide +kernel
theorem dX9_putShare_39 : decode cX9_putShare 39 = .ok (.invokevirtual 152, 3) := by decide +kernel
theorem dX9_putShare_42 : decode cX9_putShare 42 = .ok (.lmul, 1) := by decide +kernel
theorem dX9_putShare_43 : decode cX9_putShare 43 = .ok (.ldc2_w 297, 3) := by decide +kernel
theorem dX9_putShare_46 : decode cX9_putShare 46 = .ok (.lload 5, 2) := by decide +kernel
theorem dX9_putShare_48 : decode cX9_putShare 48 = .ok (.lmul, 1) := by decide +kernel
theorem dX9_putShare_49 : decode cX9_putShare 49 = .ok (.lload 5, 2) := by decide +kernel
theorem dX9_putShare_51 : decode cX9_putShare 51 = .ok (.lmul, 1) := by decide +kernel
theorem dX9_putShare_52 : decode cX9_putShare 52 = .ok (.lsub, 1) := by decide +kernel
theorem dX9_putShare_53 : decode cX9_putShare 53 = .ok (.lstore 7, 2) := by decide +kernel
theorem dX9_putShare_55 : decode cX9_putShare 55 = .ok (.aload_n 0, 1) := by decide +kernel
theorem dX9_putShare_56 : decode cX9_putShare 56 = .ok (.getfield 55, 3) := by decide +kernel
theorem dX9_putShare_59 : decode cX9_putShare 59 = .ok (.lload 7, 2) := by decide +kernel
theorem dX9_putShare_61 : decode cX9_putShare 61 = .ok (.ldc2_w 297, 3) := by decide +kernel
theorem dX9_putShare_64 : decode cX9_putShare 64 = .ok (.lload_n 3, 1) := by decide +kernel
theorem dX9_putShare_65 : decode cX9_putShare 65 = .ok (.aload_n 0, 1) := by decide +kernel
theorem dX9_putShare_66 : decode cX9_putShare 66 = .ok (.getfield 24, 3) := by decide +kernel
theorem dX9_putShare_69 : decode cX9_putShare 69 = .ok (.invokevirtual 299, 3) := by decide +kernel
theorem dX9_putShare_72 : decode cX9_putShare 72 = .ok (.lmul, 1) := by decide +kernel
theorem dX9_putShare_73 : decode cX9_putShare 73 = .ok (.lload 5, 2) := by decide +kernel
theorem dX9_putShare_75 : decode cX9_putShare 75 = .ok (.lload 5, 2) := by decide +kernel
theorem dX9_putShare_77 : decode cX9_putShare 77 = .ok (.lmul, 1) := by decide +kernel
theorem dX9_putShare_78 : decode cX9_putShare 78 = .ok (.lsub, 1) := by decide +kernel
theorem dX9_putShare_79 : decode cX9_putShare 79 = .ok (.lmul, 1) := by decide +kernel
theorem dX9_putShare_80 : decode cX9_putShare 80 = .ok (.invokevirtual 185, 3) := by decide +kernel
theorem dX9_putShare_83 : decode cX9_putShare 83 = .ok (.return_, 1) := by decide +kernel
theorem dX9_oddsOfGreatest_0 : decode cX9_oddsOfGreatest 0 = .ok (.iload_n 2, 1) := by decide +kernel
theorem dX9_oddsOfGreatest_1 : decode cX9_oddsOfGreatest 1 = .ok (.invokestatic 124, 3) := by decide +kernel
theorem dX9_oddsOfGreatest_4 : decode cX9_oddsOfGreatest 4 = .ok (.ifCond .eq 27, 3) := by decide +kernel
theorem dX9_oddsOfGreatest_7 : decode cX9_oddsOfGreatest 7 = .ok (.iload_n 3, 1) := by decide +kernel
theorem dX9_oddsOfGreatest_8 : decode cX9_oddsOfGreatest 8 = .ok (.invokestatic 124, 3) := by decide +kernel
theorem dX9_oddsOfGreatest_11 : decode cX9_oddsOfGreatest 11 = .ok (.ifCond .eq 20, 3) := by decide +kernel
theorem dX9_oddsOfGreatest_14 : decode cX9_oddsOfGreatest 14 = .ok (.iload_n 2, 1) := by decide +kernel
theorem dX9_oddsOfGreatest_15 : decode cX9_oddsOfGreatest 15 = .ok (.iload_n 3, 1) := by decide +kernel
theorem dX9_oddsOfGreatest_16 : decode cX9_oddsOfGreatest 16 = .ok (.if_icmp .gt 15, 3) := by decide +kernel
theorem dX9_oddsOfGreatest_19 : decode cX9_oddsOfGreatest 19 = .ok (.iload 4, 2) := by decide +kernel
theorem dX9_oddsOfGreatest_21 : decode cX9_oddsOfGreatest 21 = .ok (.invokestatic 127, 3) := by decide +kernel
theorem dX9_oddsOfGreatest_24 : decode cX9_oddsOfGreatest 24 = .ok (.ifCond .eq 7, 3) := by decide +kernel
theorem dX9_oddsOfGreatest_27 : decode cX9_oddsOfGreatest 27 = .ok (.iconst 1, 1) := by decide +kernel
theorem dX9_oddsOfGreatest_28 : decode cX9_oddsOfGreatest 28 = .ok (.goto 4, 3) := by decide +kernel
theorem dX9_oddsOfGreatest_31 : decode cX9_oddsOfGreatest 31 = .ok (.iconst 0, 1) := by decide +kernel
theorem dX9_oddsOfGreatest_32 : decode cX9_oddsOfGreatest 32 = .ok (.istore 5, 2) := by decide +kernel
theorem dX9_oddsOfGreatest_34 : decode cX9_oddsOfGreatest 34 = .ok (.aload_n 0, 1) := by decide +kernel
theorem dX9_oddsOfGreatest_35 : decode cX9_oddsOfGreatest 35 = .ok (.iload_n 1, 1) := by decide +kernel
theorem dX9_oddsOfGreatest_36 : decode cX9_oddsOfGreatest 36 = .ok (.invokestatic 77, 3) := by decide +kernel
theorem dX9_oddsOfGreatest_39 : decode cX9_oddsOfGreatest 39 = .ok (.iload 5, 2) := by decide +kernel
theorem dX9_oddsOfGreatest_41 : decode cX9_oddsOfGreatest 41 = .ok (.invokevirtual 112, 3) := by decide +kernel
theorem dX9_oddsOfGreatest_44 : decode cX9_oddsOfGreatest 44 = .ok (.istore 6, 2) := by decide +kernel
theorem dX9_oddsOfGreatest_46 : decode cX9_oddsOfGreatest 46 = .ok (.iload 6, 2) := by decide +kernel
theorem dX9_oddsOfGreatest_48 : decode cX9_oddsOfGreatest 48 = .ok (.ifCond .eq 11, 3) := by decide +kernel
theorem dX9_oddsOfGreatest_51 : decode cX9_oddsOfGreatest 51 = .ok (.ldc2_w 130, 3) := by decide +kernel
theorem dX9_oddsOfGreatest_54 : decode cX9_oddsOfGreatest 54 = .ok (.iload 6, 2) := by decide +kernel
theorem dX9_oddsOfGreatest_56 : decode cX9_oddsOfGreatest 56 = .ok (.i2l, 1) := by decide +kernel
theorem dX9_oddsOfGreatest_57 : decode cX9_oddsOfGreatest 57 = .ok (.ladd, 1) := by decide +kernel
theorem dX9_oddsOfGreatest_58 : decode cX9_oddsOfGreatest 58 = .ok (.lreturn, 1) := by decide +kernel
theorem dX9_oddsOfGreatest_59 : decode cX9_oddsOfGreatest 59 = .ok (.aload_n 0, 1) := by decide +kernel
theorem dX9_oddsOfGreatest_60 : decode cX9_oddsOfGreatest 60 = .ok (.iload_n 1, 1) := by decide +kernel
theorem dX9_oddsOfGreatest_61 : decode cX9_oddsOfGreatest 61 = .ok (.bipush 24, 2) := by decide +kernel
theorem dX9_oddsOfGreatest_63 : decode cX9_oddsOfGreatest 63 = .ok (.iload_n 2, 1) := by decide +kernel
theorem dX9_oddsOfGreatest_64 : decode cX9_oddsOfGreatest 64 = .ok (.iload_n 3, 1) := by decide +kernel
theorem dX9_oddsOfGreatest_65 : decode cX9_oddsOfGreatest 65 = .ok (.invokevirtual 145, 3) := by decide +kernel
theorem dX9_oddsOfGreatest_68 : decode cX9_oddsOfGreatest 68 = .ok (.aload_n 0, 1) := by decide +kernel
theorem dX9_oddsOfGreatest_69 : decode cX9_oddsOfGreatest 69 = .ok (.getfield 24, 3) := by decide +kernel
theorem dX9_oddsOfGreatest_72 : decode cX9_oddsOfGreatest 72 = .ok (.getfield 290, 3) := by decide +kernel
theorem dX9_oddsOfGreatest_75 : decode cX9_oddsOfGreatest 75 = .ok (.iconst 1, 1) := by decide +kernel
theorem dX9_oddsOfGreatest_76 : decode cX9_oddsOfGreatest 76 = .ok (.bipush 7, 2) := by decide +kernel
theorem dX9_oddsOfGreatest_78 : decode cX9_oddsOfGreatest 78 = .ok (.invokestatic 89, 3) := by decide +kernel
theorem dX9_oddsOfGreatest_81 : decode cX9_oddsOfGreatest 81 = .ok (.ifCond .ne 7, 3) := by decide +kernel
theorem dX9_oddsOfGreatest_84 : decode cX9_oddsOfGreatest 84 = .ok (.ldc2_w 238, 3) := by decide +kernel
theorem dX9_oddsOfGreatest_87 : decode cX9_oddsOfGreatest 87 = .ok (.lreturn, 1) := by decide +kernel
theorem dX9_oddsOfGreatest_88 : decode cX9_oddsOfGreatest 88 = .ok (.aload_n 0, 1) := by decide +kernel
theorem dX9_oddsOfGreatest_89 : decode cX9_oddsOfGreatest 89 = .ok (.invokevirtual 302, 3) := by decide +kernel
theorem dX9_oddsOfGreatest_92 : decode cX9_oddsOfGreatest 92 = .ok (.aload_n 0, 1) := by decide +kernel
theorem dX9_oddsOfGreatest_93 : decode cX9_oddsOfGreatest 93 = .ok (.getfield 55, 3) := by decide +kernel
theorem dX9_oddsOfGreatest_96 : decode cX9_oddsOfGreatest 96 = .ok (.iload 4, 2) := by decide +kernel
theorem dX9_oddsOfGreatest_98 : decode cX9_oddsOfGreatest 98 = .ok (.invokevirtual 136, 3) := by decide +kernel
theorem dX9_oddsOfGreatest_101 : decode cX9_oddsOfGreatest 101 = .ok (.lreturn, 1) := by decide +kernel
theorem dX9_countOrders_0 : decode cX9_countOrders 0 = .ok (.aload_n 0, 1) := by decide +kernel
theorem dX9_countOrders_1 : decode cX9_countOrders 1 = .ok (.getfield 34, 3) := by decide +kernel
theorem dX9_countOrders_4 : decode cX9_countOrders 4 = .ok (.aload_n 0, 1) := by decide +kernel
theorem dX9_countOrders_5 : decode cX9_countOrders 5 = .ok (.getfield 24, 3) := by decide +kernel
theorem dX9_countOrders_8 : decode cX9_countOrders 8 = .ok (.getfield 149, 3) := by decide +kernel
theorem dX9_countOrders_11 : decode cX9_countOrders 11 = .ok (.invokevirtual 152, 3) := by decide +kernel
theorem dX9_countOrders_14 : decode cX9_countOrders 14 = .ok (.lstore_n 1, 1) := by decide +kernel
theorem dX9_countOrders_15 : decode cX9_countOrders 15 = .ok (.aload_n 0, 1) := by decide +kernel
theorem dX9_countOrders_16 : decode cX9_countOrders 16 = .ok (.getfield 41, 3) := by decide +kernel
theorem dX9_countOrders_19 : decode cX9_countOrders 19 = .ok (.aload_n 0, 1) := by decide +kernel
theorem dX9_countOrders_20 : decode cX9_countOrders 20 = .ok (.getfield 24, 3) := by decide +kernel
theorem dX9_countOrders_23 : decode cX9_countOrders 23 = .ok (.iconst 1, 1) := by decide +kernel
theorem dX9_countOrders_24 : decode cX9_countOrders 24 = .ok (.invokevirtual 156, 3) := by decide +kernel
theorem dX9_countOrders_27 : decode cX9_countOrders 27 = .ok (.aload_n 0, 1) := by decide +kernel
theorem dX9_countOrders_28 : decode cX9_countOrders 28 = .ok (.getfield 41, 3) := by decide +kernel
theorem dX9_countOrders_31 : decode cX9_countOrders 31 = .ok (.invokevirtual 305, 3) := by decide +kernel
theorem dX9_countOrders_34 : decode cX9_countOrders 34 = .ok (.iconst 0, 1) := by decide +kernel
theorem dX9_countOrders_35 : decode cX9_countOrders 35 = .ok (.istore_n 3, 1) := by decide +kernel
theorem dX9_countOrders_36 : decode cX9_countOrders 36 = .ok (.iconst 0, 1) := by decide +kernel
theorem dX9_countOrders_37 : decode cX9_countOrders 37 = .ok (.istore 4, 2) := by decide +kernel
theorem dX9_countOrders_39 : decode cX9_countOrders 39 = .ok (.iconst 1, 1) := by decide +kernel
theorem dX9_countOrders_40 : decode cX9_countOrders 40 = .ok (.istore 5, 2) := by decide +kernel
theorem dX9_countOrders_42 : decode cX9_countOrders 42 = .ok (.iload 5, 2) := by decide +kernel
theorem dX9_countOrders_44 : decode cX9_countOrders 44 = .ok (.ifCond .eq 46, 3) := by decide +kernel
theorem dX9_countOrders_47 : decode cX9_countOrders 47 = .ok (.iload_n 3, 1) := by decide +kernel
theorem dX9_countOrders_48 : decode cX9_countOrders 48 = .ok (.sipush 5040, 3) := by decide +kernel
theorem dX9_countOrders_51 : decode cX9_countOrders 51 = .ok (.if_icmp .ge 39, 3) := by decide +kernel
theorem dX9_countOrders_54 : decode cX9_countOrders 54 = .ok (.iinc 3 1, 3) := by decide +kernel
theorem dX9_countOrders_57 : decode cX9_countOrders 57 = .ok (.aload_n 0, 1) := by decide +kernel
theorem dX9_countOrders_58 : decode cX9_countOrders 58 = .ok (.getfield 34, 3) := by decide +kernel
theorem dX9_countOrders_61 : decode cX9_countOrders 61 = .ok (.aload_n 0, 1) := by decide +kernel
theorem dX9_countOrders_62 : decode cX9_countOrders 62 = .ok (.getfield 41, 3) := by decide +kernel
theorem dX9_countOrders_65 : decode cX9_countOrders 65 = .ok (.getfield 163, 3) := by decide +kernel
theorem dX9_countOrders_68 : decode cX9_countOrders 68 = .ok (.lload_n 1, 1) := by decide +kernel
theorem dX9_countOrders_69 : decode cX9_countOrders 69 = .ok (.invokevirtual 164, 3) := by decide +kernel
theorem dX9_countOrders_72 : decode cX9_countOrders 72 = .ok (.ifCond .eq 6, 3) := by decide +kernel
theorem dX9_countOrders_75 : decode cX9_countOrders 75 = .ok (.iinc 4 1, 3) := by decide +kernel
theorem dX9_countOrders_78 : decode cX9_countOrders 78 = .ok (.aload_n 0, 1) := by decide +kernel
theorem dX9_countOrders_79 : decode cX9_countOrders 79 = .ok (.getfield 41, 3) := by decide +kernel
theorem dX9_countOrders_82 : decode cX9_countOrders 82 = .ok (.invokevirtual 308, 3) := by decide +kernel
theorem dX9_countOrders_85 : decode cX9_countOrders 85 = .ok (.istore 5, 2) := by decide +kernel
theorem dX9_countOrders_87 : decode cX9_countOrders 87 = .ok (.goto (-45), 3) := by decide +kernel
theorem dX9_countOrders_90 : decode cX9_countOrders 90 = .ok (.aload_n 0, 1) := by decide +kernel
theorem dX9_countOrders_91 : decode cX9_countOrders 91 = .ok (.getfield 55, 3) := by decide +kernel
theorem dX9_countOrders_94 : decode cX9_countOrders 94 = .ok (.iload 4, 2) := by decide +kernel
theorem dX9_countOrders_96 : decode cX9_countOrders 96 = .ok (.i2l, 1) := by decide +kernel
theorem dX9_countOrders_97 : decode cX9_countOrders 97 = .ok (.iload_n 3, 1) := by decide +kernel
theorem dX9_countOrders_98 : decode cX9_countOrders 98 = .ok (.i2l, 1) := by decide +kernel
theorem dX9_countOrders_99 : decode cX9_countOrders 99 = .ok (.invokevirtual 185, 3) := by decide +kernel
theorem dX9_countOrders_102 : decode cX9_countOrders 102 = .ok (.return_, 1) := by decide +kernel
theorem dX9_putTogether_0 : decode cX9_putTogether 0 = .ok (.lconst 0, 1) := by decide +kernel
theorem dX9_putTogether_1 : decode cX9_putTogether 1 = .ok (.lstore_n 3, 1) := by decide +kernel
theorem dX9_putTogether_2 : decode cX9_putTogether 2 = .ok (.lconst 0, 1) := by decide +kernel
theorem dX9_putTogether_3 : decode cX9_putTogether 3 = .ok (.lstore 5, 2) := by decide +kernel
theorem dX9_putTogether_5 : decode cX9_putTogether 5 = .ok (.lconst 0, 1) := by decide +kernel
theorem dX9_putTogether_6 : decode cX9_putTogether 6 = .ok (.lstore 7, 2) := by decide +kernel
theorem dX9_putTogether_8 : decode cX9_putTogether 8 = .ok (.lconst 0, 1) := by decide +kernel
theorem dX9_putTogether_9 : decode cX9_putTogether 9 = .ok (.lstore 9, 2) := by decide +kernel
theorem dX9_putTogether_11 : decode cX9_putTogether 11 = .ok (.lconst 0, 1) := by decide +kernel
theorem dX9_putTogether_12 : decode cX9_putTogether 12 = .ok (.lstore 11, 2) := by decide +kernel
theorem dX9_putTogether_14 : decode cX9_putTogether 14 = .ok (.lconst 0, 1) := by decide +kernel
theorem dX9_putTogether_15 : decode cX9_putTogether 15 = .ok (.lstore 13, 2) := by decide +kernel
theorem dX9_putTogether_17 : decode cX9_putTogether 17 = .ok (.iconst 0, 1) := by decide +kernel
theorem dX9_putTogether_18 : decode cX9_putTogether 18 = .ok (.istore 15, 2) := by decide +kernel
theorem dX9_putTogether_20 : decode cX9_putTogether 20 = .ok (.iload 15, 2) := by decide +kernel
theorem dX9_putTogether_22 : decode cX9_putTogether 22 = .ok (.bipush 24, 2) := by decide +kernel
theorem dX9_putTogether_24 : decode cX9_putTogether 24 = .ok (.if_icmp .ge 109, 3) := by decide +kernel
theorem dX9_putTogether_27 : decode cX9_putTogether 27 = .ok (.aload_n 0, 1) := by decide +kernel
theorem dX9_putTogether_28 : decode cX9_putTogether 28 = .ok (.getfield 24, 3) := by decide +kernel
theorem dX9_putTogether_31 : decode cX9_putTogether 31 = .ok (.getfield 120, 3) := by decide +kernel
theorem dX9_putTogether_34 : decode cX9_putTogether 34 = .ok (.iload 15, 2) := by decide +kernel
theorem dX9_putTogether_36 : decode cX9_putTogether 36 = .ok (.iaload, 1) := by decide +kernel
theorem dX9_putTogether_37 : decode cX9_putTogether 37 = .ok (.i2l, 1) := by decide +kernel
theorem dX9_putTogether_38 : decode cX9_putTogether 38 = .ok (.lstore 16, 2) := by decide +kernel
theorem dX9_putTogether_40 : decode cX9_putTogether 40 = .ok (.aload_n 0, 1) := by decide +kernel
theorem dX9_putTogether_41 : decode cX9_putTogether 41 = .ok (.getfield 28, 3) := by decide +kernel
theorem dX9_putTogether_44 : decode cX9_putTogether 44 = .ok (.getfield 120, 3) := by decide +kernel
theorem dX9_putTogether_47 : decode cX9_putTogether 47 = .ok (.iload 15, 2) := by decide +kernel
theorem dX9_putTogether_49 : decode cX9_putTogether 49 = .ok (.bipush 24, 2) := by decide +kernel
theorem dX9_putTogether_51 : decode cX9_putTogether 51 = .ok (.iadd, 1) := by decide +kernel
theorem dX9_putTogether_52 : decode cX9_putTogether 52 = .ok (.iload_n 1, 1) := by decide +kernel
theorem dX9_putTogether_53 : decode cX9_putTogether 53 = .ok (.isub, 1) := by decide +kernel
theorem dX9_putTogether_54 : decode cX9_putTogether 54 = .ok (.bipush 24, 2) := by decide +kernel
theorem dX9_putTogether_56 : decode cX9_putTogether 56 = .ok (.irem, 1) := by decide +kernel
theorem dX9_putTogether_57 : decode cX9_putTogether 57 = .ok (.iaload, 1) := by decide +kernel
theorem dX9_putTogether_58 : decode cX9_putTogether 58 = .ok (.i2l, 1) := by decide +kernel
theorem dX9_putTogether_59 : decode cX9_putTogether 59 = .ok (.lstore 18, 2) := by decide +kernel
theorem dX9_putTogether_61 : decode cX9_putTogether 61 = .ok (.lload 16, 2) := by decide +kernel
theorem dX9_putTogether_63 : decode cX9_putTogether 63 = .ok (.ldc2_w 311, 3) := by decide +kernel
theorem dX9_putTogether_66 : decode cX9_putTogether 66 = .ok (.lcmp, 1) := by decide +kernel
theorem dX9_putTogether_67 : decode cX9_putTogether 67 = .ok (.ifCond .eq 60, 3) := by decide +kernel
theorem dX9_putTogether_70 : decode cX9_putTogether 70 = .ok (.lload 18, 2) := by decide +kernel
theorem dX9_putTogether_72 : decode cX9_putTogether 72 = .ok (.ldc2_w 311, 3) := by decide +kernel
theorem dX9_putTogether_75 : decode cX9_putTogether 75 = .ok (.lcmp, 1) := by decide +kernel
theorem dX9_putTogether_76 : decode cX9_putTogether 76 = .ok (.ifCond .eq 51, 3) := by decide +kernel
theorem dX9_putTogether_79 : decode cX9_putTogether 79 = .ok (.lload_n 3, 1) := by decide +kernel
theorem dX9_putTogether_80 : decode cX9_putTogether 80 = .ok (.lconst 1, 1) := by decide +kernel
theorem dX9_putTogether_81 : decode cX9_putTogether 81 = .ok (.ladd, 1) := by decide +kernel
theorem dX9_putTogether_82 : decode cX9_putTogether 82 = .ok (.lstore_n 3, 1) := by decide +kernel
theorem dX9_putTogether_83 : decode cX9_putTogether 83 = .ok (.lload 5, 2) := by decide +kernel
theorem dX9_putTogether_85 : decode cX9_putTogether 85 = .ok (.lload 16, 2) := by decide +kernel
theorem dX9_putTogether_87 : decode cX9_putTogether 87 = .ok (.ladd, 1) := by decide +kernel
theorem dX9_putTogether_88 : decode cX9_putTogether 88 = .ok (.lstore 5, 2) := by decide +kernel
theorem dX9_putTogether_90 : decode cX9_putTogether 90 = .ok (.lload 7, 2) := by decide +kernel
theorem dX9_putTogether_92 : decode cX9_putTogether 92 = .ok (.lload 18, 2) := by decide +kernel
theorem dX9_putTogether_94 : decode cX9_putTogether 94 = .ok (.ladd, 1) := by decide +kernel
theorem dX9_putTogether_95 : decode cX9_putTogether 95 = .ok (.lstore 7, 2) := by decide +kernel
theorem dX9_putTogether_97 : decode cX9_putTogether 97 = .ok (.lload 9, 2) := by decide +kernel
theorem dX9_putTogether_99 : decode cX9_putTogether 99 = .ok (.lload 16, 2) := by decide +kernel
theorem dX9_putTogether_101 : decode cX9_putTogether 101 = .ok (.lload 16, 2) := by decide +kernel
theorem dX9_putTogether_103 : decode cX9_putTogether 103 = .ok (.lmul, 1) := by decide +kernel
theorem dX9_putTogether_104 : decode cX9_putTogether 104 = .ok (.ladd, 1) := by decide +kernel
theorem dX9_putTogether_105 : decode cX9_putTogether 105 = .ok (.lstore 9, 2) := by decide +kernel
theorem dX9_putTogether_107 : decode cX9_putTogether 107 = .ok (.lload 11, 2) := by decide +kernel
theorem dX9_putTogether_109 : decode cX9_putTogether 109 = .ok (.lload 18, 2) := by decide +kernel
theorem dX9_putTogether_111 : decode cX9_putTogether 111 = .ok (.lload 18, 2) := by decide +kernel
theorem dX9_putTogether_113 : decode cX9_putTogether 113 = .ok (.lmul, 1) := by decide +kernel
theorem dX9_putTogether_114 : decode cX9_putTogether 114 = .ok (.ladd, 1) := by decide +kernel
theorem dX9_putTogether_115 : decode cX9_putTogether 115 = .ok (.lstore 11, 2) := by decide +kernel
theorem dX9_putTogether_117 : decode cX9_putTogether 117 = .ok (.lload 13, 2) := by decide +kernel
theorem dX9_putTogether_119 : decode cX9_putTogether 119 = .ok (.lload 16, 2) := by decide +kernel
theorem dX9_putTogether_121 : decode cX9_putTogether 121 = .ok (.lload 18, 2) := by decide +kernel
theorem dX9_putTogether_123 : decode cX9_putTogether 123 = .ok (.lmul, 1) := by decide +kernel
theorem dX9_putTogether_124 : decode cX9_putTogether 124 = .ok (.ladd, 1) := by decide +kernel
theorem dX9_putTogether_125 : decode cX9_putTogether 125 = .ok (.lstore 13, 2) := by decide +kernel
theorem dX9_putTogether_127 : decode cX9_putTogether 127 = .ok (.iinc 15 1, 3) := by decide +kernel
theorem dX9_putTogether_130 : decode cX9_putTogether 130 = .ok (.goto (-110), 3) := by decide +kernel
theorem dX9_putTogether_133 : decode cX9_putTogether 133 = .ok (.lload_n 3, 1) := by decide +kernel
theorem dX9_putTogether_134 : decode cX9_putTogether 134 = .ok (.lload 13, 2) := by decide +kernel
theorem dX9_putTogether_136 : decode cX9_putTogether 136 = .ok (.lmul, 1) := by decide +kernel
theorem dX9_putTogether_137 : decode cX9_putTogether 137 = .ok (.lload 5, 2) := by decide +kernel
theorem dX9_putTogether_139 : decode cX9_putTogether 139 = .ok (.lload 7, 2) := by decide +kernel
theorem dX9_putTogether_141 : decode cX9_putTogether 141 = .ok (.lmul, 1) := by decide +kernel
theorem dX9_putTogether_142 : decode cX9_putTogether 142 = .ok (.lsub, 1) := by decide +kernel
theorem dX9_putTogether_143 : decode cX9_putTogether 143 = .ok (.lstore 15, 2) := by decide +kernel
theorem dX9_putTogether_145 : decode cX9_putTogether 145 = .ok (.aload_n 2, 1) := by decide +kernel
theorem dX9_putTogether_146 : decode cX9_putTogether 146 = .ok (.lload 15, 2) := by decide +kernel
theorem dX9_putTogether_148 : decode cX9_putTogether 148 = .ok (.lload 15, 2) := by decide +kernel
theorem dX9_putTogether_150 : decode cX9_putTogether 150 = .ok (.lmul, 1) := by decide +kernel
theorem dX9_putTogether_151 : decode cX9_putTogether 151 = .ok (.lload_n 3, 1) := by decide +kernel
theorem dX9_putTogether_152 : decode cX9_putTogether 152 = .ok (.lload 9, 2) := by decide +kernel
theorem dX9_putTogether_154 : decode cX9_putTogether 154 = .ok (.lmul, 1) := by decide +kernel
theorem dX9_putTogether_155 : decode cX9_putTogether 155 = .ok (.lload 5, 2) := by decide +kernel
theorem dX9_putTogether_157 : decode cX9_putTogether 157 = .ok (.lload 5, 2) := by decide +kernel
theorem dX9_putTogether_159 : decode cX9_putTogether 159 = .ok (.lmul, 1) := by decide +kernel
theorem dX9_putTogether_160 : decode cX9_putTogether 160 = .ok (.lsub, 1) := by decide +kernel
theorem dX9_putTogether_161 : decode cX9_putTogether 161 = .ok (.lload_n 3, 1) := by decide +kernel
theorem dX9_putTogether_162 : decode cX9_putTogether 162 = .ok (.lload 11, 2) := by decide +kernel
theorem dX9_putTogether_164 : decode cX9_putTogether 164 = .ok (.lmul, 1) := by decide +kernel
theorem dX9_putTogether_165 : decode cX9_putTogether 165 = .ok (.lload 7, 2) := by decide +kernel
theorem dX9_putTogether_167 : decode cX9_putTogether 167 = .ok (.lload 7, 2) := by decide +kernel
theorem dX9_putTogether_169 : decode cX9_putTogether 169 = .ok (.lmul, 1) := by decide +kernel
theorem dX9_putTogether_170 : decode cX9_putTogether 170 = .ok (.lsub, 1) := by decide +kernel
theorem dX9_putTogether_171 : decode cX9_putTogether 171 = .ok (.lmul, 1) := by decide +kernel
theorem dX9_putTogether_172 : decode cX9_putTogether 172 = .ok (.invokevirtual 185, 3) := by decide +kernel
theorem dX9_putTogether_175 : decode cX9_putTogether 175 = .ok (.return_, 1) := by decide +kernel
theorem dX9_topsOf_0 : decode cX9_topsOf 0 = .ok (.iload_n 0, 1) := by decide +kernel
theorem dX9_topsOf_1 : decode cX9_topsOf 1 = .ok (.iload_n 2, 1) := by decide +kernel
theorem dX9_topsOf_2 : decode cX9_topsOf 2 = .ok (.ishl, 1) := by decide +kernel
theorem dX9_topsOf_3 : decode cX9_topsOf 3 = .ok (.istore_n 3, 1) := by decide +kernel
theorem dX9_topsOf_4 : decode cX9_topsOf 4 = .ok (.iload_n 0, 1) := by decide +kernel
theorem dX9_topsOf_5 : decode cX9_topsOf 5 = .ok (.iload_n 3, 1) := by decide +kernel
theorem dX9_topsOf_6 : decode cX9_topsOf 6 = .ok (.iconst (-1), 1) := by decide +kernel
theorem dX9_topsOf_7 : decode cX9_topsOf 7 = .ok (.ixor, 1) := by decide +kernel
theorem dX9_topsOf_8 : decode cX9_topsOf 8 = .ok (.iand, 1) := by decide +kernel
theorem dX9_topsOf_9 : decode cX9_topsOf 9 = .ok (.istore 4, 2) := by decide +kernel
theorem dX9_topsOf_11 : decode cX9_topsOf 11 = .ok (.iload_n 3, 1) := by decide +kernel
theorem dX9_topsOf_12 : decode cX9_topsOf 12 = .ok (.iload_n 0, 1) := by decide +kernel
theorem dX9_topsOf_13 : decode cX9_topsOf 13 = .ok (.iconst (-1), 1) := by decide +kernel
theorem dX9_topsOf_14 : decode cX9_topsOf 14 = .ok (.ixor, 1) := by decide +kernel
theorem dX9_topsOf_15 : decode cX9_topsOf 15 = .ok (.iand, 1) := by decide +kernel
theorem dX9_topsOf_16 : decode cX9_topsOf 16 = .ok (.istore 5, 2) := by decide +kernel
theorem dX9_topsOf_18 : decode cX9_topsOf 18 = .ok (.iconst 1, 1) := by decide +kernel
theorem dX9_topsOf_19 : decode cX9_topsOf 19 = .ok (.iload_n 1, 1) := by decide +kernel
theorem dX9_topsOf_20 : decode cX9_topsOf 20 = .ok (.iconst 1, 1) := by decide +kernel
theorem dX9_topsOf_21 : decode cX9_topsOf 21 = .ok (.isub, 1) := by decide +kernel
theorem dX9_topsOf_22 : decode cX9_topsOf 22 = .ok (.ishl, 1) := by decide +kernel
theorem dX9_topsOf_23 : decode cX9_topsOf 23 = .ok (.iconst 1, 1) := by decide +kernel
theorem dX9_topsOf_24 : decode cX9_topsOf 24 = .ok (.isub, 1) := by decide +kernel
theorem dX9_topsOf_25 : decode cX9_topsOf 25 = .ok (.iconst 1, 1) := by decide +kernel
theorem dX9_topsOf_26 : decode cX9_topsOf 26 = .ok (.iload_n 2, 1) := by decide +kernel
theorem dX9_topsOf_27 : decode cX9_topsOf 27 = .ok (.ishl, 1) := by decide +kernel
theorem dX9_topsOf_28 : decode cX9_topsOf 28 = .ok (.ineg, 1) := by decide +kernel
theorem dX9_topsOf_29 : decode cX9_topsOf 29 = .ok (.iand, 1) := by decide +kernel
theorem dX9_topsOf_30 : decode cX9_topsOf 30 = .ok (.istore 6, 2) := by decide +kernel
theorem dX9_topsOf_32 : decode cX9_topsOf 32 = .ok (.iload 4, 2) := by decide +kernel
theorem dX9_topsOf_34 : decode cX9_topsOf 34 = .ok (.iload 5, 2) := by decide +kernel
theorem dX9_topsOf_36 : decode cX9_topsOf 36 = .ok (.iconst 1, 1) := by decide +kernel
theorem dX9_topsOf_37 : decode cX9_topsOf 37 = .ok (.ishr, 1) := by decide +kernel
theorem dX9_topsOf_38 : decode cX9_topsOf 38 = .ok (.iand, 1) := by decide +kernel
theorem dX9_topsOf_39 : decode cX9_topsOf 39 = .ok (.iload 6, 2) := by decide +kernel
theorem dX9_topsOf_41 : decode cX9_topsOf 41 = .ok (.iand, 1) := by decide +kernel
theorem dX9_topsOf_42 : decode cX9_topsOf 42 = .ok (.invokestatic 262, 3) := by decide +kernel
theorem dX9_topsOf_45 : decode cX9_topsOf 45 = .ok (.ireturn, 1) := by decide +kernel
theorem dX9_lookLater_0 : decode cX9_lookLater 0 = .ok (.aload_n 0, 1) := by decide +kernel
theorem dX9_lookLater_1 : decode cX9_lookLater 1 = .ok (.iload_n 1, 1) := by decide +kernel
theorem dX9_lookLater_2 : decode cX9_lookLater 2 = .ok (.iload_n 2, 1) := by decide +kernel
theorem dX9_lookLater_3 : decode cX9_lookLater 3 = .ok (.iconst 2, 1) := by decide +kernel
theorem dX9_lookLater_4 : decode cX9_lookLater 4 = .ok (.bipush 12, 2) := by decide +kernel
theorem dX9_lookLater_6 : decode cX9_lookLater 6 = .ok (.invokevirtual 145, 3) := by decide +kernel
theorem dX9_lookLater_9 : decode cX9_lookLater 9 = .ok (.aload_n 0, 1) := by decide +kernel
theorem dX9_lookLater_10 : decode cX9_lookLater 10 = .ok (.getfield 48, 3) := by decide +kernel
theorem dX9_lookLater_13 : decode cX9_lookLater 13 = .ok (.aload_n 0, 1) := by decide +kernel
theorem dX9_lookLater_14 : decode cX9_lookLater 14 = .ok (.getfield 24, 3) := by decide +kernel
theorem dX9_lookLater_17 : decode cX9_lookLater 17 = .ok (.iload_n 2, 1) := by decide +kernel
theorem dX9_lookLater_18 : decode cX9_lookLater 18 = .ok (.aload_n 0, 1) := by decide +kernel
theorem dX9_lookLater_19 : decode cX9_lookLater 19 = .ok (.getfield 34, 3) := by decide +kernel
theorem dX9_lookLater_22 : decode cX9_lookLater 22 = .ok (.aload_n 0, 1) := by decide +kernel
theorem dX9_lookLater_23 : decode cX9_lookLater 23 = .ok (.getfield 24, 3) := by decide +kernel
theorem dX9_lookLater_26 : decode cX9_lookLater 26 = .ok (.getfield 149, 3) := by decide +kernel
theorem dX9_lookLater_29 : decode cX9_lookLater 29 = .ok (.invokevirtual 313, 3) := by decide +kernel
theorem dX9_lookLater_32 : decode cX9_lookLater 32 = .ok (.invokevirtual 316, 3) := by decide +kernel
theorem dX9_lookLater_35 : decode cX9_lookLater 35 = .ok (.return_, 1) := by decide +kernel
theorem dX10_init_0 : decode cX10_init 0 = .ok (.aload_n 0, 1) := by decide +kernel
theorem dX10_init_1 : decode cX10_init 1 = .ok (.invokespecial 1, 3) := by decide +kernel
theorem dX10_init_4 : decode cX10_init 4 = .ok (.aload_n 0, 1) := by decide +kernel
theorem dX10_init_5 : decode cX10_init 5 = .ok (.sipush 144, 3) := by decide +kernel
theorem dX10_init_8 : decode cX10_init 8 = .ok (.newarray .int, 2) := by decide +kernel
theorem dX10_init_10 : decode cX10_init 10 = .ok (.putfield 7, 3) := by decide +kernel
theorem dX10_init_13 : decode cX10_init 13 = .ok (.aload_n 0, 1) := by decide +kernel
theorem dX10_init_14 : decode cX10_init 14 = .ok (.bipush 20, 2) := by decide +kernel
theorem dX10_init_16 : decode cX10_init 16 = .ok (.newarray .int, 2) := by decide +kernel
theorem dX10_init_18 : decode cX10_init 18 = .ok (.putfield 13, 3) := by decide +kernel
theorem dX10_init_21 : decode cX10_init 21 = .ok (.aload_n 0, 1) := by decide +kernel
theorem dX10_init_22 : decode cX10_init 22 = .ok (.bipush 24, 2) := by decide +kernel
theorem dX10_init_24 : decode cX10_init 24 = .ok (.newarray .int, 2) := by decide +kernel
theorem dX10_init_26 : decode cX10_init 26 = .ok (.putfield 16, 3) := by decide +kernel
theorem dX10_init_29 : decode cX10_init 29 = .ok (.aload_n 0, 1) := by decide +kernel
theorem dX10_init_30 : decode cX10_init 30 = .ok (.bipush 24, 2) := by decide +kernel
theorem dX10_init_32 : decode cX10_init 32 = .ok (.newarray .int, 2) := by decide +kernel
theorem dX10_init_34 : decode cX10_init 34 = .ok (.putfield 19, 3) := by decide +kernel
theorem dX10_init_37 : decode cX10_init 37 = .ok (.aload_n 0, 1) := by decide +kernel
theorem dX10_init_38 : decode cX10_init 38 = .ok (.bipush 24, 2) := by decide +kernel
theorem dX10_init_40 : decode cX10_init 40 = .ok (.newarray .int, 2) := by decide +kernel
theorem dX10_init_42 : decode cX10_init 42 = .ok (.putfield 22, 3) := by decide +kernel
theorem dX10_init_45 : decode cX10_init 45 = .ok (.aload_n 0, 1) := by decide +kernel
theorem dX10_init_46 : decode cX10_init 46 = .ok (.bipush 24, 2) := by decide +kernel
theorem dX10_init_48 : decode cX10_init 48 = .ok (.newarray .int, 2) := by decide +kernel
theorem dX10_init_50 : decode cX10_init 50 = .ok (.putfield 25, 3) := by decide +kernel
theorem dX10_init_53 : decode cX10_init 53 = .ok (.aload_n 0, 1) := by decide +kernel
theorem dX10_init_54 : decode cX10_init 54 = .ok (.bipush 12, 2) := by decide +kernel
theorem dX10_init_56 : decode cX10_init 56 = .ok (.newarray .long, 2) := by decide +kernel
theorem dX10_init_58 : decode cX10_init 58 = .ok (.putfield 28, 3) := by decide +kernel
theorem dX10_init_61 : decode cX10_init 61 = .ok (.aload_n 0, 1) := by decide +kernel
theorem dX10_init_62 : decode cX10_init 62 = .ok (.bipush 12, 2) := by decide +kernel
theorem dX10_init_64 : decode cX10_init 64 = .ok (.newarray .int, 2) := by decide +kernel
theorem dX10_init_66 : decode cX10_init 66 = .ok (.putfield 32, 3) := by decide +kernel
theorem dX10_init_69 : decode cX10_init 69 = .ok (.aload_n 0, 1) := by decide +kernel
theorem dX10_init_70 : decode cX10_init 70 = .ok (.bipush 8, 2) := by decide +kernel
theorem dX10_init_72 : decode cX10_init 72 = .ok (.newarray .int, 2) := by decide +kernel
theorem dX10_init_74 : decode cX10_init 74 = .ok (.putfield 35, 3) := by decide +kernel
theorem dX10_init_77 : decode cX10_init 77 = .ok (.aload_n 0, 1) := by decide +kernel
theorem dX10_init_78 : decode cX10_init 78 = .ok (.bipush 24, 2) := by decide +kernel
theorem dX10_init_80 : decode cX10_init 80 = .ok (.newarray .int, 2) := by decide +kernel
theorem dX10_init_82 : decode cX10_init 82 = .ok (.putfield 38, 3) := by decide +kernel
theorem dX10_init_85 : decode cX10_init 85 = .ok (.aload_n 0, 1) := by decide +kernel
theorem dX10_init_86 : decode cX10_init 86 = .ok (.bipush 20, 2) := by decide +kernel
theorem dX10_init_88 : decode cX10_init 88 = .ok (.newarray .int, 2) := by decide +kernel
theorem dX10_init_90 : decode cX10_init 90 = .ok (.putfield 41, 3) := by decide +kernel
theorem dX10_init_93 : decode cX10_init 93 = .ok (.aload_n 0, 1) := by decide +kernel
theorem dX10_init_94 : decode cX10_init 94 = .ok (.bipush 20, 2) := by decide +kernel
theorem dX10_init_96 : decode cX10_init 96 = .ok (.newarray .int, 2) := by decide +kernel
theorem dX10_init_98 : decode cX10_init 98 = .ok (.putfield 44, 3) := by decide +kernel
theorem dX10_init_101 : decode cX10_init 101 = .ok (.aload_n 0, 1) := by decide +kernel
theorem dX10_init_102 : decode cX10_init 102 = .ok (.bipush 20, 2) := by decide +kernel
theorem dX10_init_104 : decode cX10_init 104 = .ok (.newarray .int, 2) := by decide +kernel
theorem dX10_init_106 : decode cX10_init 106 = .ok (.putfield 47, 3) := by decide +kernel
theorem dX10_init_109 : decode cX10_init 109 = .ok (.aload_n 0, 1) := by decide +kernel
theorem dX10_init_110 : decode cX10_init 110 = .ok (.bipush 8, 2) := by decide +kernel
theorem dX10_init_112 : decode cX10_init 112 = .ok (.newarray .int, 2) := by decide +kernel
theorem dX10_init_114 : decode cX10_init 114 = .ok (.putfield 50, 3) := by decide +kernel
theorem dX10_init_117 : decode cX10_init 117 = .ok (.iconst 0, 1) := by decide +kernel
theorem dX10_init_118 : decode cX10_init 118 = .ok (.istore_n 1, 1) := by decide +kernel
theorem dX10_init_119 : decode cX10_init 119 = .ok (.iload_n 1, 1) := by decide +kernel
theorem dX10_init_120 : decode cX10_init 120 = .ok (.sipush 144, 3) := by decide +kernel
theorem dX10_init_123 : decode cX10_init 123 = .ok (.if_icmp .ge 17, 3) := by decide +kernel
theorem dX10_init_126 : decode cX10_init 126 = .ok (.aload_n 0, 1) := by decide +kernel
theorem dX10_init_127 : decode cX10_init 127 = .ok (.getfield 7, 3) := by decide +kernel
theorem dX10_init_130 : decode cX10_init 130 = .ok (.iload_n 1, 1) := by decide +kernel
theorem dX10_init_131 : decode cX10_init 131 = .ok (.ldc 53, 2) := by decide +kernel
theorem dX10_init_133 : decode cX10_init 133 = .ok (.iastore, 1) := by decide +kernel
theorem dX10_init_134 : decode cX10_init 134 = .ok (.iinc 1 1, 3) := by decide +kernel
theorem dX10_init_137 : decode cX10_init 137 = .ok (.goto (-18), 3) := by decide +kernel
theorem dX10_init_140 : decode cX10_init 140 = .ok (.aload_n 0, 1) := by decide +kernel
theorem dX10_init_141 : decode cX10_init 141 = .ok (.bipush 50, 2) := by decide +kernel
theorem dX10_init_143 : decode cX10_init 143 = .ok (.putfield 54, 3) := by decide +kernel
theorem dX10_init_146 : decode cX10_init 146 = .ok (.return_, 1) := by decide +kernel
theorem dX10_in_0 : decode cX10_in 0 = .ok (.lload_n 0, 1) := by decide +kernel
theorem dX10_in_1 : decode cX10_in 1 = .ok (.lload_n 2, 1) := by decide +kernel
theorem dX10_in_2 : decode cX10_in 2 = .ok (.lcmp, 1) := by decide +kernel
theorem dX10_in_3 : decode cX10_in 3 = .ok (.ifCond .lt 14, 3) := by decide +kernel
theorem dX10_in_6 : decode cX10_in 6 = .ok (.lload_n 0, 1) := by decide +kernel
theorem dX10_in_7 : decode cX10_in 7 = .ok (.lload 4, 2) := by decide +kernel
theorem dX10_in_9 : decode cX10_in 9 = .ok (.lcmp, 1) := by decide +kernel
theorem dX10_in_10 : decode cX10_in 10 = .ok (.ifCond .gt 7, 3) := by decide +kernel
theorem dX10_in_13 : decode cX10_in 13 = .ok (.iconst 1, 1) := by decide +kernel
theorem dX10_in_14 : decode cX10_in 14 = .ok (.goto 4, 3) := by decide +kernel
theorem dX10_in_17 : decode cX10_in 17 = .ok (.iconst 0, 1) := by decide +kernel
theorem dX10_in_18 : decode cX10_in 18 = .ok (.ireturn, 1) := by decide +kernel
theorem dX10_ones_0 : decode cX10_ones 0 = .ok (.iconst 0, 1) := by decide +kernel
theorem dX10_ones_1 : decode cX10_ones 1 = .ok (.istore_n 1, 1) := by decide +kernel
theorem dX10_ones_2 : decode cX10_ones 2 = .ok (.iconst 0, 1) := by decide +kernel
theorem dX10_ones_3 : decode cX10_ones 3 = .ok (.istore_n 2, 1) := by decide +kernel
theorem dX10_ones_4 : decode cX10_ones 4 = .ok (.iload_n 2, 1) := by decide +kernel
theorem dX10_ones_5 : decode cX10_ones 5 = .ok (.bipush 20, 2) := by decide +kernel
theorem dX10_ones_7 : decode cX10_ones 7 = .ok (.if_icmp .ge 17, 3) := by decide +kernel
theorem dX10_ones_10 : decode cX10_ones 10 = .ok (.iload_n 1, 1) := by decide +kernel
theorem dX10_ones_11 : decode cX10_ones 11 = .ok (.iload_n 0, 1) := by decide +kernel
theorem dX10_ones_12 : decode cX10_ones 12 = .ok (.iload_n 2, 1) := by decide +kernel
theorem dX10_ones_13 : decode cX10_ones 13 = .ok (.ishr, 1) := by decide +kernel
theorem dX10_ones_14 : decode cX10_ones 14 = .ok (.iconst 1, 1) := by decide +kernel
theorem dX10_ones_15 : decode cX10_ones 15 = .ok (.iand, 1) := by decide +kernel
theorem dX10_ones_16 : decode cX10_ones 16 = .ok (.iadd, 1) := by decide +kernel
theorem dX10_ones_17 : decode cX10_ones 17 = .ok (.istore_n 1, 1) := by decide +kernel
theorem dX10_ones_18 : decode cX10_ones 18 = .ok (.iinc 2 1, 3) := by decide +kernel
theorem dX10_ones_21 : decode cX10_ones 21 = .ok (.goto (-17), 3) := by decide +kernel
theorem dX10_ones_24 : decode cX10_ones 24 = .ok (.iload_n 1, 1) := by decide +kernel
theorem dX10_ones_25 : decode cX10_ones 25 = .ok (.ireturn, 1) := by decide +kernel
theorem dX10_lowest_0 : decode cX10_lowest 0 = .ok (.lload_n 0, 1) := by decide +kernel
theorem dX10_lowest_1 : decode cX10_lowest 1 = .ok (.lconst 0, 1) := by decide +kernel
theorem dX10_lowest_2 : decode cX10_lowest 2 = .ok (.lcmp, 1) := by decide +kernel
theorem dX10_lowest_3 : decode cX10_lowest 3 = .ok (.ifCond .ge 8, 3) := by decide +kernel
theorem dX10_lowest_6 : decode cX10_lowest 6 = .ok (.lload_n 0, 1) := by decide +kernel
theorem dX10_lowest_7 : decode cX10_lowest 7 = .ok (.lneg, 1) := by decide +kernel
theorem dX10_lowest_8 : decode cX10_lowest 8 = .ok (.goto 4, 3) := by decide +kernel
theorem dX10_lowest_11 : decode cX10_lowest 11 = .ok (.lload_n 0, 1) := by decide +kernel
theorem dX10_lowest_12 : decode cX10_lowest 12 = .ok (.lstore 5, 2) := by decide +kernel
theorem dX10_lowest_14 : decode cX10_lowest 14 = .ok (.lload_n 2, 1) := by decide +kernel
theorem dX10_lowest_15 : decode cX10_lowest 15 = .ok (.lstore 7, 2) := by decide +kernel
theorem dX10_lowest_17 : decode cX10_lowest 17 = .ok (.lload 7, 2) := by decide +kernel
theorem dX10_lowest_19 : decode cX10_lowest 19 = .ok (.lconst 0, 1) := by decide +kernel
theorem dX10_lowest_20 : decode cX10_lowest 20 = .ok (.lcmp, 1) := by decide +kernel
theorem dX10_lowest_21 : decode cX10_lowest 21 = .ok (.ifCond .eq 21, 3) := by decide +kernel
theorem dX10_lowest_24 : decode cX10_lowest 24 = .ok (.lload 5, 2) := by decide +kernel
theorem dX10_lowest_26 : decode cX10_lowest 26 = .ok (.lload 7, 2) := by decide +kernel
theorem dX10_lowest_28 : decode cX10_lowest 28 = .ok (.lrem, 1) := by decide +kernel
theorem dX10_lowest_29 : decode cX10_lowest 29 = .ok (.lstore 9, 2) := by decide +kernel
theorem dX10_lowest_31 : decode cX10_lowest 31 = .ok (.lload 7, 2) := by decide +kernel
theorem dX10_lowest_33 : decode cX10_lowest 33 = .ok (.lstore 5, 2) := by decide +kernel
theorem dX10_lowest_35 : decode cX10_lowest 35 = .ok (.lload 9, 2) := by decide +kernel
theorem dX10_lowest_37 : decode cX10_lowest 37 = .ok (.lstore 7, 2) := by decide +kernel
theorem dX10_lowest_39 : decode cX10_lowest 39 = .ok (.goto (-22), 3) := by decide +kernel
theorem dX10_lowest_42 : decode cX10_lowest 42 = .ok (.iload 4, 2) := by decide +kernel
theorem dX10_lowest_44 : decode cX10_lowest 44 = .ok (.ifCond .ne 10, 3) := by decide +kernel
theorem dX10_lowest_47 : decode cX10_lowest 47 = .ok (.lload_n 0, 1) := by decide +kernel
theorem dX10_lowest_48 : decode cX10_lowest 48 = .ok (.lload 5, 2) := by decide +kernel
theorem dX10_lowest_50 : decode cX10_lowest 50 = .ok (.ldiv, 1) := by decide +kernel
theorem dX10_lowest_51 : decode cX10_lowest 51 = .ok (.goto 7, 3) := by decide +kernel
theorem dX10_lowest_54 : decode cX10_lowest 54 = .ok (.lload_n 2, 1) := by decide +kernel
theorem dX10_lowest_55 : decode cX10_lowest 55 = .ok (.lload 5, 2) := by decide +kernel
theorem dX10_lowest_57 : decode cX10_lowest 57 = .ok (.ldiv, 1) := by decide +kernel
theorem dX10_lowest_58 : decode cX10_lowest 58 = .ok (.lreturn, 1) := by decide +kernel
theorem dX10_isPart_0 : decode cX10_isPart 0 = .ok (.iload_n 0, 1) := by decide +kernel
theorem dX10_isPart_1 : decode cX10_isPart 1 = .ok (.i2l, 1) := by decide +kernel
theorem dX10_isPart_2 : decode cX10_isPart 2 = .ok (.lconst 0, 1) := by decide +kernel
theorem dX10_isPart_3 : decode cX10_isPart 3 = .ok (.lconst 1, 1) := by decide +kernel
theorem dX10_isPart_4 : decode cX10_isPart 4 = .ok (.invokestatic 58, 3) := by decide +kernel
theorem dX10_isPart_7 : decode cX10_isPart 7 = .ok (.ireturn, 1) := by decide +kernel
theorem dX10_isRow_0 : decode cX10_isRow 0 = .ok (.iload_n 0, 1) := by decide +kernel
theorem dX10_isRow_1 : decode cX10_isRow 1 = .ok (.i2l, 1) := by decide +kernel
theorem dX10_isRow_2 : decode cX10_isRow 2 = .ok (.lconst 0, 1) := by decide +kernel
theorem dX10_isRow_3 : decode cX10_isRow 3 = .ok (.ldc2_w 62, 3) := by decide +kernel
theorem dX10_isRow_6 : decode cX10_isRow 6 = .ok (.invokestatic 58, 3) := by decide +kernel
theorem dX10_isRow_9 : decode cX10_isRow 9 = .ok (.ireturn, 1) := by decide +kernel
theorem dX10_isYear_0 : decode cX10_isYear 0 = .ok (.iload_n 0, 1) := by decide +kernel
theorem dX10_isYear_1 : decode cX10_isYear 1 = .ok (.i2l, 1) := by decide +kernel
theorem dX10_isYear_2 : decode cX10_isYear 2 = .ok (.lconst 0, 1) := by decide +kernel
theorem dX10_isYear_3 : decode cX10_isYear 3 = .ok (.ldc2_w 64, 3) := by decide +kernel
theorem dX10_isYear_6 : decode cX10_isYear 6 = .ok (.invokestatic 58, 3) := by decide +kernel
theorem dX10_isYear_9 : decode cX10_isYear 9 = .ok (.ireturn, 1) := by decide +kernel
theorem dX10_year_0 : decode cX10_year 0 = .ok (.iload_n 1, 1) := by decide +kernel
theorem dX10_year_1 : decode cX10_year 1 = .ok (.invokestatic 66, 3) := by decide +kernel
theorem dX10_year_4 : decode cX10_year 4 = .ok (.ifCond .ne 6, 3) := by decide +kernel
theorem dX10_year_7 : decode cX10_year 7 = .ok (.ldc 70, 2) := by decide +kernel
theorem dX10_year_9 : decode cX10_year 9 = .ok (.ireturn, 1) := by decide +kernel
theorem dX10_year_10 : decode cX10_year 10 = .ok (.iload_n 2, 1) := by decide +kernel
theorem dX10_year_11 : decode cX10_year 11 = .ok (.invokestatic 71, 3) := by decide +kernel
theorem dX10_year_14 : decode cX10_year 14 = .ok (.ifCond .eq 23, 3) := by decide +kernel
theorem dX10_year_17 : decode cX10_year 17 = .ok (.iload_n 3, 1) := by decide +kernel
theorem dX10_year_18 : decode cX10_year 18 = .ok (.ldc 53, 2) := by decide +kernel
theorem dX10_year_20 : decode cX10_year 20 = .ok (.if_icmp .eq 20, 3) := by decide +kernel
theorem dX10_year_23 : decode cX10_year 23 = .ok (.iload_n 3, 1) := by decide +kernel
theorem dX10_year_24 : decode cX10_year 24 = .ok (.i2l, 1) := by decide +kernel
theorem dX10_year_25 : decode cX10_year 25 = .ok (.ldc2_w 74, 3) := by decide +kernel
theorem dX10_year_28 : decode cX10_year 28 = .ok (.ldc2_w 76, 3) := by decide +kernel
theorem dX10_year_31 : decode cX10_year 31 = .ok (.invokestatic 58, 3) := by decide +kernel
theorem dX10_year_34 : decode cX10_year 34 = .ok (.ifCond .ne 6, 3) := by decide +kernel
theorem dX10_year_37 : decode cX10_year 37 = .ok (.ldc 78, 2) := by decide +kernel
theorem dX10_year_39 : decode cX10_year 39 = .ok (.ireturn, 1) := by decide +kernel
theorem dX10_year_40 : decode cX10_year 40 = .ok (.aload_n 0, 1) := by decide +kernel
theorem dX10_year_41 : decode cX10_year 41 = .ok (.getfield 7, 3) := by decide +kernel
theorem dX10_year_44 : decode cX10_year 44 = .ok (.bipush 24, 2) := by decide +kernel
theorem dX10_year_46 : decode cX10_year 46 = .ok (.iload_n 1, 1) := by decide +kernel
theorem dX10_year_47 : decode cX10_year 47 = .ok (.imul, 1) := by decide +kernel
theorem dX10_year_48 : decode cX10_year 48 = .ok (.iload_n 2, 1) := by decide +kernel
theorem dX10_year_49 : decode cX10_year 49 = .ok (.iadd, 1) := by decide +kernel
theorem dX10_year_50 : decode cX10_year 50 = .ok (.iaload, 1) := by decide +kernel
theorem dX10_year_51 : decode cX10_year 51 = .ok (.istore 4, 2) := by decide +kernel
theorem dX10_year_53 : decode cX10_year 53 = .ok (.aload_n 0, 1) := by decide +kernel
theorem dX10_year_54 : decode cX10_year 54 = .ok (.getfield 7, 3) := by decide +kernel
theorem dX10_year_57 : decode cX10_year 57 = .ok (.bipush 24, 2) := by decide +kernel
theorem dX10_year_59 : decode cX10_year 59 = .ok (.iload_n 1, 1) := by decide +kernel
theorem dX10_year_60 : decode cX10_year 60 = .ok (.imul, 1) := by decide +kernel
theorem dX10_year_61 : decode cX10_year 61 = .ok (.iload_n 2, 1) := by decide +kernel
theorem dX10_year_62 : decode cX10_year 62 = .ok (.iadd, 1) := by decide +kernel
theorem dX10_year_63 : decode cX10_year 63 = .ok (.iload_n 3, 1) := by decide +kernel
theorem dX10_year_64 : decode cX10_year 64 = .ok (.iastore, 1) := by decide +kernel
theorem dX10_year_65 : decode cX10_year 65 = .ok (.iload 4, 2) := by decide +kernel
theorem dX10_year_67 : decode cX10_year 67 = .ok (.ireturn, 1) := by decide +kernel
theorem dX10_say_0 : decode cX10_say 0 = .ok (.iload_n 1, 1) := by decide +kernel
theorem dX10_say_1 : decode cX10_say 1 = .ok (.i2l, 1) := by decide +kernel
theorem dX10_say_2 : decode cX10_say 2 = .ok (.ldc2_w 79, 3) := by decide +kernel
theorem dX10_say_5 : decode cX10_say 5 = .ok (.ldc2_w 81, 3) := by decide +kernel
theorem dX10_say_8 : decode cX10_say 8 = .ok (.invokestatic 58, 3) := by decide +kernel
theorem dX10_say_11 : decode cX10_say 11 = .ok (.ifCond .ne 6, 3) := by decide +kernel
theorem dX10_say_14 : decode cX10_say 14 = .ok (.bipush (-2), 2) := by decide +kernel
theorem dX10_say_16 : decode cX10_say 16 = .ok (.ireturn, 1) := by decide +kernel
theorem dX10_say_17 : decode cX10_say 17 = .ok (.aload_n 0, 1) := by decide +kernel
theorem dX10_say_18 : decode cX10_say 18 = .ok (.getfield 83, 3) := by decide +kernel
theorem dX10_say_21 : decode cX10_say 21 = .ok (.bipush 20, 2) := by decide +kernel
theorem dX10_say_23 : decode cX10_say 23 = .ok (.if_icmp .ne 6, 3) := by decide +kernel
theorem dX10_say_26 : decode cX10_say 26 = .ok (.bipush (-4), 2) := by decide +kernel
theorem dX10_say_28 : decode cX10_say 28 = .ok (.ireturn, 1) := by decide +kernel
theorem dX10_say_29 : decode cX10_say 29 = .ok (.aload_n 0, 1) := by decide +kernel
theorem dX10_say_30 : decode cX10_say 30 = .ok (.getfield 13, 3) := by decide +kernel
theorem dX10_say_33 : decode cX10_say 33 = .ok (.aload_n 0, 1) := by decide +kernel
theorem dX10_say_34 : decode cX10_say 34 = .ok (.getfield 83, 3) := by decide +kernel
theorem dX10_say_37 : decode cX10_say 37 = .ok (.iload_n 1, 1) := by decide +kernel
theorem dX10_say_38 : decode cX10_say 38 = .ok (.iastore, 1) := by decide +kernel
theorem dX10_say_39 : decode cX10_say 39 = .ok (.aload_n 0, 1) := by decide +kernel
theorem dX10_say_40 : decode cX10_say 40 = .ok (.dup, 1) := by decide +kernel
theorem dX10_say_41 : decode cX10_say 41 = .ok (.getfield 83, 3) := by decide +kernel
theorem dX10_say_44 : decode cX10_say 44 = .ok (.iconst 1, 1) := by decide +kernel
theorem dX10_say_45 : decode cX10_say 45 = .ok (.iadd, 1) := by decide +kernel
theorem dX10_say_46 : decode cX10_say 46 = .ok (.putfield 83, 3) := by decide +kernel
theorem dX10_say_49 : decode cX10_say 49 = .ok (.aload_n 0, 1) := by decide +kernel
theorem dX10_say_50 : decode cX10_say 50 = .ok (.getfield 83, 3) := by decide +kernel
theorem dX10_say_53 : decode cX10_say 53 = .ok (.ireturn, 1) := by decide +kernel
theorem dX10_wipe_0 : decode cX10_wipe 0 = .ok (.aload_n 0, 1) := by decide +kernel
theorem dX10_wipe_1 : decode cX10_wipe 1 = .ok (.getfield 83, 3) := by decide +kernel
theorem dX10_wipe_4 : decode cX10_wipe 4 = .ok (.istore_n 1, 1) := by decide +kernel
theorem dX10_wipe_5 : decode cX10_wipe 5 = .ok (.aload_n 0, 1) := by decide +kernel
theorem dX10_wipe_6 : decode cX10_wipe 6 = .ok (.iconst 0, 1) := by decide +kernel
theorem dX10_wipe_7 : decode cX10_wipe 7 = .ok (.putfield 83, 3) := by decide +kernel
theorem dX10_wipe_10 : decode cX10_wipe 10 = .ok (.iload_n 1, 1) := by decide +kernel
theorem dX10_wipe_11 : decode cX10_wipe 11 = .ok (.ireturn, 1) := by decide +kernel
theorem dX10_two_0 : decode cX10_two 0 = .ok (.bipush 10, 2) := by decide +kernel
theorem dX10_two_2 : decode cX10_two 2 = .ok (.aload_n 0, 1) := by decide +kernel
theorem dX10_two_3 : decode cX10_two 3 = .ok (.getfield 13, 3) := by decide +kernel
theorem dX10_two_6 : decode cX10_two 6 = .ok (.iload_n 1, 1) := by decide +kernel
theorem dX10_two_7 : decode cX10_two 7 = .ok (.iaload, 1) := by decide +kernel
theorem dX10_two_8 : decode cX10_two 8 = .ok (.bipush 48, 2) := by decide +kernel
theorem dX10_two_10 : decode cX10_two 10 = .ok (.isub, 1) := by decide +kernel
theorem dX10_two_11 : decode cX10_two 11 = .ok (.imul, 1) := by decide +kernel
theorem dX10_two_12 : decode cX10_two 12 = .ok (.aload_n 0, 1) := by decide +kernel
theorem dX10_two_13 : decode cX10_two 13 = .ok (.getfield 13, 3) := by decide +kernel
theorem dX10_two_16 : decode cX10_two 16 = .ok (.iload_n 1, 1) := by decide +kernel
theorem dX10_two_17 : decode cX10_two 17 = .ok (.iconst 1, 1) := by decide +kernel
theorem dX10_two_18 : decode cX10_two 18 = .ok (.iadd, 1) := by decide +kernel
theorem dX10_two_19 : decode cX10_two 19 = .ok (.iaload, 1) := by decide +kernel
theorem dX10_two_20 : decode cX10_two 20 = .ok (.iadd, 1) := by decide +kernel
theorem dX10_two_21 : decode cX10_two 21 = .ok (.bipush 48, 2) := by decide +kernel
theorem dX10_two_23 : decode cX10_two 23 = .ok (.isub, 1) := by decide +kernel
theorem dX10_two_24 : decode cX10_two 24 = .ok (.ireturn, 1) := by decide +kernel
theorem dX10_mayStand_0 : decode cX10_mayStand 0 = .ok (.aload_n 0, 1) := by decide +kernel
theorem dX10_mayStand_1 : decode cX10_mayStand 1 = .ok (.getfield 13, 3) := by decide +kernel
theorem dX10_mayStand_4 : decode cX10_mayStand 4 = .ok (.iload_n 1, 1) := by decide +kernel
theorem dX10_mayStand_5 : decode cX10_mayStand 5 = .ok (.iaload, 1) := by decide +kernel
theorem dX10_mayStand_6 : decode cX10_mayStand 6 = .ok (.bipush 48, 2) := by decide +kernel
theorem dX10_mayStand_8 : decode cX10_mayStand 8 = .ok (.isub, 1) := by decide +kernel
theorem dX10_mayStand_9 : decode cX10_mayStand 9 = .ok (.istore_n 3, 1) := by decide +kernel
theorem dX10_mayStand_10 : decode cX10_mayStand 10 = .ok (.iload_n 3, 1) := by decide +kernel
theorem dX10_mayStand_11 : decode cX10_mayStand 11 = .ok (.i2l, 1) := by decide +kernel
theorem dX10_mayStand_12 : decode cX10_mayStand 12 = .ok (.lconst 0, 1) := by decide +kernel
theorem dX10_mayStand_13 : decode cX10_mayStand 13 = .ok (.ldc2_w 86, 3) := by decide +kernel
theorem dX10_mayStand_16 : decode cX10_mayStand 16 = .ok (.invokestatic 58, 3) := by decide +kernel
theorem dX10_mayStand_19 : decode cX10_mayStand 19 = .ok (.ifCond .ne 5, 3) := by decide +kernel
theorem dX10_mayStand_22 : decode cX10_mayStand 22 = .ok (.iconst 0, 1) := by decide +kernel
theorem dX10_mayStand_23 : decode cX10_mayStand 23 = .ok (.ireturn, 1) := by decide +kernel
theorem dX10_mayStand_24 : decode cX10_mayStand 24 = .ok (.iload_n 2, 1) := by decide +kernel
theorem dX10_mayStand_25 : decode cX10_mayStand 25 = .ok (.iconst 2, 1) := by decide +kernel
theorem dX10_mayStand_26 : decode cX10_mayStand 26 = .ok (.if_icmp .ge 7, 3) := by decide +kernel
theorem dX10_mayStand_29 : decode cX10_mayStand 29 = .ok (.iconst 0, 1) := by decide +kernel
theorem dX10_mayStand_30 : decode cX10_mayStand 30 = .ok (.goto 10, 3) := by decide +kernel
theorem dX10_mayStand_33 : decode cX10_mayStand 33 = .ok (.aload_n 0, 1) := by decide +kernel
theorem dX10_mayStand_34 : decode cX10_mayStand 34 = .ok (.iload_n 1, 1) := by decide +kernel
theorem dX10_mayStand_35 : decode cX10_mayStand 35 = .ok (.iload_n 2, 1) := by decide +kernel
theorem dX10_mayStand_36 : decode cX10_mayStand 36 = .ok (.isub, 1) := by decide +kernel
theorem dX10_mayStand_37 : decode cX10_mayStand 37 = .ok (.invokevirtual 88, 3) := by decide +kernel
theorem dX10_mayStand_40 : decode cX10_mayStand 40 = .ok (.istore 4, 2) := by decide +kernel
theorem dX10_mayStand_42 : decode cX10_mayStand 42 = .ok (.iload_n 2, 1) := by decide +kernel
theorem dX10_mayStand_43 : decode cX10_mayStand 43 = .ok (.iconst 2, 1) := by decide +kernel
theorem dX10_mayStand_44 : decode cX10_mayStand 44 = .ok (.irem, 1) := by decide +kernel
theorem dX10_mayStand_45 : decode cX10_mayStand 45 = .ok (.ifCond .ne 36, 3) := by decide +kernel
theorem dX10_mayStand_48 : decode cX10_mayStand 48 = .ok (.iload_n 3, 1) := by decide +kernel
theorem dX10_mayStand_49 : decode cX10_mayStand 49 = .ok (.iconst 2, 1) := by decide +kernel
theorem dX10_mayStand_50 : decode cX10_mayStand 50 = .ok (.if_icmp .gt 29, 3) := by decide +kernel
theorem dX10_mayStand_53 : decode cX10_mayStand 53 = .ok (.iload_n 3, 1) := by decide +kernel
theorem dX10_mayStand_54 : decode cX10_mayStand 54 = .ok (.iconst 2, 1) := by decide +kernel
theorem dX10_mayStand_55 : decode cX10_mayStand 55 = .ok (.if_icmp .ne 8, 3) := by decide +kernel
theorem dX10_mayStand_58 : decode cX10_mayStand 58 = .ok (.bipush 23, 2) := by decide +kernel
theorem dX10_mayStand_60 : decode cX10_mayStand 60 = .ok (.goto 10, 3) := by decide +kernel
theorem dX10_mayStand_63 : decode cX10_mayStand 63 = .ok (.bipush 10, 2) := by decide +kernel
theorem dX10_mayStand_65 : decode cX10_mayStand 65 = .ok (.iload_n 3, 1) := by decide +kernel
theorem dX10_mayStand_66 : decode cX10_mayStand 66 = .ok (.imul, 1) := by decide +kernel
theorem dX10_mayStand_67 : decode cX10_mayStand 67 = .ok (.bipush 9, 2) := by decide +kernel
theorem dX10_mayStand_69 : decode cX10_mayStand 69 = .ok (.iadd, 1) := by decide +kernel
theorem dX10_mayStand_70 : decode cX10_mayStand 70 = .ok (.iload 4, 2) := by decide +kernel
theorem dX10_mayStand_72 : decode cX10_mayStand 72 = .ok (.if_icmp .lt 7, 3) := by decide +kernel
theorem dX10_mayStand_75 : decode cX10_mayStand 75 = .ok (.iconst 1, 1) := by decide +kernel
theorem dX10_mayStand_76 : decode cX10_mayStand 76 = .ok (.goto 4, 3) := by decide +kernel
theorem dX10_mayStand_79 : decode cX10_mayStand 79 = .ok (.iconst 0, 1) := by decide +kernel
theorem dX10_mayStand_80 : decode cX10_mayStand 80 = .ok (.ireturn, 1) := by decide +kernel
theorem dX10_mayStand_81 : decode cX10_mayStand 81 = .ok (.aload_n 0, 1) := by decide +kernel
theorem dX10_mayStand_82 : decode cX10_mayStand 82 = .ok (.iload_n 1, 1) := by decide +kernel
theorem dX10_mayStand_83 : decode cX10_mayStand 83 = .ok (.iconst 1, 1) := by decide +kernel
theorem dX10_mayStand_84 : decode cX10_mayStand 84 = .ok (.isub, 1) := by decide +kernel
theorem dX10_mayStand_85 : decode cX10_mayStand 85 = .ok (.invokevirtual 88, 3) := by decide +kernel
theorem dX10_mayStand_88 : decode cX10_mayStand 88 = .ok (.istore 5, 2) := by decide +kernel
theorem dX10_mayStand_90 : decode cX10_mayStand 90 = .ok (.iload 5, 2) := by decide +kernel
theorem dX10_mayStand_92 : decode cX10_mayStand 92 = .ok (.bipush 23, 2) := by decide +kernel
theorem dX10_mayStand_94 : decode cX10_mayStand 94 = .ok (.if_icmp .gt 14, 3) := by decide +kernel
theorem dX10_mayStand_97 : decode cX10_mayStand 97 = .ok (.iload 5, 2) := by decide +kernel
theorem dX10_mayStand_99 : decode cX10_mayStand 99 = .ok (.iload 4, 2) := by decide +kernel
theorem dX10_mayStand_101 : decode cX10_mayStand 101 = .ok (.if_icmp .lt 7, 3) := by decide +kernel
theorem dX10_mayStand_104 : decode cX10_mayStand 104 = .ok (.iconst 1, 1) := by decide +kernel
theorem dX10_mayStand_105 : decode cX10_mayStand 105 = .ok (.goto 4, 3) := by decide +kernel
theorem dX10_mayStand_108 : decode cX10_mayStand 108 = .ok (.iconst 0, 1) := by decide +kernel
theorem dX10_mayStand_109 : decode cX10_mayStand 109 = .ok (.ireturn, 1) := by decide +kernel
theorem dX10_digitsOf_0 : decode cX10_digitsOf 0 = .ok (.iload_n 0, 1) := by decide +kernel
theorem dX10_digitsOf_1 : decode cX10_digitsOf 1 = .ok (.bipush 116, 2) := by decide +kernel
theorem dX10_digitsOf_3 : decode cX10_digitsOf 3 = .ok (.if_icmp .ne 7, 3) := by decide +kernel
theorem dX10_digitsOf_6 : decode cX10_digitsOf 6 = .ok (.iconst 2, 1) := by decide +kernel
theorem dX10_digitsOf_7 : decode cX10_digitsOf 7 = .ok (.goto 40, 3) := by decide +kernel
theorem dX10_digitsOf_10 : decode cX10_digitsOf 10 = .ok (.iload_n 0, 1) := by decide +kernel
theorem dX10_digitsOf_11 : decode cX10_digitsOf 11 = .ok (.bipush 99, 2) := by decide +kernel
theorem dX10_digitsOf_13 : decode cX10_digitsOf 13 = .ok (.if_icmp .ne 7, 3) := by decide +kernel
theorem dX10_digitsOf_16 : decode cX10_digitsOf 16 = .ok (.iconst 4, 1) := by decide +kernel
theorem dX10_digitsOf_17 : decode cX10_digitsOf 17 = .ok (.goto 30, 3) := by decide +kernel
theorem dX10_digitsOf_20 : decode cX10_digitsOf 20 = .ok (.iload_n 0, 1) := by decide +kernel
theorem dX10_digitsOf_21 : decode cX10_digitsOf 21 = .ok (.bipush 115, 2) := by decide +kernel
theorem dX10_digitsOf_23 : decode cX10_digitsOf 23 = .ok (.if_icmp .eq 9, 3) := by decide +kernel
theorem dX10_digitsOf_26 : decode cX10_digitsOf 26 = .ok (.iload_n 0, 1) := by decide +kernel
theorem dX10_digitsOf_27 : decode cX10_digitsOf 27 = .ok (.bipush 108, 2) := by decide +kernel
theorem dX10_digitsOf_29 : decode cX10_digitsOf 29 = .ok (.if_icmp .ne 7, 3) := by decide +kernel
theorem dX10_digitsOf_32 : decode cX10_digitsOf 32 = .ok (.iconst 1, 1) := by decide +kernel
theorem dX10_digitsOf_33 : decode cX10_digitsOf 33 = .ok (.goto 14, 3) := by decide +kernel
theorem dX10_digitsOf_36 : decode cX10_digitsOf 36 = .ok (.iload_n 0, 1) := by decide +kernel
theorem dX10_digitsOf_37 : decode cX10_digitsOf 37 = .ok (.bipush 100, 2) := by decide +kernel
theorem dX10_digitsOf_39 : decode cX10_digitsOf 39 = .ok (.if_icmp .ne 7, 3) := by decide +kernel
theorem dX10_digitsOf_42 : decode cX10_digitsOf 42 = .ok (.iconst 0, 1) := by decide +kernel
theorem dX10_digitsOf_43 : decode cX10_digitsOf 43 = .ok (.goto 4, 3) := by decide +kernel
theorem dX10_digitsOf_46 : decode cX10_digitsOf 46 = .ok (.iconst (-1), 1) := by decide +kernel
theorem dX10_digitsOf_47 : decode cX10_digitsOf 47 = .ok (.ireturn, 1) := by decide +kernel
theorem dX10_fault_0 : decode cX10_fault 0 = .ok (.iconst 0, 1) := by decide +kernel
theorem dX10_fault_1 : decode cX10_fault 1 = .ok (.istore_n 1, 1) := by decide +kernel
theorem dX10_fault_2 : decode cX10_fault 2 = .ok (.iload_n 1, 1) := by decide +kernel
theorem dX10_fault_3 : decode cX10_fault 3 = .ok (.aload_n 0, 1) := by decide +kernel
theorem dX10_fault_4 : decode cX10_fault 4 = .ok (.getfield 83, 3) := by decide +kernel
theorem dX10_fault_7 : decode cX10_fault 7 = .ok (.if_icmp .ge 121, 3) := by decide +kernel
theorem dX10_fault_10 : decode cX10_fault 10 = .ok (.aload_n 0, 1) := by decide +kernel
theorem dX10_fault_11 : decode cX10_fault 11 = .ok (.getfield 13, 3) := by decide +kernel
theorem dX10_fault_14 : decode cX10_fault 14 = .ok (.iload_n 1, 1) := by decide +kernel
theorem dX10_fault_15 : decode cX10_fault 15 = .ok (.iaload, 1) := by decide +kernel
theorem dX10_fault_16 : decode cX10_fault 16 = .ok (.istore_n 2, 1) := by decide +kernel
theorem dX10_fault_17 : decode cX10_fault 17 = .ok (.iload_n 2, 1) := by decide +kernel
theorem dX10_fault_18 : decode cX10_fault 18 = .ok (.invokestatic 92, 3) := by decide +kernel
theorem dX10_fault_21 : decode cX10_fault 21 = .ok (.istore_n 3, 1) := by decide +kernel
theorem dX10_fault_22 : decode cX10_fault 22 = .ok (.iload_n 3, 1) := by decide +kernel
theorem dX10_fault_23 : decode cX10_fault 23 = .ok (.ifCond .ge 5, 3) := by decide +kernel
theorem dX10_fault_26 : decode cX10_fault 26 = .ok (.iload_n 1, 1) := by decide +kernel
theorem dX10_fault_27 : decode cX10_fault 27 = .ok (.ireturn, 1) := by decide +kernel
theorem dX10_fault_28 : decode cX10_fault 28 = .ok (.iinc 1 1, 3) := by decide +kernel
theorem dX10_fault_31 : decode cX10_fault 31 = .ok (.iconst 0, 1) := by decide +kernel
theorem dX10_fault_32 : decode cX10_fault 32 = .ok (.istore 4, 2) := by decide +kernel
theorem dX10_fault_34 : decode cX10_fault 34 = .ok (.iload 4, 2) := by decide +kernel
theorem dX10_fault_36 : decode cX10_fault 36 = .ok (.iload_n 3, 1) := by decide +kernel
theorem dX10_fault_37 : decode cX10_fault 37 = .ok (.if_icmp .ge 88, 3) := by decide +kernel
theorem dX10_fault_40 : decode cX10_fault 40 = .ok (.iload_n 1, 1) := by decide +kernel
theorem dX10_fault_41 : decode cX10_fault 41 = .ok (.aload_n 0, 1) := by decide +kernel
theorem dX10_fault_42 : decode cX10_fault 42 = .ok (.getfield 83, 3) := by decide +kernel
theorem dX10_fault_45 : decode cX10_fault 45 = .ok (.if_icmp .ne 5, 3) := by decide +kernel
theorem dX10_fault_48 : decode cX10_fault 48 = .ok (.iload_n 1, 1) := by decide +kernel
theorem dX10_fault_49 : decode cX10_fault 49 = .ok (.ireturn, 1) := by decide +kernel
theorem dX10_fault_50 : decode cX10_fault 50 = .ok (.iload_n 2, 1) := by decide +kernel
theorem dX10_fault_51 : decode cX10_fault 51 = .ok (.bipush 115, 2) := by decide +kernel
theorem dX10_fault_53 : decode cX10_fault 53 = .ok (.if_icmp .ne 22, 3) := by decide +kernel
theorem dX10_fault_56 : decode cX10_fault 56 = .ok (.aload_n 0, 1) := by decide +kernel
theorem dX10_fault_57 : decode cX10_fault 57 = .ok (.getfield 13, 3) := by decide +kernel
theorem dX10_fault_60 : decode cX10_fault 60 = .ok (.iload_n 1, 1) := by decide +kernel
theorem dX10_fault_61 : decode cX10_fault 61 = .ok (.iaload, 1) := by decide +kernel
theorem dX10_fault_62 : decode cX10_fault 62 = .ok (.i2l, 1) := by decide +kernel
theorem dX10_fault_63 : decode cX10_fault 63 = .ok (.ldc2_w 95, 3) := by decide +kernel
theorem dX10_fault_66 : decode cX10_fault 66 = .ok (.ldc2_w 97, 3) := by decide +kernel
theorem dX10_fault_69 : decode cX10_fault 69 = .ok (.invokestatic 58, 3) := by decide +kernel
theorem dX10_fault_72 : decode cX10_fault 72 = .ok (.goto 35, 3) := by decide +kernel
theorem dX10_fault_75 : decode cX10_fault 75 = .ok (.iload_n 2, 1) := by decide +kernel
theorem dX10_fault_76 : decode cX10_fault 76 = .ok (.bipush 108, 2) := by decide +kernel
theorem dX10_fault_78 : decode cX10_fault 78 = .ok (.if_icmp .ne 22, 3) := by decide +kernel
theorem dX10_fault_81 : decode cX10_fault 81 = .ok (.aload_n 0, 1) := by decide +kernel
theorem dX10_fault_82 : decode cX10_fault 82 = .ok (.getfield 13, 3) := by decide +kernel
theorem dX10_fault_85 : decode cX10_fault 85 = .ok (.iload_n 1, 1) := by decide +kernel
theorem dX10_fault_86 : decode cX10_fault 86 = .ok (.iaload, 1) := by decide +kernel
theorem dX10_fault_87 : decode cX10_fault 87 = .ok (.i2l, 1) := by decide +kernel
theorem dX10_fault_88 : decode cX10_fault 88 = .ok (.ldc2_w 99, 3) := by decide +kernel
theorem dX10_fault_91 : decode cX10_fault 91 = .ok (.ldc2_w 101, 3) := by decide +kernel
theorem dX10_fault_94 : decode cX10_fault 94 = .ok (.invokestatic 58, 3) := by decide +kernel
theorem dX10_fault_97 : decode cX10_fault 97 = .ok (.goto 10, 3) := by decide +kernel
theorem dX10_fault_100 : decode cX10_fault 100 = .ok (.aload_n 0, 1) := by decide +kernel
theorem dX10_fault_101 : decode cX10_fault 101 = .ok (.iload_n 1, 1) := by decide +kernel
theorem dX10_fault_102 : decode cX10_fault 102 = .ok (.iload 4, 2) := by decide +kernel
theorem dX10_fault_104 : decode cX10_fault 104 = .ok (.invokevirtual 103, 3) := by decide +kernel
theorem dX10_fault_107 : decode cX10_fault 107 = .ok (.istore 5, 2) := by decide +kernel
theorem dX10_fault_109 : decode cX10_fault 109 = .ok (.iload 5, 2) := by decide +kernel
theorem dX10_fault_111 : decode cX10_fault 111 = .ok (.ifCond .ne 5, 3) := by decide +kernel
theorem dX10_fault_114 : decode cX10_fault 114 = .ok (.iload_n 1, 1) := by decide +kernel
theorem dX10_fault_115 : decode cX10_fault 115 = .ok (.ireturn, 1) := by decide +kernel
theorem dX10_fault_116 : decode cX10_fault 116 = .ok (.iinc 1 1, 3) := by decide +kernel
theorem dX10_fault_119 : decode cX10_fault 119 = .ok (.iinc 4 1, 3) := by decide +kernel
theorem dX10_fault_122 : decode cX10_fault 122 = .ok (.goto (-88), 3) := by decide +kernel
theorem dX10_fault_125 : decode cX10_fault 125 = .ok (.goto (-123), 3) := by decide +kernel
theorem dX10_fault_128 : decode cX10_fault 128 = .ok (.bipush (-6), 2) := by decide +kernel
theorem dX10_fault_130 : decode cX10_fault 130 = .ok (.ireturn, 1) := by decide +kernel
theorem dX10_held_0 : decode cX10_held 0 = .ok (.lload_n 0, 1) := by decide +kernel
theorem dX10_held_1 : decode cX10_held 1 = .ok (.ldc2_w 107, 3) := by decide +kernel
theorem dX10_held_4 : decode cX10_held 4 = .ok (.lcmp, 1) := by decide +kernel
theorem dX10_held_5 : decode cX10_held 5 = .ok (.ifCond .le 9, 3) := by decide +kernel
theorem dX10_held_8 : decode cX10_held 8 = .ok (.sipush 999, 3) := by decide +kernel
theorem dX10_held_11 : decode cX10_held 11 = .ok (.goto 19, 3) := by decide +kernel
theorem dX10_held_14 : decode cX10_held 14 = .ok (.lload_n 0, 1) := by decide +kernel
theorem dX10_held_15 : decode cX10_held 15 = .ok (.ldc2_w 109, 3) := by decide +kernel
theorem dX10_held_18 : decode cX10_held 18 = .ok (.lcmp, 1) := by decide +kernel
theorem dX10_held_19 : decode cX10_held 19 = .ok (.ifCond .ge 9, 3) := by decide +kernel
theorem dX10_held_22 : decode cX10_held 22 = .ok (.sipush (-999), 3) := by decide +kernel
theorem dX10_held_25 : decode cX10_held 25 = .ok (.goto 5, 3) := by decide +kernel
theorem dX10_held_28 : decode cX10_held 28 = .ok (.lload_n 0, 1) := by decide +kernel
theorem dX10_held_29 : decode cX10_held 29 = .ok (.l2i, 1) := by decide +kernel
theorem dX10_held_30 : decode cX10_held 30 = .ok (.ireturn, 1) := by decide +kernel
theorem dX10_wasAt_0 : decode cX10_wasAt 0 = .ok (.iload_n 1, 1) := by decide +kernel
theorem dX10_wasAt_1 : decode cX10_wasAt 1 = .ok (.invokestatic 71, 3) := by decide +kernel
theorem dX10_wasAt_4 : decode cX10_wasAt 4 = .ok (.ifCond .eq 12, 3) := by decide +kernel
theorem dX10_wasAt_7 : decode cX10_wasAt 7 = .ok (.aload_n 0, 1) := by decide +kernel
theorem dX10_wasAt_8 : decode cX10_wasAt 8 = .ok (.getfield 19, 3) := by decide +kernel
theorem dX10_wasAt_11 : decode cX10_wasAt 11 = .ok (.iload_n 1, 1) := by decide +kernel
theorem dX10_wasAt_12 : decode cX10_wasAt 12 = .ok (.iaload, 1) := by decide +kernel
theorem dX10_wasAt_13 : decode cX10_wasAt 13 = .ok (.goto 5, 3) := by decide +kernel
theorem dX10_wasAt_16 : decode cX10_wasAt 16 = .ok (.ldc 53, 2) := by decide +kernel
theorem dX10_wasAt_18 : decode cX10_wasAt 18 = .ok (.ireturn, 1) := by decide +kernel
theorem dX10_becomes_0 : decode cX10_becomes 0 = .ok (.aload_n 0, 1) := by decide +kernel
theorem dX10_becomes_1 : decode cX10_becomes 1 = .ok (.getfield 13, 3) := by decide +kernel
theorem dX10_becomes_4 : decode cX10_becomes 4 = .ok (.iload_n 2, 1) := by decide +kernel
theorem dX10_becomes_5 : decode cX10_becomes 5 = .ok (.iaload, 1) := by decide +kernel
theorem dX10_becomes_6 : decode cX10_becomes 6 = .ok (.istore_n 3, 1) := by decide +kernel
theorem dX10_becomes_7 : decode cX10_becomes 7 = .ok (.iload_n 3, 1) := by decide +kernel
theorem dX10_becomes_8 : decode cX10_becomes 8 = .ok (.lookupswitch 232 #[(99, 196), (108, 139), (115, 44), (116, 157)], 44) := by decide +kernel
theorem dX10_becomes_52 : decode cX10_becomes 52 = .ok (.iconst 0, 1) := by decide +kernel
theorem dX10_becomes_53 : decode cX10_becomes 53 = .ok (.istore 4, 2) := by decide +kernel
theorem dX10_becomes_55 : decode cX10_becomes 55 = .ok (.iconst 1, 1) := by decide +kernel
theorem dX10_becomes_56 : decode cX10_becomes 56 = .ok (.istore 5, 2) := by decide +kernel
theorem dX10_becomes_58 : decode cX10_becomes 58 = .ok (.iconst 0, 1) := by decide +kernel
theorem dX10_becomes_59 : decode cX10_becomes 59 = .ok (.istore 6, 2) := by decide +kernel
theorem dX10_becomes_61 : decode cX10_becomes 61 = .ok (.iload 6, 2) := by decide +kernel
theorem dX10_becomes_63 : decode cX10_becomes 63 = .ok (.aload_n 0, 1) := by decide +kernel
theorem dX10_becomes_64 : decode cX10_becomes 64 = .ok (.getfield 13, 3) := by decide +kernel
theorem dX10_becomes_67 : decode cX10_becomes 67 = .ok (.iload_n 2, 1) := by decide +kernel
theorem dX10_becomes_68 : decode cX10_becomes 68 = .ok (.iconst 1, 1) := by decide +kernel
theorem dX10_becomes_69 : decode cX10_becomes 69 = .ok (.iadd, 1) := by decide +kernel
theorem dX10_becomes_70 : decode cX10_becomes 70 = .ok (.iaload, 1) := by decide +kernel
theorem dX10_becomes_71 : decode cX10_becomes 71 = .ok (.bipush 48, 2) := by decide +kernel
theorem dX10_becomes_73 : decode cX10_becomes 73 = .ok (.isub, 1) := by decide +kernel
theorem dX10_becomes_74 : decode cX10_becomes 74 = .ok (.if_icmp .ge 56, 3) := by decide +kernel
theorem dX10_becomes_77 : decode cX10_becomes 77 = .ok (.iload 5, 2) := by decide +kernel
theorem dX10_becomes_79 : decode cX10_becomes 79 = .ok (.ifCond .eq 20, 3) := by decide +kernel
theorem dX10_becomes_82 : decode cX10_becomes 82 = .ok (.aload_n 0, 1) := by decide +kernel
theorem dX10_becomes_83 : decode cX10_becomes 83 = .ok (.iload_n 1, 1) := by decide +kernel
theorem dX10_becomes_84 : decode cX10_becomes 84 = .ok (.iload 6, 2) := by decide +kernel
theorem dX10_becomes_86 : decode cX10_becomes 86 = .ok (.isub, 1) := by decide +kernel
end
section
theorem dX10_becomes_87 : decode cX10_becomes 87 = .ok (.invokevirtual 111, 3) := by decide +kernel
theorem dX10_becomes_90 : decode cX10_becomes 90 = .ok (.ldc 53, 2) := by decide +kernel
theorem dX10_becomes_92 : decode cX10_becomes 92 = .ok (.if_icmp .eq 7, 3) := by decide +kernel
theorem dX10_becomes_95 : decode cX10_becomes 95 = .ok (.iconst 1, 1) := by decide +kernel
theorem dX10_becomes_96 : decode cX10_becomes 96 = .ok (.goto 4, 3) := by decide +kernel
theorem dX10_becomes_99 : decode cX10_becomes 99 = .ok (.iconst 0, 1) := by decide +kernel
theorem dX10_becomes_100 : decode cX10_becomes 100 = .ok (.istore 5, 2) := by decide +kernel
theorem dX10_becomes_102 : decode cX10_becomes 102 = .ok (.iload 4, 2) := by decide +kernel
theorem dX10_becomes_104 : decode cX10_becomes 104 = .ok (.iload 5, 2) := by decide +kernel
theorem dX10_becomes_106 : decode cX10_becomes 106 = .ok (.ifCond .eq 14, 3) := by decide +kernel
theorem dX10_becomes_109 : decode cX10_becomes 109 = .ok (.aload_n 0, 1) := by decide +kernel
theorem dX10_becomes_110 : decode cX10_becomes 110 = .ok (.iload_n 1, 1) := by decide +kernel
theorem dX10_becomes_111 : decode cX10_becomes 111 = .ok (.iload 6, 2) := by decide +kernel
theorem dX10_becomes_113 : decode cX10_becomes 113 = .ok (.isub, 1) := by decide +kernel
theorem dX10_becomes_114 : decode cX10_becomes 114 = .ok (.invokevirtual 111, 3) := by decide +kernel
theorem dX10_becomes_117 : decode cX10_becomes 117 = .ok (.goto 4, 3) := by decide +kernel
theorem dX10_becomes_120 : decode cX10_becomes 120 = .ok (.iconst 0, 1) := by decide +kernel
theorem dX10_becomes_121 : decode cX10_becomes 121 = .ok (.iadd, 1) := by decide +kernel
theorem dX10_becomes_122 : decode cX10_becomes 122 = .ok (.istore 4, 2) := by decide +kernel
theorem dX10_becomes_124 : decode cX10_becomes 124 = .ok (.iinc 6 1, 3) := by decide +kernel
theorem dX10_becomes_127 : decode cX10_becomes 127 = .ok (.goto (-66), 3) := by decide +kernel
theorem dX10_becomes_130 : decode cX10_becomes 130 = .ok (.iload 5, 2) := by decide +kernel
theorem dX10_becomes_132 : decode cX10_becomes 132 = .ok (.ifCond .eq 12, 3) := by decide +kernel
theorem dX10_becomes_135 : decode cX10_becomes 135 = .ok (.iload 4, 2) := by decide +kernel
theorem dX10_becomes_137 : decode cX10_becomes 137 = .ok (.i2l, 1) := by decide +kernel
theorem dX10_becomes_138 : decode cX10_becomes 138 = .ok (.invokestatic 114, 3) := by decide +kernel
theorem dX10_becomes_141 : decode cX10_becomes 141 = .ok (.goto 5, 3) := by decide +kernel
theorem dX10_becomes_144 : decode cX10_becomes 144 = .ok (.ldc 53, 2) := by decide +kernel
theorem dX10_becomes_146 : decode cX10_becomes 146 = .ok (.ireturn, 1) := by decide +kernel
theorem dX10_becomes_147 : decode cX10_becomes 147 = .ok (.aload_n 0, 1) := by decide +kernel
theorem dX10_becomes_148 : decode cX10_becomes 148 = .ok (.iload_n 1, 1) := by decide +kernel
theorem dX10_becomes_149 : decode cX10_becomes 149 = .ok (.aload_n 0, 1) := by decide +kernel
theorem dX10_becomes_150 : decode cX10_becomes 150 = .ok (.getfield 13, 3) := by decide +kernel
theorem dX10_becomes_153 : decode cX10_becomes 153 = .ok (.iload_n 2, 1) := by decide +kernel
theorem dX10_becomes_154 : decode cX10_becomes 154 = .ok (.iconst 1, 1) := by decide +kernel
theorem dX10_becomes_155 : decode cX10_becomes 155 = .ok (.iadd, 1) := by decide +kernel
theorem dX10_becomes_156 : decode cX10_becomes 156 = .ok (.iaload, 1) := by decide +kernel
theorem dX10_becomes_157 : decode cX10_becomes 157 = .ok (.isub, 1) := by decide +kernel
theorem dX10_becomes_158 : decode cX10_becomes 158 = .ok (.bipush 48, 2) := by decide +kernel
theorem dX10_becomes_160 : decode cX10_becomes 160 = .ok (.iadd, 1) := by decide +kernel
theorem dX10_becomes_161 : decode cX10_becomes 161 = .ok (.invokevirtual 111, 3) := by decide +kernel
theorem dX10_becomes_164 : decode cX10_becomes 164 = .ok (.ireturn, 1) := by decide +kernel
theorem dX10_becomes_165 : decode cX10_becomes 165 = .ok (.aload_n 0, 1) := by decide +kernel
theorem dX10_becomes_166 : decode cX10_becomes 166 = .ok (.getfield 19, 3) := by decide +kernel
theorem dX10_becomes_169 : decode cX10_becomes 169 = .ok (.iload_n 1, 1) := by decide +kernel
theorem dX10_becomes_170 : decode cX10_becomes 170 = .ok (.iaload, 1) := by decide +kernel
theorem dX10_becomes_171 : decode cX10_becomes 171 = .ok (.ldc 53, 2) := by decide +kernel
theorem dX10_becomes_173 : decode cX10_becomes 173 = .ok (.if_icmp .eq 14, 3) := by decide +kernel
theorem dX10_becomes_176 : decode cX10_becomes 176 = .ok (.iload_n 1, 1) := by decide +kernel
theorem dX10_becomes_177 : decode cX10_becomes 177 = .ok (.aload_n 0, 1) := by decide +kernel
theorem dX10_becomes_178 : decode cX10_becomes 178 = .ok (.iload_n 2, 1) := by decide +kernel
theorem dX10_becomes_179 : decode cX10_becomes 179 = .ok (.iconst 1, 1) := by decide +kernel
theorem dX10_becomes_180 : decode cX10_becomes 180 = .ok (.iadd, 1) := by decide +kernel
theorem dX10_becomes_181 : decode cX10_becomes 181 = .ok (.invokevirtual 88, 3) := by decide +kernel
theorem dX10_becomes_184 : decode cX10_becomes 184 = .ok (.if_icmp .ge 12, 3) := by decide +kernel
theorem dX10_becomes_187 : decode cX10_becomes 187 = .ok (.aload_n 0, 1) := by decide +kernel
theorem dX10_becomes_188 : decode cX10_becomes 188 = .ok (.getfield 19, 3) := by decide +kernel
theorem dX10_becomes_191 : decode cX10_becomes 191 = .ok (.iload_n 1, 1) := by decide +kernel
theorem dX10_becomes_192 : decode cX10_becomes 192 = .ok (.iaload, 1) := by decide +kernel
theorem dX10_becomes_193 : decode cX10_becomes 193 = .ok (.goto 10, 3) := by decide +kernel
theorem dX10_becomes_196 : decode cX10_becomes 196 = .ok (.aload_n 0, 1) := by decide +kernel
theorem dX10_becomes_197 : decode cX10_becomes 197 = .ok (.getfield 19, 3) := by decide +kernel
theorem dX10_becomes_200 : decode cX10_becomes 200 = .ok (.iload_n 1, 1) := by decide +kernel
theorem dX10_becomes_201 : decode cX10_becomes 201 = .ok (.iaload, 1) := by decide +kernel
theorem dX10_becomes_202 : decode cX10_becomes 202 = .ok (.ineg, 1) := by decide +kernel
theorem dX10_becomes_203 : decode cX10_becomes 203 = .ok (.ireturn, 1) := by decide +kernel
theorem dX10_becomes_204 : decode cX10_becomes 204 = .ok (.iload_n 1, 1) := by decide +kernel
theorem dX10_becomes_205 : decode cX10_becomes 205 = .ok (.i2l, 1) := by decide +kernel
theorem dX10_becomes_206 : decode cX10_becomes 206 = .ok (.aload_n 0, 1) := by decide +kernel
theorem dX10_becomes_207 : decode cX10_becomes 207 = .ok (.iload_n 2, 1) := by decide +kernel
theorem dX10_becomes_208 : decode cX10_becomes 208 = .ok (.iconst 1, 1) := by decide +kernel
theorem dX10_becomes_209 : decode cX10_becomes 209 = .ok (.iadd, 1) := by decide +kernel
theorem dX10_becomes_210 : decode cX10_becomes 210 = .ok (.invokevirtual 88, 3) := by decide +kernel
theorem dX10_becomes_213 : decode cX10_becomes 213 = .ok (.i2l, 1) := by decide +kernel
theorem dX10_becomes_214 : decode cX10_becomes 214 = .ok (.aload_n 0, 1) := by decide +kernel
theorem dX10_becomes_215 : decode cX10_becomes 215 = .ok (.iload_n 2, 1) := by decide +kernel
theorem dX10_becomes_216 : decode cX10_becomes 216 = .ok (.iconst 3, 1) := by decide +kernel
theorem dX10_becomes_217 : decode cX10_becomes 217 = .ok (.iadd, 1) := by decide +kernel
theorem dX10_becomes_218 : decode cX10_becomes 218 = .ok (.invokevirtual 88, 3) := by decide +kernel
theorem dX10_becomes_221 : decode cX10_becomes 221 = .ok (.i2l, 1) := by decide +kernel
theorem dX10_becomes_222 : decode cX10_becomes 222 = .ok (.invokestatic 58, 3) := by decide +kernel
theorem dX10_becomes_225 : decode cX10_becomes 225 = .ok (.ifCond .eq 12, 3) := by decide +kernel
theorem dX10_becomes_228 : decode cX10_becomes 228 = .ok (.aload_n 0, 1) := by decide +kernel
theorem dX10_becomes_229 : decode cX10_becomes 229 = .ok (.getfield 19, 3) := by decide +kernel
theorem dX10_becomes_232 : decode cX10_becomes 232 = .ok (.iload_n 1, 1) := by decide +kernel
theorem dX10_becomes_233 : decode cX10_becomes 233 = .ok (.iaload, 1) := by decide +kernel
theorem dX10_becomes_234 : decode cX10_becomes 234 = .ok (.goto 5, 3) := by decide +kernel
theorem dX10_becomes_237 : decode cX10_becomes 237 = .ok (.ldc 53, 2) := by decide +kernel
theorem dX10_becomes_239 : decode cX10_becomes 239 = .ok (.ireturn, 1) := by decide +kernel
theorem dX10_becomes_240 : decode cX10_becomes 240 = .ok (.aload_n 0, 1) := by decide +kernel
theorem dX10_becomes_241 : decode cX10_becomes 241 = .ok (.getfield 19, 3) := by decide +kernel
theorem dX10_becomes_244 : decode cX10_becomes 244 = .ok (.iload_n 1, 1) := by decide +kernel
theorem dX10_becomes_245 : decode cX10_becomes 245 = .ok (.iaload, 1) := by decide +kernel
theorem dX10_becomes_246 : decode cX10_becomes 246 = .ok (.ldc 53, 2) := by decide +kernel
theorem dX10_becomes_248 : decode cX10_becomes 248 = .ok (.if_icmp .eq 15, 3) := by decide +kernel
theorem dX10_becomes_251 : decode cX10_becomes 251 = .ok (.aload_n 0, 1) := by decide +kernel
theorem dX10_becomes_252 : decode cX10_becomes 252 = .ok (.iload_n 1, 1) := by decide +kernel
theorem dX10_becomes_253 : decode cX10_becomes 253 = .ok (.iconst 1, 1) := by decide +kernel
theorem dX10_becomes_254 : decode cX10_becomes 254 = .ok (.isub, 1) := by decide +kernel
theorem dX10_becomes_255 : decode cX10_becomes 255 = .ok (.invokevirtual 111, 3) := by decide +kernel
theorem dX10_becomes_258 : decode cX10_becomes 258 = .ok (.ldc 53, 2) := by decide +kernel
theorem dX10_becomes_260 : decode cX10_becomes 260 = .ok (.if_icmp .ne 8, 3) := by decide +kernel
theorem dX10_becomes_263 : decode cX10_becomes 263 = .ok (.ldc 53, 2) := by decide +kernel
theorem dX10_becomes_265 : decode cX10_becomes 265 = .ok (.goto 21, 3) := by decide +kernel
theorem dX10_becomes_268 : decode cX10_becomes 268 = .ok (.aload_n 0, 1) := by decide +kernel
theorem dX10_becomes_269 : decode cX10_becomes 269 = .ok (.getfield 19, 3) := by decide +kernel
theorem dX10_becomes_272 : decode cX10_becomes 272 = .ok (.iload_n 1, 1) := by decide +kernel
theorem dX10_becomes_273 : decode cX10_becomes 273 = .ok (.iaload, 1) := by decide +kernel
theorem dX10_becomes_274 : decode cX10_becomes 274 = .ok (.aload_n 0, 1) := by decide +kernel
theorem dX10_becomes_275 : decode cX10_becomes 275 = .ok (.iload_n 1, 1) := by decide +kernel
theorem dX10_becomes_276 : decode cX10_becomes 276 = .ok (.iconst 1, 1) := by decide +kernel
theorem dX10_becomes_277 : decode cX10_becomes 277 = .ok (.isub, 1) := by decide +kernel
theorem dX10_becomes_278 : decode cX10_becomes 278 = .ok (.invokevirtual 111, 3) := by decide +kernel
theorem dX10_becomes_281 : decode cX10_becomes 281 = .ok (.isub, 1) := by decide +kernel
theorem dX10_becomes_282 : decode cX10_becomes 282 = .ok (.i2l, 1) := by decide +kernel
theorem dX10_becomes_283 : decode cX10_becomes 283 = .ok (.invokestatic 114, 3) := by decide +kernel
theorem dX10_becomes_286 : decode cX10_becomes 286 = .ok (.ireturn, 1) := by decide +kernel
theorem dX10_deal_0 : decode cX10_deal 0 = .ok (.iconst 0, 1) := by decide +kernel
theorem dX10_deal_1 : decode cX10_deal 1 = .ok (.istore_n 2, 1) := by decide +kernel
theorem dX10_deal_2 : decode cX10_deal 2 = .ok (.iload_n 2, 1) := by decide +kernel
theorem dX10_deal_3 : decode cX10_deal 3 = .ok (.bipush 24, 2) := by decide +kernel
theorem dX10_deal_5 : decode cX10_deal 5 = .ok (.if_icmp .ge 26, 3) := by decide +kernel
theorem dX10_deal_8 : decode cX10_deal 8 = .ok (.aload_n 0, 1) := by decide +kernel
theorem dX10_deal_9 : decode cX10_deal 9 = .ok (.getfield 16, 3) := by decide +kernel
theorem dX10_deal_12 : decode cX10_deal 12 = .ok (.iload_n 2, 1) := by decide +kernel
theorem dX10_deal_13 : decode cX10_deal 13 = .ok (.aload_n 0, 1) := by decide +kernel
theorem dX10_deal_14 : decode cX10_deal 14 = .ok (.getfield 7, 3) := by decide +kernel
theorem dX10_deal_17 : decode cX10_deal 17 = .ok (.bipush 24, 2) := by decide +kernel
theorem dX10_deal_19 : decode cX10_deal 19 = .ok (.iload_n 1, 1) := by decide +kernel
theorem dX10_deal_20 : decode cX10_deal 20 = .ok (.imul, 1) := by decide +kernel
theorem dX10_deal_21 : decode cX10_deal 21 = .ok (.iload_n 2, 1) := by decide +kernel
theorem dX10_deal_22 : decode cX10_deal 22 = .ok (.iadd, 1) := by decide +kernel
theorem dX10_deal_23 : decode cX10_deal 23 = .ok (.iaload, 1) := by decide +kernel
theorem dX10_deal_24 : decode cX10_deal 24 = .ok (.iastore, 1) := by decide +kernel
theorem dX10_deal_25 : decode cX10_deal 25 = .ok (.iinc 2 1, 3) := by decide +kernel
theorem dX10_deal_28 : decode cX10_deal 28 = .ok (.goto (-26), 3) := by decide +kernel
theorem dX10_deal_31 : decode cX10_deal 31 = .ok (.iconst 0, 1) := by decide +kernel
theorem dX10_deal_32 : decode cX10_deal 32 = .ok (.istore_n 2, 1) := by decide +kernel
theorem dX10_deal_33 : decode cX10_deal 33 = .ok (.iload_n 2, 1) := by decide +kernel
theorem dX10_deal_34 : decode cX10_deal 34 = .ok (.aload_n 0, 1) := by decide +kernel
theorem dX10_deal_35 : decode cX10_deal 35 = .ok (.getfield 83, 3) := by decide +kernel
theorem dX10_deal_38 : decode cX10_deal 38 = .ok (.if_icmp .ge 72, 3) := by decide +kernel
theorem dX10_deal_41 : decode cX10_deal 41 = .ok (.iconst 0, 1) := by decide +kernel
theorem dX10_deal_42 : decode cX10_deal 42 = .ok (.istore_n 3, 1) := by decide +kernel
theorem dX10_deal_43 : decode cX10_deal 43 = .ok (.iload_n 3, 1) := by decide +kernel
theorem dX10_deal_44 : decode cX10_deal 44 = .ok (.bipush 24, 2) := by decide +kernel
theorem dX10_deal_46 : decode cX10_deal 46 = .ok (.if_icmp .ge 21, 3) := by decide +kernel
theorem dX10_deal_49 : decode cX10_deal 49 = .ok (.aload_n 0, 1) := by decide +kernel
theorem dX10_deal_50 : decode cX10_deal 50 = .ok (.getfield 19, 3) := by decide +kernel
theorem dX10_deal_53 : decode cX10_deal 53 = .ok (.iload_n 3, 1) := by decide +kernel
theorem dX10_deal_54 : decode cX10_deal 54 = .ok (.aload_n 0, 1) := by decide +kernel
theorem dX10_deal_55 : decode cX10_deal 55 = .ok (.getfield 16, 3) := by decide +kernel
theorem dX10_deal_58 : decode cX10_deal 58 = .ok (.iload_n 3, 1) := by decide +kernel
theorem dX10_deal_59 : decode cX10_deal 59 = .ok (.iaload, 1) := by decide +kernel
theorem dX10_deal_60 : decode cX10_deal 60 = .ok (.iastore, 1) := by decide +kernel
theorem dX10_deal_61 : decode cX10_deal 61 = .ok (.iinc 3 1, 3) := by decide +kernel
theorem dX10_deal_64 : decode cX10_deal 64 = .ok (.goto (-21), 3) := by decide +kernel
theorem dX10_deal_67 : decode cX10_deal 67 = .ok (.iconst 0, 1) := by decide +kernel
theorem dX10_deal_68 : decode cX10_deal 68 = .ok (.istore_n 3, 1) := by decide +kernel
theorem dX10_deal_69 : decode cX10_deal 69 = .ok (.iload_n 3, 1) := by decide +kernel
theorem dX10_deal_70 : decode cX10_deal 70 = .ok (.bipush 24, 2) := by decide +kernel
theorem dX10_deal_72 : decode cX10_deal 72 = .ok (.if_icmp .ge 21, 3) := by decide +kernel
theorem dX10_deal_75 : decode cX10_deal 75 = .ok (.aload_n 0, 1) := by decide +kernel
theorem dX10_deal_76 : decode cX10_deal 76 = .ok (.getfield 16, 3) := by decide +kernel
theorem dX10_deal_79 : decode cX10_deal 79 = .ok (.iload_n 3, 1) := by decide +kernel
theorem dX10_deal_80 : decode cX10_deal 80 = .ok (.aload_n 0, 1) := by decide +kernel
theorem dX10_deal_81 : decode cX10_deal 81 = .ok (.iload_n 3, 1) := by decide +kernel
theorem dX10_deal_82 : decode cX10_deal 82 = .ok (.iload_n 2, 1) := by decide +kernel
theorem dX10_deal_83 : decode cX10_deal 83 = .ok (.invokevirtual 118, 3) := by decide +kernel
theorem dX10_deal_86 : decode cX10_deal 86 = .ok (.iastore, 1) := by decide +kernel
theorem dX10_deal_87 : decode cX10_deal 87 = .ok (.iinc 3 1, 3) := by decide +kernel
theorem dX10_deal_90 : decode cX10_deal 90 = .ok (.goto (-21), 3) := by decide +kernel
theorem dX10_deal_93 : decode cX10_deal 93 = .ok (.iload_n 2, 1) := by decide +kernel
theorem dX10_deal_94 : decode cX10_deal 94 = .ok (.iconst 1, 1) := by decide +kernel
theorem dX10_deal_95 : decode cX10_deal 95 = .ok (.aload_n 0, 1) := by decide +kernel
theorem dX10_deal_96 : decode cX10_deal 96 = .ok (.getfield 13, 3) := by decide +kernel
theorem dX10_deal_99 : decode cX10_deal 99 = .ok (.iload_n 2, 1) := by decide +kernel
theorem dX10_deal_100 : decode cX10_deal 100 = .ok (.iaload, 1) := by decide +kernel
theorem dX10_deal_101 : decode cX10_deal 101 = .ok (.invokestatic 92, 3) := by decide +kernel
theorem dX10_deal_104 : decode cX10_deal 104 = .ok (.iadd, 1) := by decide +kernel
theorem dX10_deal_105 : decode cX10_deal 105 = .ok (.iadd, 1) := by decide +kernel
theorem dX10_deal_106 : decode cX10_deal 106 = .ok (.istore_n 2, 1) := by decide +kernel
theorem dX10_deal_107 : decode cX10_deal 107 = .ok (.goto (-74), 3) := by decide +kernel
theorem dX10_deal_110 : decode cX10_deal 110 = .ok (.return_, 1) := by decide +kernel
theorem dX10_dealt_0 : decode cX10_dealt 0 = .ok (.iload_n 1, 1) := by decide +kernel
theorem dX10_dealt_1 : decode cX10_dealt 1 = .ok (.invokestatic 66, 3) := by decide +kernel
theorem dX10_dealt_4 : decode cX10_dealt 4 = .ok (.ifCond .ne 6, 3) := by decide +kernel
theorem dX10_dealt_7 : decode cX10_dealt 7 = .ok (.ldc 70, 2) := by decide +kernel
theorem dX10_dealt_9 : decode cX10_dealt 9 = .ok (.ireturn, 1) := by decide +kernel
theorem dX10_dealt_10 : decode cX10_dealt 10 = .ok (.iload_n 2, 1) := by decide +kernel
theorem dX10_dealt_11 : decode cX10_dealt 11 = .ok (.invokestatic 71, 3) := by decide +kernel
theorem dX10_dealt_14 : decode cX10_dealt 14 = .ok (.ifCond .ne 6, 3) := by decide +kernel
theorem dX10_dealt_17 : decode cX10_dealt 17 = .ok (.ldc 78, 2) := by decide +kernel
theorem dX10_dealt_19 : decode cX10_dealt 19 = .ok (.ireturn, 1) := by decide +kernel
theorem dX10_dealt_20 : decode cX10_dealt 20 = .ok (.aload_n 0, 1) := by decide +kernel
theorem dX10_dealt_21 : decode cX10_dealt 21 = .ok (.invokevirtual 122, 3) := by decide +kernel
theorem dX10_dealt_24 : decode cX10_dealt 24 = .ok (.ifCond .lt 6, 3) := by decide +kernel
theorem dX10_dealt_27 : decode cX10_dealt 27 = .ok (.ldc 126, 2) := by decide +kernel
theorem dX10_dealt_29 : decode cX10_dealt 29 = .ok (.ireturn, 1) := by decide +kernel
theorem dX10_dealt_30 : decode cX10_dealt 30 = .ok (.aload_n 0, 1) := by decide +kernel
theorem dX10_dealt_31 : decode cX10_dealt 31 = .ok (.iload_n 1, 1) := by decide +kernel
theorem dX10_dealt_32 : decode cX10_dealt 32 = .ok (.invokevirtual 127, 3) := by decide +kernel
theorem dX10_dealt_35 : decode cX10_dealt 35 = .ok (.aload_n 0, 1) := by decide +kernel
theorem dX10_dealt_36 : decode cX10_dealt 36 = .ok (.getfield 16, 3) := by decide +kernel
theorem dX10_dealt_39 : decode cX10_dealt 39 = .ok (.iload_n 2, 1) := by decide +kernel
theorem dX10_dealt_40 : decode cX10_dealt 40 = .ok (.iaload, 1) := by decide +kernel
theorem dX10_dealt_41 : decode cX10_dealt 41 = .ok (.ireturn, 1) := by decide +kernel
theorem dX10_layNumbers_0 : decode cX10_layNumbers 0 = .ok (.aload_n 0, 1) := by decide +kernel
theorem dX10_layNumbers_1 : decode cX10_layNumbers 1 = .ok (.iconst 0, 1) := by decide +kernel
theorem dX10_layNumbers_2 : decode cX10_layNumbers 2 = .ok (.putfield 131, 3) := by decide +kernel
theorem dX10_layNumbers_5 : decode cX10_layNumbers 5 = .ok (.iconst 0, 1) := by decide +kernel
theorem dX10_layNumbers_6 : decode cX10_layNumbers 6 = .ok (.istore_n 2, 1) := by decide +kernel
theorem dX10_layNumbers_7 : decode cX10_layNumbers 7 = .ok (.iload_n 2, 1) := by decide +kernel
theorem dX10_layNumbers_8 : decode cX10_layNumbers 8 = .ok (.iload_n 1, 1) := by decide +kernel
theorem dX10_layNumbers_9 : decode cX10_layNumbers 9 = .ok (.if_icmp .ge 55, 3) := by decide +kernel
theorem dX10_layNumbers_12 : decode cX10_layNumbers 12 = .ok (.aload_n 0, 1) := by decide +kernel
theorem dX10_layNumbers_13 : decode cX10_layNumbers 13 = .ok (.getfield 16, 3) := by decide +kernel
theorem dX10_layNumbers_16 : decode cX10_layNumbers 16 = .ok (.iload_n 2, 1) := by decide +kernel
theorem dX10_layNumbers_17 : decode cX10_layNumbers 17 = .ok (.iaload, 1) := by decide +kernel
theorem dX10_layNumbers_18 : decode cX10_layNumbers 18 = .ok (.ldc 53, 2) := by decide +kernel
theorem dX10_layNumbers_20 : decode cX10_layNumbers 20 = .ok (.if_icmp .eq 38, 3) := by decide +kernel
theorem dX10_layNumbers_23 : decode cX10_layNumbers 23 = .ok (.aload_n 0, 1) := by decide +kernel
theorem dX10_layNumbers_24 : decode cX10_layNumbers 24 = .ok (.getfield 22, 3) := by decide +kernel
theorem dX10_layNumbers_27 : decode cX10_layNumbers 27 = .ok (.aload_n 0, 1) := by decide +kernel
theorem dX10_layNumbers_28 : decode cX10_layNumbers 28 = .ok (.getfield 131, 3) := by decide +kernel
theorem dX10_layNumbers_31 : decode cX10_layNumbers 31 = .ok (.iload_n 2, 1) := by decide +kernel
theorem dX10_layNumbers_32 : decode cX10_layNumbers 32 = .ok (.iastore, 1) := by decide +kernel
theorem dX10_layNumbers_33 : decode cX10_layNumbers 33 = .ok (.aload_n 0, 1) := by decide +kernel
theorem dX10_layNumbers_34 : decode cX10_layNumbers 34 = .ok (.getfield 25, 3) := by decide +kernel
theorem dX10_layNumbers_37 : decode cX10_layNumbers 37 = .ok (.aload_n 0, 1) := by decide +kernel
theorem dX10_layNumbers_38 : decode cX10_layNumbers 38 = .ok (.getfield 131, 3) := by decide +kernel
theorem dX10_layNumbers_41 : decode cX10_layNumbers 41 = .ok (.aload_n 0, 1) := by decide +kernel
theorem dX10_layNumbers_42 : decode cX10_layNumbers 42 = .ok (.getfield 16, 3) := by decide +kernel
theorem dX10_layNumbers_45 : decode cX10_layNumbers 45 = .ok (.iload_n 2, 1) := by decide +kernel
theorem dX10_layNumbers_46 : decode cX10_layNumbers 46 = .ok (.iaload, 1) := by decide +kernel
theorem dX10_layNumbers_47 : decode cX10_layNumbers 47 = .ok (.iastore, 1) := by decide +kernel
theorem dX10_layNumbers_48 : decode cX10_layNumbers 48 = .ok (.aload_n 0, 1) := by decide +kernel
theorem dX10_layNumbers_49 : decode cX10_layNumbers 49 = .ok (.dup, 1) := by decide +kernel
theorem dX10_layNumbers_50 : decode cX10_layNumbers 50 = .ok (.getfield 131, 3) := by decide +kernel
theorem dX10_layNumbers_53 : decode cX10_layNumbers 53 = .ok (.iconst 1, 1) := by decide +kernel
theorem dX10_layNumbers_54 : decode cX10_layNumbers 54 = .ok (.iadd, 1) := by decide +kernel
theorem dX10_layNumbers_55 : decode cX10_layNumbers 55 = .ok (.putfield 131, 3) := by decide +kernel
theorem dX10_layNumbers_58 : decode cX10_layNumbers 58 = .ok (.iinc 2 1, 3) := by decide +kernel
theorem dX10_layNumbers_61 : decode cX10_layNumbers 61 = .ok (.goto (-54), 3) := by decide +kernel
theorem dX10_layNumbers_64 : decode cX10_layNumbers 64 = .ok (.return_, 1) := by decide +kernel
theorem dX10_layHeaps_0 : decode cX10_layHeaps 0 = .ok (.iconst 0, 1) := by decide +kernel
theorem dX10_layHeaps_1 : decode cX10_layHeaps 1 = .ok (.istore_n 2, 1) := by decide +kernel
theorem dX10_layHeaps_2 : decode cX10_layHeaps 2 = .ok (.iload_n 2, 1) := by decide +kernel
theorem dX10_layHeaps_3 : decode cX10_layHeaps 3 = .ok (.iload_n 1, 1) := by decide +kernel
theorem dX10_layHeaps_4 : decode cX10_layHeaps 4 = .ok (.if_icmp .ge 23, 3) := by decide +kernel
theorem dX10_layHeaps_7 : decode cX10_layHeaps 7 = .ok (.aload_n 0, 1) := by decide +kernel
theorem dX10_layHeaps_8 : decode cX10_layHeaps 8 = .ok (.getfield 28, 3) := by decide +kernel
theorem dX10_layHeaps_11 : decode cX10_layHeaps 11 = .ok (.iload_n 2, 1) := by decide +kernel
theorem dX10_layHeaps_12 : decode cX10_layHeaps 12 = .ok (.lconst 0, 1) := by decide +kernel
theorem dX10_layHeaps_13 : decode cX10_layHeaps 13 = .ok (.lastore, 1) := by decide +kernel
theorem dX10_layHeaps_14 : decode cX10_layHeaps 14 = .ok (.aload_n 0, 1) := by decide +kernel
theorem dX10_layHeaps_15 : decode cX10_layHeaps 15 = .ok (.getfield 32, 3) := by decide +kernel
theorem dX10_layHeaps_18 : decode cX10_layHeaps 18 = .ok (.iload_n 2, 1) := by decide +kernel
theorem dX10_layHeaps_19 : decode cX10_layHeaps 19 = .ok (.iconst 0, 1) := by decide +kernel
theorem dX10_layHeaps_20 : decode cX10_layHeaps 20 = .ok (.iastore, 1) := by decide +kernel
theorem dX10_layHeaps_21 : decode cX10_layHeaps 21 = .ok (.iinc 2 1, 3) := by decide +kernel
theorem dX10_layHeaps_24 : decode cX10_layHeaps 24 = .ok (.goto (-22), 3) := by decide +kernel
theorem dX10_layHeaps_27 : decode cX10_layHeaps 27 = .ok (.iconst 0, 1) := by decide +kernel
theorem dX10_layHeaps_28 : decode cX10_layHeaps 28 = .ok (.istore_n 2, 1) := by decide +kernel
theorem dX10_layHeaps_29 : decode cX10_layHeaps 29 = .ok (.iload_n 2, 1) := by decide +kernel
theorem dX10_layHeaps_30 : decode cX10_layHeaps 30 = .ok (.aload_n 0, 1) := by decide +kernel
theorem dX10_layHeaps_31 : decode cX10_layHeaps 31 = .ok (.getfield 131, 3) := by decide +kernel
theorem dX10_layHeaps_34 : decode cX10_layHeaps 34 = .ok (.if_icmp .ge 49, 3) := by decide +kernel
theorem dX10_layHeaps_37 : decode cX10_layHeaps 37 = .ok (.aload_n 0, 1) := by decide +kernel
theorem dX10_layHeaps_38 : decode cX10_layHeaps 38 = .ok (.getfield 28, 3) := by decide +kernel
theorem dX10_layHeaps_41 : decode cX10_layHeaps 41 = .ok (.aload_n 0, 1) := by decide +kernel
theorem dX10_layHeaps_42 : decode cX10_layHeaps 42 = .ok (.getfield 22, 3) := by decide +kernel
theorem dX10_layHeaps_45 : decode cX10_layHeaps 45 = .ok (.iload_n 2, 1) := by decide +kernel
theorem dX10_layHeaps_46 : decode cX10_layHeaps 46 = .ok (.iaload, 1) := by decide +kernel
theorem dX10_layHeaps_47 : decode cX10_layHeaps 47 = .ok (.iload_n 1, 1) := by decide +kernel
theorem dX10_layHeaps_48 : decode cX10_layHeaps 48 = .ok (.irem, 1) := by decide +kernel
theorem dX10_layHeaps_49 : decode cX10_layHeaps 49 = .ok (.dup2, 1) := by decide +kernel
theorem dX10_layHeaps_50 : decode cX10_layHeaps 50 = .ok (.laload, 1) := by decide +kernel
theorem dX10_layHeaps_51 : decode cX10_layHeaps 51 = .ok (.aload_n 0, 1) := by decide +kernel
theorem dX10_layHeaps_52 : decode cX10_layHeaps 52 = .ok (.getfield 25, 3) := by decide +kernel
theorem dX10_layHeaps_55 : decode cX10_layHeaps 55 = .ok (.iload_n 2, 1) := by decide +kernel
theorem dX10_layHeaps_56 : decode cX10_layHeaps 56 = .ok (.iaload, 1) := by decide +kernel
theorem dX10_layHeaps_57 : decode cX10_layHeaps 57 = .ok (.i2l, 1) := by decide +kernel
theorem dX10_layHeaps_58 : decode cX10_layHeaps 58 = .ok (.ladd, 1) := by decide +kernel
theorem dX10_layHeaps_59 : decode cX10_layHeaps 59 = .ok (.lastore, 1) := by decide +kernel
theorem dX10_layHeaps_60 : decode cX10_layHeaps 60 = .ok (.aload_n 0, 1) := by decide +kernel
theorem dX10_layHeaps_61 : decode cX10_layHeaps 61 = .ok (.getfield 32, 3) := by decide +kernel
theorem dX10_layHeaps_64 : decode cX10_layHeaps 64 = .ok (.aload_n 0, 1) := by decide +kernel
theorem dX10_layHeaps_65 : decode cX10_layHeaps 65 = .ok (.getfield 22, 3) := by decide +kernel
theorem dX10_layHeaps_68 : decode cX10_layHeaps 68 = .ok (.iload_n 2, 1) := by decide +kernel
theorem dX10_layHeaps_69 : decode cX10_layHeaps 69 = .ok (.iaload, 1) := by decide +kernel
theorem dX10_layHeaps_70 : decode cX10_layHeaps 70 = .ok (.iload_n 1, 1) := by decide +kernel
theorem dX10_layHeaps_71 : decode cX10_layHeaps 71 = .ok (.irem, 1) := by decide +kernel
theorem dX10_layHeaps_72 : decode cX10_layHeaps 72 = .ok (.dup2, 1) := by decide +kernel
theorem dX10_layHeaps_73 : decode cX10_layHeaps 73 = .ok (.iaload, 1) := by decide +kernel
theorem dX10_layHeaps_74 : decode cX10_layHeaps 74 = .ok (.iconst 1, 1) := by decide +kernel
theorem dX10_layHeaps_75 : decode cX10_layHeaps 75 = .ok (.iadd, 1) := by decide +kernel
theorem dX10_layHeaps_76 : decode cX10_layHeaps 76 = .ok (.iastore, 1) := by decide +kernel
theorem dX10_layHeaps_77 : decode cX10_layHeaps 77 = .ok (.iinc 2 1, 3) := by decide +kernel
theorem dX10_layHeaps_80 : decode cX10_layHeaps 80 = .ok (.goto (-51), 3) := by decide +kernel
theorem dX10_layHeaps_83 : decode cX10_layHeaps 83 = .ok (.return_, 1) := by decide +kernel
theorem dX10_sumOf_0 : decode cX10_sumOf 0 = .ok (.lconst 0, 1) := by decide +kernel
theorem dX10_sumOf_1 : decode cX10_sumOf 1 = .ok (.lstore_n 1, 1) := by decide +kernel
theorem dX10_sumOf_2 : decode cX10_sumOf 2 = .ok (.iconst 0, 1) := by decide +kernel
theorem dX10_sumOf_3 : decode cX10_sumOf 3 = .ok (.istore_n 3, 1) := by decide +kernel
theorem dX10_sumOf_4 : decode cX10_sumOf 4 = .ok (.iload_n 3, 1) := by decide +kernel
theorem dX10_sumOf_5 : decode cX10_sumOf 5 = .ok (.aload_n 0, 1) := by decide +kernel
theorem dX10_sumOf_6 : decode cX10_sumOf 6 = .ok (.getfield 131, 3) := by decide +kernel
theorem dX10_sumOf_9 : decode cX10_sumOf 9 = .ok (.if_icmp .ge 19, 3) := by decide +kernel
theorem dX10_sumOf_12 : decode cX10_sumOf 12 = .ok (.lload_n 1, 1) := by decide +kernel
theorem dX10_sumOf_13 : decode cX10_sumOf 13 = .ok (.aload_n 0, 1) := by decide +kernel
theorem dX10_sumOf_14 : decode cX10_sumOf 14 = .ok (.getfield 25, 3) := by decide +kernel
theorem dX10_sumOf_17 : decode cX10_sumOf 17 = .ok (.iload_n 3, 1) := by decide +kernel
theorem dX10_sumOf_18 : decode cX10_sumOf 18 = .ok (.iaload, 1) := by decide +kernel
theorem dX10_sumOf_19 : decode cX10_sumOf 19 = .ok (.i2l, 1) := by decide +kernel
theorem dX10_sumOf_20 : decode cX10_sumOf 20 = .ok (.ladd, 1) := by decide +kernel
theorem dX10_sumOf_21 : decode cX10_sumOf 21 = .ok (.lstore_n 1, 1) := by decide +kernel
theorem dX10_sumOf_22 : decode cX10_sumOf 22 = .ok (.iinc 3 1, 3) := by decide +kernel
theorem dX10_sumOf_25 : decode cX10_sumOf 25 = .ok (.goto (-21), 3) := by decide +kernel
theorem dX10_sumOf_28 : decode cX10_sumOf 28 = .ok (.lload_n 1, 1) := by decide +kernel
theorem dX10_sumOf_29 : decode cX10_sumOf 29 = .ok (.lreturn, 1) := by decide +kernel
theorem dX10_upperOf_0 : decode cX10_upperOf 0 = .ok (.aload_n 0, 1) := by decide +kernel
theorem dX10_upperOf_1 : decode cX10_upperOf 1 = .ok (.iload_n 1, 1) := by decide +kernel
theorem dX10_upperOf_2 : decode cX10_upperOf 2 = .ok (.invokevirtual 134, 3) := by decide +kernel
theorem dX10_upperOf_5 : decode cX10_upperOf 5 = .ok (.aload_n 0, 1) := by decide +kernel
theorem dX10_upperOf_6 : decode cX10_upperOf 6 = .ok (.invokevirtual 137, 3) := by decide +kernel
theorem dX10_upperOf_9 : decode cX10_upperOf 9 = .ok (.lstore_n 2, 1) := by decide +kernel
theorem dX10_upperOf_10 : decode cX10_upperOf 10 = .ok (.lload_n 2, 1) := by decide +kernel
theorem dX10_upperOf_11 : decode cX10_upperOf 11 = .ok (.lneg, 1) := by decide +kernel
theorem dX10_upperOf_12 : decode cX10_upperOf 12 = .ok (.lload_n 2, 1) := by decide +kernel
theorem dX10_upperOf_13 : decode cX10_upperOf 13 = .ok (.lmul, 1) := by decide +kernel
theorem dX10_upperOf_14 : decode cX10_upperOf 14 = .ok (.ldc2_w 141, 3) := by decide +kernel
theorem dX10_upperOf_17 : decode cX10_upperOf 17 = .ok (.lmul, 1) := by decide +kernel
theorem dX10_upperOf_18 : decode cX10_upperOf 18 = .ok (.lstore 4, 2) := by decide +kernel
theorem dX10_upperOf_20 : decode cX10_upperOf 20 = .ok (.iconst 0, 1) := by decide +kernel
theorem dX10_upperOf_21 : decode cX10_upperOf 21 = .ok (.istore 6, 2) := by decide +kernel
theorem dX10_upperOf_23 : decode cX10_upperOf 23 = .ok (.iload 6, 2) := by decide +kernel
theorem dX10_upperOf_25 : decode cX10_upperOf 25 = .ok (.iload_n 1, 1) := by decide +kernel
theorem dX10_upperOf_26 : decode cX10_upperOf 26 = .ok (.if_icmp .ge 62, 3) := by decide +kernel
theorem dX10_upperOf_29 : decode cX10_upperOf 29 = .ok (.lload 4, 2) := by decide +kernel
theorem dX10_upperOf_31 : decode cX10_upperOf 31 = .ok (.aload_n 0, 1) := by decide +kernel
theorem dX10_upperOf_32 : decode cX10_upperOf 32 = .ok (.getfield 32, 3) := by decide +kernel
theorem dX10_upperOf_35 : decode cX10_upperOf 35 = .ok (.iload 6, 2) := by decide +kernel
theorem dX10_upperOf_37 : decode cX10_upperOf 37 = .ok (.iaload, 1) := by decide +kernel
theorem dX10_upperOf_38 : decode cX10_upperOf 38 = .ok (.ifCond .ne 7, 3) := by decide +kernel
theorem dX10_upperOf_41 : decode cX10_upperOf 41 = .ok (.lconst 0, 1) := by decide +kernel
theorem dX10_upperOf_42 : decode cX10_upperOf 42 = .ok (.goto 37, 3) := by decide +kernel
theorem dX10_upperOf_45 : decode cX10_upperOf 45 = .ok (.aload_n 0, 1) := by decide +kernel
theorem dX10_upperOf_46 : decode cX10_upperOf 46 = .ok (.getfield 28, 3) := by decide +kernel
theorem dX10_upperOf_49 : decode cX10_upperOf 49 = .ok (.iload 6, 2) := by decide +kernel
theorem dX10_upperOf_51 : decode cX10_upperOf 51 = .ok (.laload, 1) := by decide +kernel
theorem dX10_upperOf_52 : decode cX10_upperOf 52 = .ok (.aload_n 0, 1) := by decide +kernel
theorem dX10_upperOf_53 : decode cX10_upperOf 53 = .ok (.getfield 28, 3) := by decide +kernel
theorem dX10_upperOf_56 : decode cX10_upperOf 56 = .ok (.iload 6, 2) := by decide +kernel
theorem dX10_upperOf_58 : decode cX10_upperOf 58 = .ok (.laload, 1) := by decide +kernel
theorem dX10_upperOf_59 : decode cX10_upperOf 59 = .ok (.lmul, 1) := by decide +kernel
theorem dX10_upperOf_60 : decode cX10_upperOf 60 = .ok (.ldc2_w 141, 3) := by decide +kernel
theorem dX10_upperOf_63 : decode cX10_upperOf 63 = .ok (.aload_n 0, 1) := by decide +kernel
theorem dX10_upperOf_64 : decode cX10_upperOf 64 = .ok (.getfield 32, 3) := by decide +kernel
theorem dX10_upperOf_67 : decode cX10_upperOf 67 = .ok (.iload 6, 2) := by decide +kernel
theorem dX10_upperOf_69 : decode cX10_upperOf 69 = .ok (.iaload, 1) := by decide +kernel
theorem dX10_upperOf_70 : decode cX10_upperOf 70 = .ok (.i2l, 1) := by decide +kernel
theorem dX10_upperOf_71 : decode cX10_upperOf 71 = .ok (.ldiv, 1) := by decide +kernel
theorem dX10_upperOf_72 : decode cX10_upperOf 72 = .ok (.lmul, 1) := by decide +kernel
theorem dX10_upperOf_73 : decode cX10_upperOf 73 = .ok (.aload_n 0, 1) := by decide +kernel
theorem dX10_upperOf_74 : decode cX10_upperOf 74 = .ok (.getfield 131, 3) := by decide +kernel
theorem dX10_upperOf_77 : decode cX10_upperOf 77 = .ok (.i2l, 1) := by decide +kernel
theorem dX10_upperOf_78 : decode cX10_upperOf 78 = .ok (.lmul, 1) := by decide +kernel
theorem dX10_upperOf_79 : decode cX10_upperOf 79 = .ok (.ladd, 1) := by decide +kernel
theorem dX10_upperOf_80 : decode cX10_upperOf 80 = .ok (.lstore 4, 2) := by decide +kernel
theorem dX10_upperOf_82 : decode cX10_upperOf 82 = .ok (.iinc 6 1, 3) := by decide +kernel
theorem dX10_upperOf_85 : decode cX10_upperOf 85 = .ok (.goto (-62), 3) := by decide +kernel
theorem dX10_upperOf_88 : decode cX10_upperOf 88 = .ok (.lload 4, 2) := by decide +kernel
theorem dX10_upperOf_90 : decode cX10_upperOf 90 = .ok (.lreturn, 1) := by decide +kernel
theorem dX10_lowerOf_0 : decode cX10_lowerOf 0 = .ok (.aload_n 0, 1) := by decide +kernel
theorem dX10_lowerOf_1 : decode cX10_lowerOf 1 = .ok (.invokevirtual 137, 3) := by decide +kernel
theorem dX10_lowerOf_4 : decode cX10_lowerOf 4 = .ok (.lstore_n 1, 1) := by decide +kernel
theorem dX10_lowerOf_5 : decode cX10_lowerOf 5 = .ok (.lconst 0, 1) := by decide +kernel
theorem dX10_lowerOf_6 : decode cX10_lowerOf 6 = .ok (.lstore_n 3, 1) := by decide +kernel
theorem dX10_lowerOf_7 : decode cX10_lowerOf 7 = .ok (.iconst 0, 1) := by decide +kernel
theorem dX10_lowerOf_8 : decode cX10_lowerOf 8 = .ok (.istore 5, 2) := by decide +kernel
theorem dX10_lowerOf_10 : decode cX10_lowerOf 10 = .ok (.iload 5, 2) := by decide +kernel
theorem dX10_lowerOf_12 : decode cX10_lowerOf 12 = .ok (.aload_n 0, 1) := by decide +kernel
theorem dX10_lowerOf_13 : decode cX10_lowerOf 13 = .ok (.getfield 131, 3) := by decide +kernel
theorem dX10_lowerOf_16 : decode cX10_lowerOf 16 = .ok (.if_icmp .ge 29, 3) := by decide +kernel
theorem dX10_lowerOf_19 : decode cX10_lowerOf 19 = .ok (.lload_n 3, 1) := by decide +kernel
theorem dX10_lowerOf_20 : decode cX10_lowerOf 20 = .ok (.aload_n 0, 1) := by decide +kernel
theorem dX10_lowerOf_21 : decode cX10_lowerOf 21 = .ok (.getfield 25, 3) := by decide +kernel
theorem dX10_lowerOf_24 : decode cX10_lowerOf 24 = .ok (.iload 5, 2) := by decide +kernel
theorem dX10_lowerOf_26 : decode cX10_lowerOf 26 = .ok (.iaload, 1) := by decide +kernel
theorem dX10_lowerOf_27 : decode cX10_lowerOf 27 = .ok (.i2l, 1) := by decide +kernel
theorem dX10_lowerOf_28 : decode cX10_lowerOf 28 = .ok (.aload_n 0, 1) := by decide +kernel
theorem dX10_lowerOf_29 : decode cX10_lowerOf 29 = .ok (.getfield 25, 3) := by decide +kernel
theorem dX10_lowerOf_32 : decode cX10_lowerOf 32 = .ok (.iload 5, 2) := by decide +kernel
theorem dX10_lowerOf_34 : decode cX10_lowerOf 34 = .ok (.iaload, 1) := by decide +kernel
theorem dX10_lowerOf_35 : decode cX10_lowerOf 35 = .ok (.i2l, 1) := by decide +kernel
theorem dX10_lowerOf_36 : decode cX10_lowerOf 36 = .ok (.lmul, 1) := by decide +kernel
theorem dX10_lowerOf_37 : decode cX10_lowerOf 37 = .ok (.ladd, 1) := by decide +kernel
theorem dX10_lowerOf_38 : decode cX10_lowerOf 38 = .ok (.lstore_n 3, 1) := by decide +kernel
theorem dX10_lowerOf_39 : decode cX10_lowerOf 39 = .ok (.iinc 5 1, 3) := by decide +kernel
theorem dX10_lowerOf_42 : decode cX10_lowerOf 42 = .ok (.goto (-32), 3) := by decide +kernel
theorem dX10_lowerOf_45 : decode cX10_lowerOf 45 = .ok (.lload_n 3, 1) := by decide +kernel
theorem dX10_lowerOf_46 : decode cX10_lowerOf 46 = .ok (.aload_n 0, 1) := by decide +kernel
theorem dX10_lowerOf_47 : decode cX10_lowerOf 47 = .ok (.getfield 131, 3) := by decide +kernel
theorem dX10_lowerOf_50 : decode cX10_lowerOf 50 = .ok (.i2l, 1) := by decide +kernel
theorem dX10_lowerOf_51 : decode cX10_lowerOf 51 = .ok (.lmul, 1) := by decide +kernel
theorem dX10_lowerOf_52 : decode cX10_lowerOf 52 = .ok (.lload_n 1, 1) := by decide +kernel
theorem dX10_lowerOf_53 : decode cX10_lowerOf 53 = .ok (.lload_n 1, 1) := by decide +kernel
theorem dX10_lowerOf_54 : decode cX10_lowerOf 54 = .ok (.lmul, 1) := by decide +kernel
theorem dX10_lowerOf_55 : decode cX10_lowerOf 55 = .ok (.lsub, 1) := by decide +kernel
theorem dX10_lowerOf_56 : decode cX10_lowerOf 56 = .ok (.ldc2_w 141, 3) := by decide +kernel
theorem dX10_lowerOf_59 : decode cX10_lowerOf 59 = .ok (.lmul, 1) := by decide +kernel
theorem dX10_lowerOf_60 : decode cX10_lowerOf 60 = .ok (.lreturn, 1) := by decide +kernel
theorem dX10_isLength_0 : decode cX10_isLength 0 = .ok (.iload_n 0, 1) := by decide +kernel
theorem dX10_isLength_1 : decode cX10_isLength 1 = .ok (.i2l, 1) := by decide +kernel
theorem dX10_isLength_2 : decode cX10_isLength 2 = .ok (.ldc2_w 143, 3) := by decide +kernel
theorem dX10_isLength_5 : decode cX10_isLength 5 = .ok (.ldc2_w 145, 3) := by decide +kernel
theorem dX10_isLength_8 : decode cX10_isLength 8 = .ok (.invokestatic 58, 3) := by decide +kernel
theorem dX10_isLength_11 : decode cX10_isLength 11 = .ok (.ireturn, 1) := by decide +kernel
theorem dX10_share_0 : decode cX10_share 0 = .ok (.iload_n 1, 1) := by decide +kernel
theorem dX10_share_1 : decode cX10_share 1 = .ok (.invokestatic 66, 3) := by decide +kernel
theorem dX10_share_4 : decode cX10_share 4 = .ok (.ifCond .ne 7, 3) := by decide +kernel
theorem dX10_share_7 : decode cX10_share 7 = .ok (.ldc2_w 147, 3) := by decide +kernel
theorem dX10_share_10 : decode cX10_share 10 = .ok (.lreturn, 1) := by decide +kernel
theorem dX10_share_11 : decode cX10_share 11 = .ok (.iload_n 2, 1) := by decide +kernel
theorem dX10_share_12 : decode cX10_share 12 = .ok (.invokestatic 149, 3) := by decide +kernel
theorem dX10_share_15 : decode cX10_share 15 = .ok (.ifCond .eq 10, 3) := by decide +kernel
theorem dX10_share_18 : decode cX10_share 18 = .ok (.iload_n 3, 1) := by decide +kernel
theorem dX10_share_19 : decode cX10_share 19 = .ok (.invokestatic 152, 3) := by decide +kernel
theorem dX10_share_22 : decode cX10_share 22 = .ok (.ifCond .ne 7, 3) := by decide +kernel
theorem dX10_share_25 : decode cX10_share 25 = .ok (.ldc2_w 155, 3) := by decide +kernel
theorem dX10_share_28 : decode cX10_share 28 = .ok (.lreturn, 1) := by decide +kernel
theorem dX10_share_29 : decode cX10_share 29 = .ok (.aload_n 0, 1) := by decide +kernel
theorem dX10_share_30 : decode cX10_share 30 = .ok (.invokevirtual 122, 3) := by decide +kernel
theorem dX10_share_33 : decode cX10_share 33 = .ok (.ifCond .lt 7, 3) := by decide +kernel
theorem dX10_share_36 : decode cX10_share 36 = .ok (.ldc2_w 157, 3) := by decide +kernel
theorem dX10_share_39 : decode cX10_share 39 = .ok (.lreturn, 1) := by decide +kernel
theorem dX10_share_40 : decode cX10_share 40 = .ok (.aload_n 0, 1) := by decide +kernel
theorem dX10_share_41 : decode cX10_share 41 = .ok (.iload_n 1, 1) := by decide +kernel
theorem dX10_share_42 : decode cX10_share 42 = .ok (.invokevirtual 127, 3) := by decide +kernel
theorem dX10_share_45 : decode cX10_share 45 = .ok (.aload_n 0, 1) := by decide +kernel
theorem dX10_share_46 : decode cX10_share 46 = .ok (.bipush 24, 2) := by decide +kernel
theorem dX10_share_48 : decode cX10_share 48 = .ok (.invokevirtual 159, 3) := by decide +kernel
theorem dX10_share_51 : decode cX10_share 51 = .ok (.aload_n 0, 1) := by decide +kernel
theorem dX10_share_52 : decode cX10_share 52 = .ok (.invokevirtual 162, 3) := by decide +kernel
theorem dX10_share_55 : decode cX10_share 55 = .ok (.lstore 4, 2) := by decide +kernel
theorem dX10_share_57 : decode cX10_share 57 = .ok (.lload 4, 2) := by decide +kernel
theorem dX10_share_59 : decode cX10_share 59 = .ok (.lconst 0, 1) := by decide +kernel
theorem dX10_share_60 : decode cX10_share 60 = .ok (.lcmp, 1) := by decide +kernel
theorem dX10_share_61 : decode cX10_share 61 = .ok (.ifCond .ne 8, 3) := by decide +kernel
theorem dX10_share_64 : decode cX10_share 64 = .ok (.iload_n 3, 1) := by decide +kernel
theorem dX10_share_65 : decode cX10_share 65 = .ok (.i2l, 1) := by decide +kernel
theorem dX10_share_66 : decode cX10_share 66 = .ok (.goto 14, 3) := by decide +kernel
theorem dX10_share_69 : decode cX10_share 69 = .ok (.aload_n 0, 1) := by decide +kernel
theorem dX10_share_70 : decode cX10_share 70 = .ok (.iload_n 2, 1) := by decide +kernel
theorem dX10_share_71 : decode cX10_share 71 = .ok (.invokevirtual 165, 3) := by decide +kernel
theorem dX10_share_74 : decode cX10_share 74 = .ok (.lload 4, 2) := by decide +kernel
theorem dX10_share_76 : decode cX10_share 76 = .ok (.iload_n 3, 1) := by decide +kernel
theorem dX10_share_77 : decode cX10_share 77 = .ok (.invokestatic 169, 3) := by decide +kernel
theorem dX10_share_80 : decode cX10_share 80 = .ok (.lreturn, 1) := by decide +kernel
theorem dX10_greatestOf_0 : decode cX10_greatestOf 0 = .ok (.aload_n 0, 1) := by decide +kernel
theorem dX10_greatestOf_1 : decode cX10_greatestOf 1 = .ok (.iload_n 1, 1) := by decide +kernel
theorem dX10_greatestOf_2 : decode cX10_greatestOf 2 = .ok (.invokevirtual 165, 3) := by decide +kernel
theorem dX10_greatestOf_5 : decode cX10_greatestOf 5 = .ok (.lstore_n 3, 1) := by decide +kernel
theorem dX10_greatestOf_6 : decode cX10_greatestOf 6 = .ok (.iload_n 1, 1) := by decide +kernel
theorem dX10_greatestOf_7 : decode cX10_greatestOf 7 = .ok (.iconst 1, 1) := by decide +kernel
theorem dX10_greatestOf_8 : decode cX10_greatestOf 8 = .ok (.iadd, 1) := by decide +kernel
theorem dX10_greatestOf_9 : decode cX10_greatestOf 9 = .ok (.istore 5, 2) := by decide +kernel
theorem dX10_greatestOf_11 : decode cX10_greatestOf 11 = .ok (.iload 5, 2) := by decide +kernel
theorem dX10_greatestOf_13 : decode cX10_greatestOf 13 = .ok (.iload_n 2, 1) := by decide +kernel
theorem dX10_greatestOf_14 : decode cX10_greatestOf 14 = .ok (.if_icmp .gt 31, 3) := by decide +kernel
theorem dX10_greatestOf_17 : decode cX10_greatestOf 17 = .ok (.aload_n 0, 1) := by decide +kernel
theorem dX10_greatestOf_18 : decode cX10_greatestOf 18 = .ok (.iload 5, 2) := by decide +kernel
theorem dX10_greatestOf_20 : decode cX10_greatestOf 20 = .ok (.invokevirtual 165, 3) := by decide +kernel
theorem dX10_greatestOf_23 : decode cX10_greatestOf 23 = .ok (.lstore 6, 2) := by decide +kernel
theorem dX10_greatestOf_25 : decode cX10_greatestOf 25 = .ok (.lload 6, 2) := by decide +kernel
theorem dX10_greatestOf_27 : decode cX10_greatestOf 27 = .ok (.lload_n 3, 1) := by decide +kernel
theorem dX10_greatestOf_28 : decode cX10_greatestOf 28 = .ok (.lcmp, 1) := by decide +kernel
theorem dX10_greatestOf_29 : decode cX10_greatestOf 29 = .ok (.ifCond .le 8, 3) := by decide +kernel
theorem dX10_greatestOf_32 : decode cX10_greatestOf 32 = .ok (.lload 6, 2) := by decide +kernel
theorem dX10_greatestOf_34 : decode cX10_greatestOf 34 = .ok (.goto 4, 3) := by decide +kernel
theorem dX10_greatestOf_37 : decode cX10_greatestOf 37 = .ok (.lload_n 3, 1) := by decide +kernel
theorem dX10_greatestOf_38 : decode cX10_greatestOf 38 = .ok (.lstore_n 3, 1) := by decide +kernel
theorem dX10_greatestOf_39 : decode cX10_greatestOf 39 = .ok (.iinc 5 1, 3) := by decide +kernel
theorem dX10_greatestOf_42 : decode cX10_greatestOf 42 = .ok (.goto (-31), 3) := by decide +kernel
theorem dX10_greatestOf_45 : decode cX10_greatestOf 45 = .ok (.lload_n 3, 1) := by decide +kernel
theorem dX10_greatestOf_46 : decode cX10_greatestOf 46 = .ok (.lreturn, 1) := by decide +kernel
theorem dX10_exchange_0 : decode cX10_exchange 0 = .ok (.aload_n 0, 1) := by decide +kernel
theorem dX10_exchange_1 : decode cX10_exchange 1 = .ok (.getfield 25, 3) := by decide +kernel
theorem dX10_exchange_4 : decode cX10_exchange 4 = .ok (.iload_n 1, 1) := by decide +kernel
theorem dX10_exchange_5 : decode cX10_exchange 5 = .ok (.iaload, 1) := by decide +kernel
theorem dX10_exchange_6 : decode cX10_exchange 6 = .ok (.istore_n 3, 1) := by decide +kernel
theorem dX10_exchange_7 : decode cX10_exchange 7 = .ok (.aload_n 0, 1) := by decide +kernel
theorem dX10_exchange_8 : decode cX10_exchange 8 = .ok (.getfield 25, 3) := by decide +kernel
theorem dX10_exchange_11 : decode cX10_exchange 11 = .ok (.iload_n 1, 1) := by decide +kernel
theorem dX10_exchange_12 : decode cX10_exchange 12 = .ok (.aload_n 0, 1) := by decide +kernel
theorem dX10_exchange_13 : decode cX10_exchange 13 = .ok (.getfield 25, 3) := by decide +kernel
theorem dX10_exchange_16 : decode cX10_exchange 16 = .ok (.iload_n 2, 1) := by decide +kernel
theorem dX10_exchange_17 : decode cX10_exchange 17 = .ok (.iaload, 1) := by decide +kernel
theorem dX10_exchange_18 : decode cX10_exchange 18 = .ok (.iastore, 1) := by decide +kernel
theorem dX10_exchange_19 : decode cX10_exchange 19 = .ok (.aload_n 0, 1) := by decide +kernel
theorem dX10_exchange_20 : decode cX10_exchange 20 = .ok (.getfield 25, 3) := by decide +kernel
theorem dX10_exchange_23 : decode cX10_exchange 23 = .ok (.iload_n 2, 1) := by decide +kernel
theorem dX10_exchange_24 : decode cX10_exchange 24 = .ok (.iload_n 3, 1) := by decide +kernel
theorem dX10_exchange_25 : decode cX10_exchange 25 = .ok (.iastore, 1) := by decide +kernel
theorem dX10_exchange_26 : decode cX10_exchange 26 = .ok (.return_, 1) := by decide +kernel
theorem dX10_oddsOf_0 : decode cX10_oddsOf 0 = .ok (.aload_n 0, 1) := by decide +kernel
theorem dX10_oddsOf_1 : decode cX10_oddsOf 1 = .ok (.iload_n 1, 1) := by decide +kernel
theorem dX10_oddsOf_2 : decode cX10_oddsOf 2 = .ok (.iload_n 2, 1) := by decide +kernel
theorem dX10_oddsOf_3 : decode cX10_oddsOf 3 = .ok (.invokevirtual 173, 3) := by decide +kernel
theorem dX10_oddsOf_6 : decode cX10_oddsOf 6 = .ok (.lstore 4, 2) := by decide +kernel
theorem dX10_oddsOf_8 : decode cX10_oddsOf 8 = .ok (.aload_n 0, 1) := by decide +kernel
theorem dX10_oddsOf_9 : decode cX10_oddsOf 9 = .ok (.invokevirtual 162, 3) := by decide +kernel
theorem dX10_oddsOf_12 : decode cX10_oddsOf 12 = .ok (.lconst 0, 1) := by decide +kernel
theorem dX10_oddsOf_13 : decode cX10_oddsOf 13 = .ok (.lcmp, 1) := by decide +kernel
theorem dX10_oddsOf_14 : decode cX10_oddsOf 14 = .ok (.ifCond .ne 7, 3) := by decide +kernel
theorem dX10_oddsOf_17 : decode cX10_oddsOf 17 = .ok (.iconst 1, 1) := by decide +kernel
theorem dX10_oddsOf_18 : decode cX10_oddsOf 18 = .ok (.goto 4, 3) := by decide +kernel
theorem dX10_oddsOf_21 : decode cX10_oddsOf 21 = .ok (.iconst 0, 1) := by decide +kernel
theorem dX10_oddsOf_22 : decode cX10_oddsOf 22 = .ok (.istore 6, 2) := by decide +kernel
theorem dX10_oddsOf_24 : decode cX10_oddsOf 24 = .ok (.iconst 1, 1) := by decide +kernel
theorem dX10_oddsOf_25 : decode cX10_oddsOf 25 = .ok (.istore 7, 2) := by decide +kernel
theorem dX10_oddsOf_27 : decode cX10_oddsOf 27 = .ok (.iconst 1, 1) := by decide +kernel
theorem dX10_oddsOf_28 : decode cX10_oddsOf 28 = .ok (.istore 8, 2) := by decide +kernel
theorem dX10_oddsOf_30 : decode cX10_oddsOf 30 = .ok (.iconst 0, 1) := by decide +kernel
theorem dX10_oddsOf_31 : decode cX10_oddsOf 31 = .ok (.istore 9, 2) := by decide +kernel
theorem dX10_oddsOf_33 : decode cX10_oddsOf 33 = .ok (.iload 9, 2) := by decide +kernel
theorem dX10_oddsOf_35 : decode cX10_oddsOf 35 = .ok (.aload_n 0, 1) := by decide +kernel
theorem dX10_oddsOf_36 : decode cX10_oddsOf 36 = .ok (.getfield 131, 3) := by decide +kernel
theorem dX10_oddsOf_39 : decode cX10_oddsOf 39 = .ok (.if_icmp .ge 17, 3) := by decide +kernel
theorem dX10_oddsOf_42 : decode cX10_oddsOf 42 = .ok (.aload_n 0, 1) := by decide +kernel
theorem dX10_oddsOf_43 : decode cX10_oddsOf 43 = .ok (.getfield 35, 3) := by decide +kernel
theorem dX10_oddsOf_46 : decode cX10_oddsOf 46 = .ok (.iload 9, 2) := by decide +kernel
theorem dX10_oddsOf_48 : decode cX10_oddsOf 48 = .ok (.iconst 0, 1) := by decide +kernel
theorem dX10_oddsOf_49 : decode cX10_oddsOf 49 = .ok (.iastore, 1) := by decide +kernel
theorem dX10_oddsOf_50 : decode cX10_oddsOf 50 = .ok (.iinc 9 1, 3) := by decide +kernel
theorem dX10_oddsOf_53 : decode cX10_oddsOf 53 = .ok (.goto (-20), 3) := by decide +kernel
theorem dX10_oddsOf_56 : decode cX10_oddsOf 56 = .ok (.iconst 0, 1) := by decide +kernel
theorem dX10_oddsOf_57 : decode cX10_oddsOf 57 = .ok (.istore 9, 2) := by decide +kernel
theorem dX10_oddsOf_59 : decode cX10_oddsOf 59 = .ok (.iload 9, 2) := by decide +kernel
theorem dX10_oddsOf_61 : decode cX10_oddsOf 61 = .ok (.aload_n 0, 1) := by decide +kernel
theorem dX10_oddsOf_62 : decode cX10_oddsOf 62 = .ok (.getfield 131, 3) := by decide +kernel
theorem dX10_oddsOf_65 : decode cX10_oddsOf 65 = .ok (.if_icmp .ge 100, 3) := by decide +kernel
theorem dX10_oddsOf_68 : decode cX10_oddsOf 68 = .ok (.aload_n 0, 1) := by decide +kernel
theorem dX10_oddsOf_69 : decode cX10_oddsOf 69 = .ok (.getfield 35, 3) := by decide +kernel
theorem dX10_oddsOf_72 : decode cX10_oddsOf 72 = .ok (.iload 9, 2) := by decide +kernel
theorem dX10_oddsOf_74 : decode cX10_oddsOf 74 = .ok (.iaload, 1) := by decide +kernel
theorem dX10_oddsOf_75 : decode cX10_oddsOf 75 = .ok (.iload 9, 2) := by decide +kernel
theorem dX10_oddsOf_77 : decode cX10_oddsOf 77 = .ok (.if_icmp .ge 74, 3) := by decide +kernel
theorem dX10_oddsOf_80 : decode cX10_oddsOf 80 = .ok (.aload_n 0, 1) := by decide +kernel
theorem dX10_oddsOf_81 : decode cX10_oddsOf 81 = .ok (.iload 9, 2) := by decide +kernel
theorem dX10_oddsOf_83 : decode cX10_oddsOf 83 = .ok (.iconst 2, 1) := by decide +kernel
theorem dX10_oddsOf_84 : decode cX10_oddsOf 84 = .ok (.irem, 1) := by decide +kernel
theorem dX10_oddsOf_85 : decode cX10_oddsOf 85 = .ok (.ifCond .ne 7, 3) := by decide +kernel
theorem dX10_oddsOf_88 : decode cX10_oddsOf 88 = .ok (.iconst 0, 1) := by decide +kernel
theorem dX10_oddsOf_89 : decode cX10_oddsOf 89 = .ok (.goto 10, 3) := by decide +kernel
theorem dX10_oddsOf_92 : decode cX10_oddsOf 92 = .ok (.aload_n 0, 1) := by decide +kernel
theorem dX10_oddsOf_93 : decode cX10_oddsOf 93 = .ok (.getfield 35, 3) := by decide +kernel
theorem dX10_oddsOf_96 : decode cX10_oddsOf 96 = .ok (.iload 9, 2) := by decide +kernel
theorem dX10_oddsOf_98 : decode cX10_oddsOf 98 = .ok (.iaload, 1) := by decide +kernel
theorem dX10_oddsOf_99 : decode cX10_oddsOf 99 = .ok (.iload 9, 2) := by decide +kernel
theorem dX10_oddsOf_101 : decode cX10_oddsOf 101 = .ok (.invokevirtual 177, 3) := by decide +kernel
theorem dX10_oddsOf_104 : decode cX10_oddsOf 104 = .ok (.iinc 7 1, 3) := by decide +kernel
theorem dX10_oddsOf_107 : decode cX10_oddsOf 107 = .ok (.iload 8, 2) := by decide +kernel
theorem dX10_oddsOf_109 : decode cX10_oddsOf 109 = .ok (.iload 6, 2) := by decide +kernel
theorem dX10_oddsOf_111 : decode cX10_oddsOf 111 = .ok (.ifCond .ne 15, 3) := by decide +kernel
theorem dX10_oddsOf_114 : decode cX10_oddsOf 114 = .ok (.aload_n 0, 1) := by decide +kernel
theorem dX10_oddsOf_115 : decode cX10_oddsOf 115 = .ok (.iload_n 1, 1) := by decide +kernel
theorem dX10_oddsOf_116 : decode cX10_oddsOf 116 = .ok (.iload_n 2, 1) := by decide +kernel
theorem dX10_oddsOf_117 : decode cX10_oddsOf 117 = .ok (.invokevirtual 173, 3) := by decide +kernel
theorem dX10_oddsOf_120 : decode cX10_oddsOf 120 = .ok (.lload 4, 2) := by decide +kernel
theorem dX10_oddsOf_122 : decode cX10_oddsOf 122 = .ok (.lcmp, 1) := by decide +kernel
theorem dX10_oddsOf_123 : decode cX10_oddsOf 123 = .ok (.ifCond .lt 7, 3) := by decide +kernel
theorem dX10_oddsOf_126 : decode cX10_oddsOf 126 = .ok (.iconst 1, 1) := by decide +kernel
theorem dX10_oddsOf_127 : decode cX10_oddsOf 127 = .ok (.goto 4, 3) := by decide +kernel
theorem dX10_oddsOf_130 : decode cX10_oddsOf 130 = .ok (.iconst 0, 1) := by decide +kernel
theorem dX10_oddsOf_131 : decode cX10_oddsOf 131 = .ok (.iadd, 1) := by decide +kernel
theorem dX10_oddsOf_132 : decode cX10_oddsOf 132 = .ok (.istore 8, 2) := by decide +kernel
theorem dX10_oddsOf_134 : decode cX10_oddsOf 134 = .ok (.aload_n 0, 1) := by decide +kernel
theorem dX10_oddsOf_135 : decode cX10_oddsOf 135 = .ok (.getfield 35, 3) := by decide +kernel
theorem dX10_oddsOf_138 : decode cX10_oddsOf 138 = .ok (.iload 9, 2) := by decide +kernel
theorem dX10_oddsOf_140 : decode cX10_oddsOf 140 = .ok (.dup2, 1) := by decide +kernel
theorem dX10_oddsOf_141 : decode cX10_oddsOf 141 = .ok (.iaload, 1) := by decide +kernel
theorem dX10_oddsOf_142 : decode cX10_oddsOf 142 = .ok (.iconst 1, 1) := by decide +kernel
theorem dX10_oddsOf_143 : decode cX10_oddsOf 143 = .ok (.iadd, 1) := by decide +kernel
theorem dX10_oddsOf_144 : decode cX10_oddsOf 144 = .ok (.iastore, 1) := by decide +kernel
theorem dX10_oddsOf_145 : decode cX10_oddsOf 145 = .ok (.iconst 0, 1) := by decide +kernel
theorem dX10_oddsOf_146 : decode cX10_oddsOf 146 = .ok (.istore 9, 2) := by decide +kernel
theorem dX10_oddsOf_148 : decode cX10_oddsOf 148 = .ok (.goto (-89), 3) := by decide +kernel
theorem dX10_oddsOf_151 : decode cX10_oddsOf 151 = .ok (.aload_n 0, 1) := by decide +kernel
theorem dX10_oddsOf_152 : decode cX10_oddsOf 152 = .ok (.getfield 35, 3) := by decide +kernel
theorem dX10_oddsOf_155 : decode cX10_oddsOf 155 = .ok (.iload 9, 2) := by decide +kernel
theorem dX10_oddsOf_157 : decode cX10_oddsOf 157 = .ok (.iconst 0, 1) := by decide +kernel
theorem dX10_oddsOf_158 : decode cX10_oddsOf 158 = .ok (.iastore, 1) := by decide +kernel
theorem dX10_oddsOf_159 : decode cX10_oddsOf 159 = .ok (.iinc 9 1, 3) := by decide +kernel
theorem dX10_oddsOf_162 : decode cX10_oddsOf 162 = .ok (.goto (-103), 3) := by decide +kernel
theorem dX10_oddsOf_165 : decode cX10_oddsOf 165 = .ok (.iload 8, 2) := by decide +kernel
theorem dX10_oddsOf_167 : decode cX10_oddsOf 167 = .ok (.i2l, 1) := by decide +kernel
theorem dX10_oddsOf_168 : decode cX10_oddsOf 168 = .ok (.iload 7, 2) := by decide +kernel
theorem dX10_oddsOf_170 : decode cX10_oddsOf 170 = .ok (.i2l, 1) := by decide +kernel
theorem dX10_oddsOf_171 : decode cX10_oddsOf 171 = .ok (.iload_n 3, 1) := by decide +kernel
theorem dX10_oddsOf_172 : decode cX10_oddsOf 172 = .ok (.invokestatic 169, 3) := by decide +kernel
theorem dX10_oddsOf_175 : decode cX10_oddsOf 175 = .ok (.lreturn, 1) := by decide +kernel
theorem dX10_odds_0 : decode cX10_odds 0 = .ok (.aload_n 0, 1) := by decide +kernel
theorem dX10_odds_1 : decode cX10_odds 1 = .ok (.iload_n 1, 1) := by decide +kernel
theorem dX10_odds_2 : decode cX10_odds 2 = .ok (.iload_n 2, 1) := by decide +kernel
theorem dX10_odds_3 : decode cX10_odds 3 = .ok (.iload_n 2, 1) := by decide +kernel
theorem dX10_odds_4 : decode cX10_odds 4 = .ok (.iload_n 3, 1) := by decide +kernel
theorem dX10_odds_5 : decode cX10_odds 5 = .ok (.invokevirtual 181, 3) := by decide +kernel
theorem dX10_odds_8 : decode cX10_odds 8 = .ok (.lreturn, 1) := by decide +kernel
theorem dX10_tried_0 : decode cX10_tried 0 = .ok (.iload_n 1, 1) := by decide +kernel
theorem dX10_tried_1 : decode cX10_tried 1 = .ok (.invokestatic 66, 3) := by decide +kernel
theorem dX10_tried_4 : decode cX10_tried 4 = .ok (.ifCond .ne 7, 3) := by decide +kernel
theorem dX10_tried_7 : decode cX10_tried 7 = .ok (.ldc2_w 147, 3) := by decide +kernel
theorem dX10_tried_10 : decode cX10_tried 10 = .ok (.lreturn, 1) := by decide +kernel
theorem dX10_tried_11 : decode cX10_tried 11 = .ok (.iload_n 2, 1) := by decide +kernel
theorem dX10_tried_12 : decode cX10_tried 12 = .ok (.invokestatic 149, 3) := by decide +kernel
theorem dX10_tried_15 : decode cX10_tried 15 = .ok (.ifCond .eq 23, 3) := by decide +kernel
theorem dX10_tried_18 : decode cX10_tried 18 = .ok (.iload_n 3, 1) := by decide +kernel
theorem dX10_tried_19 : decode cX10_tried 19 = .ok (.invokestatic 149, 3) := by decide +kernel
theorem dX10_tried_22 : decode cX10_tried 22 = .ok (.ifCond .eq 16, 3) := by decide +kernel
theorem dX10_tried_25 : decode cX10_tried 25 = .ok (.iload_n 2, 1) := by decide +kernel
theorem dX10_tried_26 : decode cX10_tried 26 = .ok (.iload_n 3, 1) := by decide +kernel
theorem dX10_tried_27 : decode cX10_tried 27 = .ok (.if_icmp .gt 11, 3) := by decide +kernel
theorem dX10_tried_30 : decode cX10_tried 30 = .ok (.iload 4, 2) := by decide +kernel
theorem dX10_tried_32 : decode cX10_tried 32 = .ok (.invokestatic 152, 3) := by decide +kernel
theorem dX10_tried_35 : decode cX10_tried 35 = .ok (.ifCond .ne 7, 3) := by decide +kernel
theorem dX10_tried_38 : decode cX10_tried 38 = .ok (.ldc2_w 155, 3) := by decide +kernel
theorem dX10_tried_41 : decode cX10_tried 41 = .ok (.lreturn, 1) := by decide +kernel
theorem dX10_tried_42 : decode cX10_tried 42 = .ok (.aload_n 0, 1) := by decide +kernel
theorem dX10_tried_43 : decode cX10_tried 43 = .ok (.invokevirtual 122, 3) := by decide +kernel
theorem dX10_tried_46 : decode cX10_tried 46 = .ok (.ifCond .lt 7, 3) := by decide +kernel
theorem dX10_tried_49 : decode cX10_tried 49 = .ok (.ldc2_w 157, 3) := by decide +kernel
theorem dX10_tried_52 : decode cX10_tried 52 = .ok (.lreturn, 1) := by decide +kernel
theorem dX10_tried_53 : decode cX10_tried 53 = .ok (.aload_n 0, 1) := by decide +kernel
theorem dX10_tried_54 : decode cX10_tried 54 = .ok (.iload_n 1, 1) := by decide +kernel
theorem dX10_tried_55 : decode cX10_tried 55 = .ok (.invokevirtual 127, 3) := by decide +kernel
theorem dX10_tried_58 : decode cX10_tried 58 = .ok (.aload_n 0, 1) := by decide +kernel
theorem dX10_tried_59 : decode cX10_tried 59 = .ok (.bipush 24, 2) := by decide +kernel
theorem dX10_tried_61 : decode cX10_tried 61 = .ok (.invokevirtual 159, 3) := by decide +kernel
theorem dX10_tried_64 : decode cX10_tried 64 = .ok (.aload_n 0, 1) := by decide +kernel
theorem dX10_tried_65 : decode cX10_tried 65 = .ok (.getfield 131, 3) := by decide +kernel
theorem dX10_tried_68 : decode cX10_tried 68 = .ok (.i2l, 1) := by decide +kernel
theorem dX10_tried_69 : decode cX10_tried 69 = .ok (.lconst 1, 1) := by decide +kernel
theorem dX10_tried_70 : decode cX10_tried 70 = .ok (.ldc2_w 185, 3) := by decide +kernel
theorem dX10_tried_73 : decode cX10_tried 73 = .ok (.invokestatic 58, 3) := by decide +kernel
theorem dX10_tried_76 : decode cX10_tried 76 = .ok (.ifCond .eq 14, 3) := by decide +kernel
theorem dX10_tried_79 : decode cX10_tried 79 = .ok (.aload_n 0, 1) := by decide +kernel
theorem dX10_tried_80 : decode cX10_tried 80 = .ok (.iload_n 2, 1) := by decide +kernel
theorem dX10_tried_81 : decode cX10_tried 81 = .ok (.iload_n 3, 1) := by decide +kernel
theorem dX10_tried_82 : decode cX10_tried 82 = .ok (.iload 4, 2) := by decide +kernel
theorem dX10_tried_84 : decode cX10_tried 84 = .ok (.invokevirtual 187, 3) := by decide +kernel
theorem dX10_tried_87 : decode cX10_tried 87 = .ok (.goto 6, 3) := by decide +kernel
theorem dX10_tried_90 : decode cX10_tried 90 = .ok (.ldc2_w 191, 3) := by decide +kernel
theorem dX10_tried_93 : decode cX10_tried 93 = .ok (.lreturn, 1) := by decide +kernel
theorem dX10_drawn_0 : decode cX10_drawn 0 = .ok (.iload_n 1, 1) := by decide +kernel
theorem dX10_drawn_1 : decode cX10_drawn 1 = .ok (.invokestatic 66, 3) := by decide +kernel
theorem dX10_drawn_4 : decode cX10_drawn 4 = .ok (.ifCond .ne 5, 3) := by decide +kernel
theorem dX10_drawn_7 : decode cX10_drawn 7 = .ok (.iconst (-1), 1) := by decide +kernel
theorem dX10_drawn_8 : decode cX10_drawn 8 = .ok (.ireturn, 1) := by decide +kernel
theorem dX10_drawn_9 : decode cX10_drawn 9 = .ok (.iload_n 2, 1) := by decide +kernel
theorem dX10_drawn_10 : decode cX10_drawn 10 = .ok (.invokestatic 149, 3) := by decide +kernel
theorem dX10_drawn_13 : decode cX10_drawn 13 = .ok (.ifCond .eq 28, 3) := by decide +kernel
theorem dX10_drawn_16 : decode cX10_drawn 16 = .ok (.iload_n 3, 1) := by decide +kernel
theorem dX10_drawn_17 : decode cX10_drawn 17 = .ok (.i2l, 1) := by decide +kernel
theorem dX10_drawn_18 : decode cX10_drawn 18 = .ok (.lconst 1, 1) := by decide +kernel
theorem dX10_drawn_19 : decode cX10_drawn 19 = .ok (.ldc2_w 193, 3) := by decide +kernel
theorem dX10_drawn_22 : decode cX10_drawn 22 = .ok (.invokestatic 58, 3) := by decide +kernel
theorem dX10_drawn_25 : decode cX10_drawn 25 = .ok (.ifCond .eq 16, 3) := by decide +kernel
theorem dX10_drawn_28 : decode cX10_drawn 28 = .ok (.iload 4, 2) := by decide +kernel
theorem dX10_drawn_30 : decode cX10_drawn 30 = .ok (.i2l, 1) := by decide +kernel
theorem dX10_drawn_31 : decode cX10_drawn 31 = .ok (.lconst 1, 1) := by decide +kernel
theorem dX10_drawn_32 : decode cX10_drawn 32 = .ok (.ldc2_w 195, 3) := by decide +kernel
theorem dX10_drawn_35 : decode cX10_drawn 35 = .ok (.invokestatic 58, 3) := by decide +kernel
theorem dX10_drawn_38 : decode cX10_drawn 38 = .ok (.ifCond .ne 6, 3) := by decide +kernel
theorem dX10_drawn_41 : decode cX10_drawn 41 = .ok (.bipush (-2), 2) := by decide +kernel
theorem dX10_drawn_43 : decode cX10_drawn 43 = .ok (.ireturn, 1) := by decide +kernel
theorem dX10_drawn_44 : decode cX10_drawn 44 = .ok (.aload_n 0, 1) := by decide +kernel
theorem dX10_drawn_45 : decode cX10_drawn 45 = .ok (.invokevirtual 122, 3) := by decide +kernel
theorem dX10_drawn_48 : decode cX10_drawn 48 = .ok (.ifCond .lt 6, 3) := by decide +kernel
theorem dX10_drawn_51 : decode cX10_drawn 51 = .ok (.bipush (-5), 2) := by decide +kernel
theorem dX10_drawn_53 : decode cX10_drawn 53 = .ok (.ireturn, 1) := by decide +kernel
theorem dX10_drawn_54 : decode cX10_drawn 54 = .ok (.aload_n 0, 1) := by decide +kernel
theorem dX10_drawn_55 : decode cX10_drawn 55 = .ok (.iload_n 1, 1) := by decide +kernel
theorem dX10_drawn_56 : decode cX10_drawn 56 = .ok (.invokevirtual 127, 3) := by decide +kernel
theorem dX10_drawn_59 : decode cX10_drawn 59 = .ok (.aload_n 0, 1) := by decide +kernel
theorem dX10_drawn_60 : decode cX10_drawn 60 = .ok (.bipush 24, 2) := by decide +kernel
theorem dX10_drawn_62 : decode cX10_drawn 62 = .ok (.invokevirtual 159, 3) := by decide +kernel
theorem dX10_drawn_65 : decode cX10_drawn 65 = .ok (.aload_n 0, 1) := by decide +kernel
theorem dX10_drawn_66 : decode cX10_drawn 66 = .ok (.iload_n 2, 1) := by decide +kernel
theorem dX10_drawn_67 : decode cX10_drawn 67 = .ok (.invokevirtual 165, 3) := by decide +kernel
theorem dX10_drawn_70 : decode cX10_drawn 70 = .ok (.lstore 5, 2) := by decide +kernel
theorem dX10_drawn_72 : decode cX10_drawn 72 = .ok (.aload_n 0, 1) := by decide +kernel
theorem dX10_drawn_73 : decode cX10_drawn 73 = .ok (.invokevirtual 162, 3) := by decide +kernel
theorem dX10_drawn_76 : decode cX10_drawn 76 = .ok (.lconst 0, 1) := by decide +kernel
theorem dX10_drawn_77 : decode cX10_drawn 77 = .ok (.lcmp, 1) := by decide +kernel
theorem dX10_drawn_78 : decode cX10_drawn 78 = .ok (.ifCond .ne 7, 3) := by decide +kernel
theorem dX10_drawn_81 : decode cX10_drawn 81 = .ok (.iconst 1, 1) := by decide +kernel
theorem dX10_drawn_82 : decode cX10_drawn 82 = .ok (.goto 4, 3) := by decide +kernel
theorem dX10_drawn_85 : decode cX10_drawn 85 = .ok (.iconst 0, 1) := by decide +kernel
theorem dX10_drawn_86 : decode cX10_drawn 86 = .ok (.istore 7, 2) := by decide +kernel
theorem dX10_drawn_88 : decode cX10_drawn 88 = .ok (.iload 4, 2) := by decide +kernel
theorem dX10_drawn_90 : decode cX10_drawn 90 = .ok (.i2l, 1) := by decide +kernel
theorem dX10_drawn_91 : decode cX10_drawn 91 = .ok (.lstore 8, 2) := by decide +kernel
theorem dX10_drawn_93 : decode cX10_drawn 93 = .ok (.iconst 0, 1) := by decide +kernel
theorem dX10_drawn_94 : decode cX10_drawn 94 = .ok (.istore 10, 2) := by decide +kernel
theorem dX10_drawn_96 : decode cX10_drawn 96 = .ok (.iconst 0, 1) := by decide +kernel
theorem dX10_drawn_97 : decode cX10_drawn 97 = .ok (.istore 11, 2) := by decide +kernel
theorem dX10_drawn_99 : decode cX10_drawn 99 = .ok (.iload 11, 2) := by decide +kernel
theorem dX10_drawn_101 : decode cX10_drawn 101 = .ok (.iload_n 3, 1) := by decide +kernel
theorem dX10_drawn_102 : decode cX10_drawn 102 = .ok (.if_icmp .ge 81, 3) := by decide +kernel
theorem dX10_drawn_105 : decode cX10_drawn 105 = .ok (.aload_n 0, 1) := by decide +kernel
theorem dX10_drawn_106 : decode cX10_drawn 106 = .ok (.getfield 131, 3) := by decide +kernel
theorem dX10_drawn_109 : decode cX10_drawn 109 = .ok (.iconst 1, 1) := by decide +kernel
theorem dX10_drawn_110 : decode cX10_drawn 110 = .ok (.isub, 1) := by decide +kernel
theorem dX10_drawn_111 : decode cX10_drawn 111 = .ok (.istore 12, 2) := by decide +kernel
theorem dX10_drawn_113 : decode cX10_drawn 113 = .ok (.iload 12, 2) := by decide +kernel
theorem dX10_drawn_115 : decode cX10_drawn 115 = .ok (.ifCond .le 36, 3) := by decide +kernel
theorem dX10_drawn_118 : decode cX10_drawn 118 = .ok (.lload 8, 2) := by decide +kernel
theorem dX10_drawn_120 : decode cX10_drawn 120 = .ok (.ldc2_w 197, 3) := by decide +kernel
theorem dX10_drawn_123 : decode cX10_drawn 123 = .ok (.lmul, 1) := by decide +kernel
theorem dX10_drawn_124 : decode cX10_drawn 124 = .ok (.ldc2_w 199, 3) := by decide +kernel
theorem dX10_drawn_127 : decode cX10_drawn 127 = .ok (.lrem, 1) := by decide +kernel
theorem dX10_drawn_128 : decode cX10_drawn 128 = .ok (.lstore 8, 2) := by decide +kernel
theorem dX10_drawn_130 : decode cX10_drawn 130 = .ok (.aload_n 0, 1) := by decide +kernel
theorem dX10_drawn_131 : decode cX10_drawn 131 = .ok (.iload 12, 2) := by decide +kernel
theorem dX10_drawn_133 : decode cX10_drawn 133 = .ok (.lload 8, 2) := by decide +kernel
theorem dX10_drawn_135 : decode cX10_drawn 135 = .ok (.iload 12, 2) := by decide +kernel
theorem dX10_drawn_137 : decode cX10_drawn 137 = .ok (.iconst 1, 1) := by decide +kernel
theorem dX10_drawn_138 : decode cX10_drawn 138 = .ok (.iadd, 1) := by decide +kernel
theorem dX10_drawn_139 : decode cX10_drawn 139 = .ok (.i2l, 1) := by decide +kernel
theorem dX10_drawn_140 : decode cX10_drawn 140 = .ok (.lrem, 1) := by decide +kernel
theorem dX10_drawn_141 : decode cX10_drawn 141 = .ok (.l2i, 1) := by decide +kernel
theorem dX10_drawn_142 : decode cX10_drawn 142 = .ok (.invokevirtual 177, 3) := by decide +kernel
theorem dX10_drawn_145 : decode cX10_drawn 145 = .ok (.iinc 12 (-1), 3) := by decide +kernel
theorem dX10_drawn_148 : decode cX10_drawn 148 = .ok (.goto (-35), 3) := by decide +kernel
theorem dX10_drawn_151 : decode cX10_drawn 151 = .ok (.iload 10, 2) := by decide +kernel
theorem dX10_drawn_153 : decode cX10_drawn 153 = .ok (.iload 7, 2) := by decide +kernel
theorem dX10_drawn_155 : decode cX10_drawn 155 = .ok (.ifCond .ne 14, 3) := by decide +kernel
theorem dX10_drawn_158 : decode cX10_drawn 158 = .ok (.aload_n 0, 1) := by decide +kernel
theorem dX10_drawn_159 : decode cX10_drawn 159 = .ok (.iload_n 2, 1) := by decide +kernel
theorem dX10_drawn_160 : decode cX10_drawn 160 = .ok (.invokevirtual 165, 3) := by decide +kernel
theorem dX10_drawn_163 : decode cX10_drawn 163 = .ok (.lload 5, 2) := by decide +kernel
theorem dX10_drawn_165 : decode cX10_drawn 165 = .ok (.lcmp, 1) := by decide +kernel
theorem dX10_drawn_166 : decode cX10_drawn 166 = .ok (.ifCond .lt 7, 3) := by decide +kernel
theorem dX10_drawn_169 : decode cX10_drawn 169 = .ok (.iconst 1, 1) := by decide +kernel
theorem dX10_drawn_170 : decode cX10_drawn 170 = .ok (.goto 4, 3) := by decide +kernel
theorem dX10_drawn_173 : decode cX10_drawn 173 = .ok (.iconst 0, 1) := by decide +kernel
theorem dX10_drawn_174 : decode cX10_drawn 174 = .ok (.iadd, 1) := by decide +kernel
theorem dX10_drawn_175 : decode cX10_drawn 175 = .ok (.istore 10, 2) := by decide +kernel
theorem dX10_drawn_177 : decode cX10_drawn 177 = .ok (.iinc 11 1, 3) := by decide +kernel
theorem dX10_drawn_180 : decode cX10_drawn 180 = .ok (.goto (-81), 3) := by decide +kernel
theorem dX10_drawn_183 : decode cX10_drawn 183 = .ok (.iload 10, 2) := by decide +kernel
theorem dX10_drawn_185 : decode cX10_drawn 185 = .ok (.ireturn, 1) := by decide +kernel
theorem dX10_findTogether_0 : decode cX10_findTogether 0 = .ok (.lconst 0, 1) := by decide +kernel
theorem dX10_findTogether_1 : decode cX10_findTogether 1 = .ok (.lstore_n 2, 1) := by decide +kernel
theorem dX10_findTogether_2 : decode cX10_findTogether 2 = .ok (.lconst 0, 1) := by decide +kernel
theorem dX10_findTogether_3 : decode cX10_findTogether 3 = .ok (.lstore 4, 2) := by decide +kernel
theorem dX10_findTogether_5 : decode cX10_findTogether 5 = .ok (.lconst 0, 1) := by decide +kernel
theorem dX10_findTogether_6 : decode cX10_findTogether 6 = .ok (.lstore 6, 2) := by decide +kernel
theorem dX10_findTogether_8 : decode cX10_findTogether 8 = .ok (.lconst 0, 1) := by decide +kernel
theorem dX10_findTogether_9 : decode cX10_findTogether 9 = .ok (.lstore 8, 2) := by decide +kernel
theorem dX10_findTogether_11 : decode cX10_findTogether 11 = .ok (.lconst 0, 1) := by decide +kernel
theorem dX10_findTogether_12 : decode cX10_findTogether 12 = .ok (.lstore 10, 2) := by decide +kernel
theorem dX10_findTogether_14 : decode cX10_findTogether 14 = .ok (.lconst 0, 1) := by decide +kernel
theorem dX10_findTogether_15 : decode cX10_findTogether 15 = .ok (.lstore 12, 2) := by decide +kernel
theorem dX10_findTogether_17 : decode cX10_findTogether 17 = .ok (.iconst 0, 1) := by decide +kernel
theorem dX10_findTogether_18 : decode cX10_findTogether 18 = .ok (.istore 14, 2) := by decide +kernel
theorem dX10_findTogether_20 : decode cX10_findTogether 20 = .ok (.iload 14, 2) := by decide +kernel
theorem dX10_findTogether_22 : decode cX10_findTogether 22 = .ok (.bipush 24, 2) := by decide +kernel
theorem dX10_findTogether_24 : decode cX10_findTogether 24 = .ok (.if_icmp .ge 105, 3) := by decide +kernel
theorem dX10_findTogether_27 : decode cX10_findTogether 27 = .ok (.aload_n 0, 1) := by decide +kernel
theorem dX10_findTogether_28 : decode cX10_findTogether 28 = .ok (.getfield 38, 3) := by decide +kernel
theorem dX10_findTogether_31 : decode cX10_findTogether 31 = .ok (.iload 14, 2) := by decide +kernel
theorem dX10_findTogether_33 : decode cX10_findTogether 33 = .ok (.iaload, 1) := by decide +kernel
theorem dX10_findTogether_34 : decode cX10_findTogether 34 = .ok (.istore 15, 2) := by decide +kernel
theorem dX10_findTogether_36 : decode cX10_findTogether 36 = .ok (.aload_n 0, 1) := by decide +kernel
theorem dX10_findTogether_37 : decode cX10_findTogether 37 = .ok (.getfield 16, 3) := by decide +kernel
theorem dX10_findTogether_40 : decode cX10_findTogether 40 = .ok (.iload 14, 2) := by decide +kernel
theorem dX10_findTogether_42 : decode cX10_findTogether 42 = .ok (.iload_n 1, 1) := by decide +kernel
theorem dX10_findTogether_43 : decode cX10_findTogether 43 = .ok (.isub, 1) := by decide +kernel
theorem dX10_findTogether_44 : decode cX10_findTogether 44 = .ok (.bipush 24, 2) := by decide +kernel
theorem dX10_findTogether_46 : decode cX10_findTogether 46 = .ok (.iadd, 1) := by decide +kernel
theorem dX10_findTogether_47 : decode cX10_findTogether 47 = .ok (.bipush 24, 2) := by decide +kernel
theorem dX10_findTogether_49 : decode cX10_findTogether 49 = .ok (.irem, 1) := by decide +kernel
theorem dX10_findTogether_50 : decode cX10_findTogether 50 = .ok (.iaload, 1) := by decide +kernel
theorem dX10_findTogether_51 : decode cX10_findTogether 51 = .ok (.istore 16, 2) := by decide +kernel
theorem dX10_findTogether_53 : decode cX10_findTogether 53 = .ok (.iload 15, 2) := by decide +kernel
theorem dX10_findTogether_55 : decode cX10_findTogether 55 = .ok (.ldc 53, 2) := by decide +kernel
theorem dX10_findTogether_57 : decode cX10_findTogether 57 = .ok (.if_icmp .eq 66, 3) := by decide +kernel
theorem dX10_findTogether_60 : decode cX10_findTogether 60 = .ok (.iload 16, 2) := by decide +kernel
theorem dX10_findTogether_62 : decode cX10_findTogether 62 = .ok (.ldc 53, 2) := by decide +kernel
theorem dX10_findTogether_64 : decode cX10_findTogether 64 = .ok (.if_icmp .eq 59, 3) := by decide +kernel
theorem dX10_findTogether_67 : decode cX10_findTogether 67 = .ok (.lload_n 2, 1) := by decide +kernel
theorem dX10_findTogether_68 : decode cX10_findTogether 68 = .ok (.lconst 1, 1) := by decide +kernel
theorem dX10_findTogether_69 : decode cX10_findTogether 69 = .ok (.ladd, 1) := by decide +kernel
theorem dX10_findTogether_70 : decode cX10_findTogether 70 = .ok (.lstore_n 2, 1) := by decide +kernel
theorem dX10_findTogether_71 : decode cX10_findTogether 71 = .ok (.lload 4, 2) := by decide +kernel
theorem dX10_findTogether_73 : decode cX10_findTogether 73 = .ok (.iload 15, 2) := by decide +kernel
theorem dX10_findTogether_75 : decode cX10_findTogether 75 = .ok (.i2l, 1) := by decide +kernel
theorem dX10_findTogether_76 : decode cX10_findTogether 76 = .ok (.ladd, 1) := by decide +kernel
theorem dX10_findTogether_77 : decode cX10_findTogether 77 = .ok (.lstore 4, 2) := by decide +kernel
theorem dX10_findTogether_79 : decode cX10_findTogether 79 = .ok (.lload 6, 2) := by decide +kernel
theorem dX10_findTogether_81 : decode cX10_findTogether 81 = .ok (.iload 16, 2) := by decide +kernel
theorem dX10_findTogether_83 : decode cX10_findTogether 83 = .ok (.i2l, 1) := by decide +kernel
theorem dX10_findTogether_84 : decode cX10_findTogether 84 = .ok (.ladd, 1) := by decide +kernel
theorem dX10_findTogether_85 : decode cX10_findTogether 85 = .ok (.lstore 6, 2) := by decide +kernel
theorem dX10_findTogether_87 : decode cX10_findTogether 87 = .ok (.lload 8, 2) := by decide +kernel
theorem dX10_findTogether_89 : decode cX10_findTogether 89 = .ok (.iload 15, 2) := by decide +kernel
theorem dX10_findTogether_91 : decode cX10_findTogether 91 = .ok (.i2l, 1) := by decide +kernel
theorem dX10_findTogether_92 : decode cX10_findTogether 92 = .ok (.iload 15, 2) := by decide +kernel
theorem dX10_findTogether_94 : decode cX10_findTogether 94 = .ok (.i2l, 1) := by decide +kernel
theorem dX10_findTogether_95 : decode cX10_findTogether 95 = .ok (.lmul, 1) := by decide +kernel
theorem dX10_findTogether_96 : decode cX10_findTogether 96 = .ok (.ladd, 1) := by decide +kernel
theorem dX10_findTogether_97 : decode cX10_findTogether 97 = .ok (.lstore 8, 2) := by decide +kernel
theorem dX10_findTogether_99 : decode cX10_findTogether 99 = .ok (.lload 10, 2) := by decide +kernel
theorem dX10_findTogether_101 : decode cX10_findTogether 101 = .ok (.iload 16, 2) := by decide +kernel
theorem dX10_findTogether_103 : decode cX10_findTogether 103 = .ok (.i2l, 1) := by decide +kernel
theorem dX10_findTogether_104 : decode cX10_findTogether 104 = .ok (.iload 16, 2) := by decide +kernel
theorem dX10_findTogether_106 : decode cX10_findTogether 106 = .ok (.i2l, 1) := by decide +kernel
theorem dX10_findTogether_107 : decode cX10_findTogether 107 = .ok (.lmul, 1) := by decide +kernel
theorem dX10_findTogether_108 : decode cX10_findTogether 108 = .ok (.ladd, 1) := by decide +kernel
theorem dX10_findTogether_109 : decode cX10_findTogether 109 = .ok (.lstore 10, 2) := by decide +kernel
theorem dX10_findTogether_111 : decode cX10_findTogether 111 = .ok (.lload 12, 2) := by decide +kernel
theorem dX10_findTogether_113 : decode cX10_findTogether 113 = .ok (.iload 15, 2) := by decide +kernel
theorem dX10_findTogether_115 : decode cX10_findTogether 115 = .ok (.i2l, 1) := by decide +kernel
theorem dX10_findTogether_116 : decode cX10_findTogether 116 = .ok (.iload 16, 2) := by decide +kernel
theorem dX10_findTogether_118 : decode cX10_findTogether 118 = .ok (.i2l, 1) := by decide +kernel
theorem dX10_findTogether_119 : decode cX10_findTogether 119 = .ok (.lmul, 1) := by decide +kernel
theorem dX10_findTogether_120 : decode cX10_findTogether 120 = .ok (.ladd, 1) := by decide +kernel
theorem dX10_findTogether_121 : decode cX10_findTogether 121 = .ok (.lstore 12, 2) := by decide +kernel
theorem dX10_findTogether_123 : decode cX10_findTogether 123 = .ok (.iinc 14 1, 3) := by decide +kernel
theorem dX10_findTogether_126 : decode cX10_findTogether 126 = .ok (.goto (-106), 3) := by decide +kernel
theorem dX10_findTogether_129 : decode cX10_findTogether 129 = .ok (.aload_n 0, 1) := by decide +kernel
theorem dX10_findTogether_130 : decode cX10_findTogether 130 = .ok (.lload_n 2, 1) := by decide +kernel
theorem dX10_findTogether_131 : decode cX10_findTogether 131 = .ok (.lload 12, 2) := by decide +kernel
theorem dX10_findTogether_133 : decode cX10_findTogether 133 = .ok (.lmul, 1) := by decide +kernel
theorem dX10_findTogether_134 : decode cX10_findTogether 134 = .ok (.lload 4, 2) := by decide +kernel
theorem dX10_findTogether_136 : decode cX10_findTogether 136 = .ok (.lload 6, 2) := by decide +kernel
theorem dX10_findTogether_138 : decode cX10_findTogether 138 = .ok (.lmul, 1) := by decide +kernel
theorem dX10_findTogether_139 : decode cX10_findTogether 139 = .ok (.lsub, 1) := by decide +kernel
theorem dX10_findTogether_140 : decode cX10_findTogether 140 = .ok (.lload_n 2, 1) := by decide +kernel
theorem dX10_findTogether_141 : decode cX10_findTogether 141 = .ok (.lload 12, 2) := by decide +kernel
theorem dX10_findTogether_143 : decode cX10_findTogether 143 = .ok (.lmul, 1) := by decide +kernel
theorem dX10_findTogether_144 : decode cX10_findTogether 144 = .ok (.lload 4, 2) := by decide +kernel
theorem dX10_findTogether_146 : decode cX10_findTogether 146 = .ok (.lload 6, 2) := by decide +kernel
theorem dX10_findTogether_148 : decode cX10_findTogether 148 = .ok (.lmul, 1) := by decide +kernel
theorem dX10_findTogether_149 : decode cX10_findTogether 149 = .ok (.lsub, 1) := by decide +kernel
theorem dX10_findTogether_150 : decode cX10_findTogether 150 = .ok (.lmul, 1) := by decide +kernel
theorem dX10_findTogether_151 : decode cX10_findTogether 151 = .ok (.putfield 201, 3) := by decide +kernel
theorem dX10_findTogether_154 : decode cX10_findTogether 154 = .ok (.aload_n 0, 1) := by decide +kernel
theorem dX10_findTogether_155 : decode cX10_findTogether 155 = .ok (.lload_n 2, 1) := by decide +kernel
theorem dX10_findTogether_156 : decode cX10_findTogether 156 = .ok (.lload 8, 2) := by decide +kernel
theorem dX10_findTogether_158 : decode cX10_findTogether 158 = .ok (.lmul, 1) := by decide +kernel
theorem dX10_findTogether_159 : decode cX10_findTogether 159 = .ok (.lload 4, 2) := by decide +kernel
theorem dX10_findTogether_161 : decode cX10_findTogether 161 = .ok (.lload 4, 2) := by decide +kernel
theorem dX10_findTogether_163 : decode cX10_findTogether 163 = .ok (.lmul, 1) := by decide +kernel
theorem dX10_findTogether_164 : decode cX10_findTogether 164 = .ok (.lsub, 1) := by decide +kernel
theorem dX10_findTogether_165 : decode cX10_findTogether 165 = .ok (.lload_n 2, 1) := by decide +kernel
theorem dX10_findTogether_166 : decode cX10_findTogether 166 = .ok (.lload 10, 2) := by decide +kernel
theorem dX10_findTogether_168 : decode cX10_findTogether 168 = .ok (.lmul, 1) := by decide +kernel
theorem dX10_findTogether_169 : decode cX10_findTogether 169 = .ok (.lload 6, 2) := by decide +kernel
theorem dX10_findTogether_171 : decode cX10_findTogether 171 = .ok (.lload 6, 2) := by decide +kernel
theorem dX10_findTogether_173 : decode cX10_findTogether 173 = .ok (.lmul, 1) := by decide +kernel
theorem dX10_findTogether_174 : decode cX10_findTogether 174 = .ok (.lsub, 1) := by decide +kernel
theorem dX10_findTogether_175 : decode cX10_findTogether 175 = .ok (.lmul, 1) := by decide +kernel
theorem dX10_findTogether_176 : decode cX10_findTogether 176 = .ok (.putfield 205, 3) := by decide +kernel
theorem dX10_findTogether_179 : decode cX10_findTogether 179 = .ok (.aload_n 0, 1) := by decide +kernel
theorem dX10_findTogether_180 : decode cX10_findTogether 180 = .ok (.getfield 205, 3) := by decide +kernel
theorem dX10_findTogether_183 : decode cX10_findTogether 183 = .ok (.lconst 0, 1) := by decide +kernel
theorem dX10_findTogether_184 : decode cX10_findTogether 184 = .ok (.lcmp, 1) := by decide +kernel
theorem dX10_findTogether_185 : decode cX10_findTogether 185 = .ok (.ifCond .ne 13, 3) := by decide +kernel
theorem dX10_findTogether_188 : decode cX10_findTogether 188 = .ok (.aload_n 0, 1) := by decide +kernel
theorem dX10_findTogether_189 : decode cX10_findTogether 189 = .ok (.lconst 0, 1) := by decide +kernel
theorem dX10_findTogether_190 : decode cX10_findTogether 190 = .ok (.putfield 201, 3) := by decide +kernel
theorem dX10_findTogether_193 : decode cX10_findTogether 193 = .ok (.aload_n 0, 1) := by decide +kernel
theorem dX10_findTogether_194 : decode cX10_findTogether 194 = .ok (.lconst 1, 1) := by decide +kernel
theorem dX10_findTogether_195 : decode cX10_findTogether 195 = .ok (.putfield 205, 3) := by decide +kernel
theorem dX10_findTogether_198 : decode cX10_findTogether 198 = .ok (.return_, 1) := by decide +kernel
theorem dX10_dealBoth_0 : decode cX10_dealBoth 0 = .ok (.aload_n 0, 1) := by decide +kernel
theorem dX10_dealBoth_1 : decode cX10_dealBoth 1 = .ok (.iload_n 1, 1) := by decide +kernel
theorem dX10_dealBoth_2 : decode cX10_dealBoth 2 = .ok (.invokevirtual 127, 3) := by decide +kernel
theorem dX10_dealBoth_5 : decode cX10_dealBoth 5 = .ok (.iconst 0, 1) := by decide +kernel
theorem dX10_dealBoth_6 : decode cX10_dealBoth 6 = .ok (.istore_n 3, 1) := by decide +kernel
theorem dX10_dealBoth_7 : decode cX10_dealBoth 7 = .ok (.iload_n 3, 1) := by decide +kernel
theorem dX10_dealBoth_8 : decode cX10_dealBoth 8 = .ok (.bipush 24, 2) := by decide +kernel
theorem dX10_dealBoth_10 : decode cX10_dealBoth 10 = .ok (.if_icmp .ge 21, 3) := by decide +kernel
theorem dX10_dealBoth_13 : decode cX10_dealBoth 13 = .ok (.aload_n 0, 1) := by decide +kernel
theorem dX10_dealBoth_14 : decode cX10_dealBoth 14 = .ok (.getfield 38, 3) := by decide +kernel
theorem dX10_dealBoth_17 : decode cX10_dealBoth 17 = .ok (.iload_n 3, 1) := by decide +kernel
theorem dX10_dealBoth_18 : decode cX10_dealBoth 18 = .ok (.aload_n 0, 1) := by decide +kernel
theorem dX10_dealBoth_19 : decode cX10_dealBoth 19 = .ok (.getfield 16, 3) := by decide +kernel
theorem dX10_dealBoth_22 : decode cX10_dealBoth 22 = .ok (.iload_n 3, 1) := by decide +kernel
theorem dX10_dealBoth_23 : decode cX10_dealBoth 23 = .ok (.iaload, 1) := by decide +kernel
theorem dX10_dealBoth_24 : decode cX10_dealBoth 24 = .ok (.iastore, 1) := by decide +kernel
theorem dX10_dealBoth_25 : decode cX10_dealBoth 25 = .ok (.iinc 3 1, 3) := by decide +kernel
theorem dX10_dealBoth_28 : decode cX10_dealBoth 28 = .ok (.goto (-21), 3) := by decide +kernel
theorem dX10_dealBoth_31 : decode cX10_dealBoth 31 = .ok (.aload_n 0, 1) := by decide +kernel
theorem dX10_dealBoth_32 : decode cX10_dealBoth 32 = .ok (.iload_n 2, 1) := by decide +kernel
theorem dX10_dealBoth_33 : decode cX10_dealBoth 33 = .ok (.invokevirtual 127, 3) := by decide +kernel
theorem dX10_dealBoth_36 : decode cX10_dealBoth 36 = .ok (.return_, 1) := by decide +kernel
theorem dX10_together_0 : decode cX10_together 0 = .ok (.iload_n 1, 1) := by decide +kernel
theorem dX10_together_1 : decode cX10_together 1 = .ok (.invokestatic 66, 3) := by decide +kernel
theorem dX10_together_4 : decode cX10_together 4 = .ok (.ifCond .eq 10, 3) := by decide +kernel
theorem dX10_together_7 : decode cX10_together 7 = .ok (.iload_n 2, 1) := by decide +kernel
theorem dX10_together_8 : decode cX10_together 8 = .ok (.invokestatic 66, 3) := by decide +kernel
theorem dX10_together_11 : decode cX10_together 11 = .ok (.ifCond .ne 7, 3) := by decide +kernel
theorem dX10_together_14 : decode cX10_together 14 = .ok (.ldc2_w 147, 3) := by decide +kernel
theorem dX10_together_17 : decode cX10_together 17 = .ok (.lreturn, 1) := by decide +kernel
theorem dX10_together_18 : decode cX10_together 18 = .ok (.iload_n 3, 1) := by decide +kernel
theorem dX10_together_19 : decode cX10_together 19 = .ok (.invokestatic 71, 3) := by decide +kernel
theorem dX10_together_22 : decode cX10_together 22 = .ok (.ifCond .eq 11, 3) := by decide +kernel
theorem dX10_together_25 : decode cX10_together 25 = .ok (.iload 4, 2) := by decide +kernel
theorem dX10_together_27 : decode cX10_together 27 = .ok (.invokestatic 152, 3) := by decide +kernel
theorem dX10_together_30 : decode cX10_together 30 = .ok (.ifCond .ne 7, 3) := by decide +kernel
theorem dX10_together_33 : decode cX10_together 33 = .ok (.ldc2_w 155, 3) := by decide +kernel
theorem dX10_together_36 : decode cX10_together 36 = .ok (.lreturn, 1) := by decide +kernel
theorem dX10_together_37 : decode cX10_together 37 = .ok (.aload_n 0, 1) := by decide +kernel
theorem dX10_together_38 : decode cX10_together 38 = .ok (.invokevirtual 122, 3) := by decide +kernel
theorem dX10_together_41 : decode cX10_together 41 = .ok (.ifCond .lt 7, 3) := by decide +kernel
theorem dX10_together_44 : decode cX10_together 44 = .ok (.ldc2_w 157, 3) := by decide +kernel
theorem dX10_together_47 : decode cX10_together 47 = .ok (.lreturn, 1) := by decide +kernel
theorem dX10_together_48 : decode cX10_together 48 = .ok (.aload_n 0, 1) := by decide +kernel
theorem dX10_together_49 : decode cX10_together 49 = .ok (.iload_n 1, 1) := by decide +kernel
theorem dX10_together_50 : decode cX10_together 50 = .ok (.iload_n 2, 1) := by decide +kernel
theorem dX10_together_51 : decode cX10_together 51 = .ok (.invokevirtual 208, 3) := by decide +kernel
theorem dX10_together_54 : decode cX10_together 54 = .ok (.aload_n 0, 1) := by decide +kernel
theorem dX10_together_55 : decode cX10_together 55 = .ok (.iload_n 3, 1) := by decide +kernel
theorem dX10_together_56 : decode cX10_together 56 = .ok (.invokevirtual 211, 3) := by decide +kernel
theorem dX10_together_59 : decode cX10_together 59 = .ok (.aload_n 0, 1) := by decide +kernel
theorem dX10_together_60 : decode cX10_together 60 = .ok (.getfield 201, 3) := by decide +kernel
theorem dX10_together_63 : decode cX10_together 63 = .ok (.aload_n 0, 1) := by decide +kernel
theorem dX10_together_64 : decode cX10_together 64 = .ok (.getfield 205, 3) := by decide +kernel
theorem dX10_together_67 : decode cX10_together 67 = .ok (.iload 4, 2) := by decide +kernel
theorem dX10_together_69 : decode cX10_together 69 = .ok (.invokestatic 169, 3) := by decide +kernel
theorem dX10_together_72 : decode cX10_together 72 = .ok (.lreturn, 1) := by decide +kernel
theorem dX10_isLess_0 : decode cX10_isLess 0 = .ok (.lload_n 0, 1) := by decide +kernel
theorem dX10_isLess_1 : decode cX10_isLess 1 = .ok (.lstore 8, 2) := by decide +kernel
theorem dX10_isLess_3 : decode cX10_isLess 3 = .ok (.lload_n 2, 1) := by decide +kernel
theorem dX10_isLess_4 : decode cX10_isLess 4 = .ok (.lstore 10, 2) := by decide +kernel
theorem dX10_isLess_6 : decode cX10_isLess 6 = .ok (.lload 4, 2) := by decide +kernel
theorem dX10_isLess_8 : decode cX10_isLess 8 = .ok (.lstore 12, 2) := by decide +kernel
theorem dX10_isLess_10 : decode cX10_isLess 10 = .ok (.lload 6, 2) := by decide +kernel
theorem dX10_isLess_12 : decode cX10_isLess 12 = .ok (.lstore 14, 2) := by decide +kernel
theorem dX10_isLess_14 : decode cX10_isLess 14 = .ok (.iconst 0, 1) := by decide +kernel
theorem dX10_isLess_15 : decode cX10_isLess 15 = .ok (.istore 16, 2) := by decide +kernel
theorem dX10_isLess_17 : decode cX10_isLess 17 = .ok (.lload 8, 2) := by decide +kernel
theorem dX10_isLess_19 : decode cX10_isLess 19 = .ok (.lload 10, 2) := by decide +kernel
theorem dX10_isLess_21 : decode cX10_isLess 21 = .ok (.ldiv, 1) := by decide +kernel
theorem dX10_isLess_22 : decode cX10_isLess 22 = .ok (.lload 12, 2) := by decide +kernel
theorem dX10_isLess_24 : decode cX10_isLess 24 = .ok (.lload 14, 2) := by decide +kernel
theorem dX10_isLess_26 : decode cX10_isLess 26 = .ok (.ldiv, 1) := by decide +kernel
theorem dX10_isLess_27 : decode cX10_isLess 27 = .ok (.lcmp, 1) := by decide +kernel
theorem dX10_isLess_28 : decode cX10_isLess 28 = .ok (.ifCond .ne 68, 3) := by decide +kernel
theorem dX10_isLess_31 : decode cX10_isLess 31 = .ok (.lload 8, 2) := by decide +kernel
theorem dX10_isLess_33 : decode cX10_isLess 33 = .ok (.lload 10, 2) := by decide +kernel
theorem dX10_isLess_35 : decode cX10_isLess 35 = .ok (.lrem, 1) := by decide +kernel
theorem dX10_isLess_36 : decode cX10_isLess 36 = .ok (.lconst 0, 1) := by decide +kernel
theorem dX10_isLess_37 : decode cX10_isLess 37 = .ok (.lcmp, 1) := by decide +kernel
theorem dX10_isLess_38 : decode cX10_isLess 38 = .ok (.ifCond .eq 58, 3) := by decide +kernel
theorem dX10_isLess_41 : decode cX10_isLess 41 = .ok (.lload 12, 2) := by decide +kernel
theorem dX10_isLess_43 : decode cX10_isLess 43 = .ok (.lload 14, 2) := by decide +kernel
theorem dX10_isLess_45 : decode cX10_isLess 45 = .ok (.lrem, 1) := by decide +kernel
theorem dX10_isLess_46 : decode cX10_isLess 46 = .ok (.lconst 0, 1) := by decide +kernel
theorem dX10_isLess_47 : decode cX10_isLess 47 = .ok (.lcmp, 1) := by decide +kernel
theorem dX10_isLess_48 : decode cX10_isLess 48 = .ok (.ifCond .eq 48, 3) := by decide +kernel
theorem dX10_isLess_51 : decode cX10_isLess 51 = .ok (.lload 8, 2) := by decide +kernel
theorem dX10_isLess_53 : decode cX10_isLess 53 = .ok (.lload 10, 2) := by decide +kernel
theorem dX10_isLess_55 : decode cX10_isLess 55 = .ok (.lrem, 1) := by decide +kernel
theorem dX10_isLess_56 : decode cX10_isLess 56 = .ok (.lstore 17, 2) := by decide +kernel
theorem dX10_isLess_58 : decode cX10_isLess 58 = .ok (.lload 12, 2) := by decide +kernel
theorem dX10_isLess_60 : decode cX10_isLess 60 = .ok (.lload 14, 2) := by decide +kernel
theorem dX10_isLess_62 : decode cX10_isLess 62 = .ok (.lrem, 1) := by decide +kernel
theorem dX10_isLess_63 : decode cX10_isLess 63 = .ok (.lstore 19, 2) := by decide +kernel
theorem dX10_isLess_65 : decode cX10_isLess 65 = .ok (.lload 10, 2) := by decide +kernel
theorem dX10_isLess_67 : decode cX10_isLess 67 = .ok (.lstore 8, 2) := by decide +kernel
theorem dX10_isLess_69 : decode cX10_isLess 69 = .ok (.lload 17, 2) := by decide +kernel
theorem dX10_isLess_71 : decode cX10_isLess 71 = .ok (.lstore 10, 2) := by decide +kernel
theorem dX10_isLess_73 : decode cX10_isLess 73 = .ok (.lload 14, 2) := by decide +kernel
theorem dX10_isLess_75 : decode cX10_isLess 75 = .ok (.lstore 12, 2) := by decide +kernel
theorem dX10_isLess_77 : decode cX10_isLess 77 = .ok (.lload 19, 2) := by decide +kernel
theorem dX10_isLess_79 : decode cX10_isLess 79 = .ok (.lstore 14, 2) := by decide +kernel
theorem dX10_isLess_81 : decode cX10_isLess 81 = .ok (.iload 16, 2) := by decide +kernel
theorem dX10_isLess_83 : decode cX10_isLess 83 = .ok (.ifCond .ne 7, 3) := by decide +kernel
theorem dX10_isLess_86 : decode cX10_isLess 86 = .ok (.iconst 1, 1) := by decide +kernel
theorem dX10_isLess_87 : decode cX10_isLess 87 = .ok (.goto 4, 3) := by decide +kernel
theorem dX10_isLess_90 : decode cX10_isLess 90 = .ok (.iconst 0, 1) := by decide +kernel
theorem dX10_isLess_91 : decode cX10_isLess 91 = .ok (.istore 16, 2) := by decide +kernel
theorem dX10_isLess_93 : decode cX10_isLess 93 = .ok (.goto (-76), 3) := by decide +kernel
theorem dX10_isLess_96 : decode cX10_isLess 96 = .ok (.lload 8, 2) := by decide +kernel
theorem dX10_isLess_98 : decode cX10_isLess 98 = .ok (.lload 10, 2) := by decide +kernel
theorem dX10_isLess_100 : decode cX10_isLess 100 = .ok (.ldiv, 1) := by decide +kernel
theorem dX10_isLess_101 : decode cX10_isLess 101 = .ok (.lload 12, 2) := by decide +kernel
theorem dX10_isLess_103 : decode cX10_isLess 103 = .ok (.lload 14, 2) := by decide +kernel
theorem dX10_isLess_105 : decode cX10_isLess 105 = .ok (.ldiv, 1) := by decide +kernel
theorem dX10_isLess_106 : decode cX10_isLess 106 = .ok (.lcmp, 1) := by decide +kernel
theorem dX10_isLess_107 : decode cX10_isLess 107 = .ok (.ifCond .eq 25, 3) := by decide +kernel
theorem dX10_isLess_110 : decode cX10_isLess 110 = .ok (.lload 8, 2) := by decide +kernel
theorem dX10_isLess_112 : decode cX10_isLess 112 = .ok (.lload 10, 2) := by decide +kernel
theorem dX10_isLess_114 : decode cX10_isLess 114 = .ok (.ldiv, 1) := by decide +kernel
theorem dX10_isLess_115 : decode cX10_isLess 115 = .ok (.lload 12, 2) := by decide +kernel
theorem dX10_isLess_117 : decode cX10_isLess 117 = .ok (.lload 14, 2) := by decide +kernel
theorem dX10_isLess_119 : decode cX10_isLess 119 = .ok (.ldiv, 1) := by decide +kernel
theorem dX10_isLess_120 : decode cX10_isLess 120 = .ok (.lcmp, 1) := by decide +kernel
theorem dX10_isLess_121 : decode cX10_isLess 121 = .ok (.ifCond .ge 7, 3) := by decide +kernel
theorem dX10_isLess_124 : decode cX10_isLess 124 = .ok (.iconst 1, 1) := by decide +kernel
theorem dX10_isLess_125 : decode cX10_isLess 125 = .ok (.goto 32, 3) := by decide +kernel
theorem dX10_isLess_128 : decode cX10_isLess 128 = .ok (.iconst 0, 1) := by decide +kernel
theorem dX10_isLess_129 : decode cX10_isLess 129 = .ok (.goto 28, 3) := by decide +kernel
theorem dX10_isLess_132 : decode cX10_isLess 132 = .ok (.lload 8, 2) := by decide +kernel
theorem dX10_isLess_134 : decode cX10_isLess 134 = .ok (.lload 10, 2) := by decide +kernel
theorem dX10_isLess_136 : decode cX10_isLess 136 = .ok (.lrem, 1) := by decide +kernel
theorem dX10_isLess_137 : decode cX10_isLess 137 = .ok (.lconst 0, 1) := by decide +kernel
theorem dX10_isLess_138 : decode cX10_isLess 138 = .ok (.lcmp, 1) := by decide +kernel
theorem dX10_isLess_139 : decode cX10_isLess 139 = .ok (.ifCond .ne 17, 3) := by decide +kernel
theorem dX10_isLess_142 : decode cX10_isLess 142 = .ok (.lload 12, 2) := by decide +kernel
theorem dX10_isLess_144 : decode cX10_isLess 144 = .ok (.lload 14, 2) := by decide +kernel
theorem dX10_isLess_146 : decode cX10_isLess 146 = .ok (.lrem, 1) := by decide +kernel
theorem dX10_isLess_147 : decode cX10_isLess 147 = .ok (.lconst 0, 1) := by decide +kernel
theorem dX10_isLess_148 : decode cX10_isLess 148 = .ok (.lcmp, 1) := by decide +kernel
theorem dX10_isLess_149 : decode cX10_isLess 149 = .ok (.ifCond .eq 7, 3) := by decide +kernel
theorem dX10_isLess_152 : decode cX10_isLess 152 = .ok (.iconst 1, 1) := by decide +kernel
theorem dX10_isLess_153 : decode cX10_isLess 153 = .ok (.goto 4, 3) := by decide +kernel
theorem dX10_isLess_156 : decode cX10_isLess 156 = .ok (.iconst 0, 1) := by decide +kernel
theorem dX10_isLess_157 : decode cX10_isLess 157 = .ok (.istore 17, 2) := by decide +kernel
theorem dX10_isLess_159 : decode cX10_isLess 159 = .ok (.lload 8, 2) := by decide +kernel
theorem dX10_isLess_161 : decode cX10_isLess 161 = .ok (.lload 10, 2) := by decide +kernel
theorem dX10_isLess_163 : decode cX10_isLess 163 = .ok (.ldiv, 1) := by decide +kernel
theorem dX10_isLess_164 : decode cX10_isLess 164 = .ok (.lload 12, 2) := by decide +kernel
theorem dX10_isLess_166 : decode cX10_isLess 166 = .ok (.lload 14, 2) := by decide +kernel
theorem dX10_isLess_168 : decode cX10_isLess 168 = .ok (.ldiv, 1) := by decide +kernel
theorem dX10_isLess_169 : decode cX10_isLess 169 = .ok (.lcmp, 1) := by decide +kernel
theorem dX10_isLess_170 : decode cX10_isLess 170 = .ok (.ifCond .eq 25, 3) := by decide +kernel
theorem dX10_isLess_173 : decode cX10_isLess 173 = .ok (.lload 8, 2) := by decide +kernel
theorem dX10_isLess_175 : decode cX10_isLess 175 = .ok (.lload 10, 2) := by decide +kernel
theorem dX10_isLess_177 : decode cX10_isLess 177 = .ok (.ldiv, 1) := by decide +kernel
theorem dX10_isLess_178 : decode cX10_isLess 178 = .ok (.lload 12, 2) := by decide +kernel
theorem dX10_isLess_180 : decode cX10_isLess 180 = .ok (.lload 14, 2) := by decide +kernel
theorem dX10_isLess_182 : decode cX10_isLess 182 = .ok (.ldiv, 1) := by decide +kernel
theorem dX10_isLess_183 : decode cX10_isLess 183 = .ok (.lcmp, 1) := by decide +kernel
theorem dX10_isLess_184 : decode cX10_isLess 184 = .ok (.ifCond .le 7, 3) := by decide +kernel
theorem dX10_isLess_187 : decode cX10_isLess 187 = .ok (.iconst 1, 1) := by decide +kernel
theorem dX10_isLess_188 : decode cX10_isLess 188 = .ok (.goto 32, 3) := by decide +kernel
theorem dX10_isLess_191 : decode cX10_isLess 191 = .ok (.iconst 0, 1) := by decide +kernel
theorem dX10_isLess_192 : decode cX10_isLess 192 = .ok (.goto 28, 3) := by decide +kernel
theorem dX10_isLess_195 : decode cX10_isLess 195 = .ok (.lload 8, 2) := by decide +kernel
theorem dX10_isLess_197 : decode cX10_isLess 197 = .ok (.lload 10, 2) := by decide +kernel
theorem dX10_isLess_199 : decode cX10_isLess 199 = .ok (.lrem, 1) := by decide +kernel
theorem dX10_isLess_200 : decode cX10_isLess 200 = .ok (.lconst 0, 1) := by decide +kernel
theorem dX10_isLess_201 : decode cX10_isLess 201 = .ok (.lcmp, 1) := by decide +kernel
theorem dX10_isLess_202 : decode cX10_isLess 202 = .ok (.ifCond .eq 17, 3) := by decide +kernel
theorem dX10_isLess_205 : decode cX10_isLess 205 = .ok (.lload 12, 2) := by decide +kernel
theorem dX10_isLess_207 : decode cX10_isLess 207 = .ok (.lload 14, 2) := by decide +kernel
theorem dX10_isLess_209 : decode cX10_isLess 209 = .ok (.lrem, 1) := by decide +kernel
theorem dX10_isLess_210 : decode cX10_isLess 210 = .ok (.lconst 0, 1) := by decide +kernel
theorem dX10_isLess_211 : decode cX10_isLess 211 = .ok (.lcmp, 1) := by decide +kernel
theorem dX10_isLess_212 : decode cX10_isLess 212 = .ok (.ifCond .ne 7, 3) := by decide +kernel
theorem dX10_isLess_215 : decode cX10_isLess 215 = .ok (.iconst 1, 1) := by decide +kernel
theorem dX10_isLess_216 : decode cX10_isLess 216 = .ok (.goto 4, 3) := by decide +kernel
theorem dX10_isLess_219 : decode cX10_isLess 219 = .ok (.iconst 0, 1) := by decide +kernel
theorem dX10_isLess_220 : decode cX10_isLess 220 = .ok (.istore 18, 2) := by decide +kernel
theorem dX10_isLess_222 : decode cX10_isLess 222 = .ok (.iload 16, 2) := by decide +kernel
theorem dX10_isLess_224 : decode cX10_isLess 224 = .ok (.ifCond .eq 8, 3) := by decide +kernel
theorem dX10_isLess_227 : decode cX10_isLess 227 = .ok (.iload 18, 2) := by decide +kernel
theorem dX10_isLess_229 : decode cX10_isLess 229 = .ok (.goto 5, 3) := by decide +kernel
theorem dX10_isLess_232 : decode cX10_isLess 232 = .ok (.iload 17, 2) := by decide +kernel
theorem dX10_isLess_234 : decode cX10_isLess 234 = .ok (.ireturn, 1) := by decide +kernel
theorem dX10_go_0 : decode cX10_go 0 = .ok (.iload_n 1, 1) := by decide +kernel
theorem dX10_go_1 : decode cX10_go 1 = .ok (.invokestatic 66, 3) := by decide +kernel
theorem dX10_go_4 : decode cX10_go 4 = .ok (.ifCond .eq 10, 3) := by decide +kernel
theorem dX10_go_7 : decode cX10_go 7 = .ok (.iload_n 2, 1) := by decide +kernel
theorem dX10_go_8 : decode cX10_go 8 = .ok (.invokestatic 66, 3) := by decide +kernel
theorem dX10_go_11 : decode cX10_go 11 = .ok (.ifCond .ne 5, 3) := by decide +kernel
theorem dX10_go_14 : decode cX10_go 14 = .ok (.iconst (-1), 1) := by decide +kernel
theorem dX10_go_15 : decode cX10_go 15 = .ok (.ireturn, 1) := by decide +kernel
theorem dX10_go_16 : decode cX10_go 16 = .ok (.aload_n 0, 1) := by decide +kernel
theorem dX10_go_17 : decode cX10_go 17 = .ok (.invokevirtual 122, 3) := by decide +kernel
theorem dX10_go_20 : decode cX10_go 20 = .ok (.ifCond .lt 6, 3) := by decide +kernel
theorem dX10_go_23 : decode cX10_go 23 = .ok (.bipush (-5), 2) := by decide +kernel
theorem dX10_go_25 : decode cX10_go 25 = .ok (.ireturn, 1) := by decide +kernel
theorem dX10_go_26 : decode cX10_go 26 = .ok (.aload_n 0, 1) := by decide +kernel
theorem dX10_go_27 : decode cX10_go 27 = .ok (.iload_n 1, 1) := by decide +kernel
theorem dX10_go_28 : decode cX10_go 28 = .ok (.iload_n 2, 1) := by decide +kernel
theorem dX10_go_29 : decode cX10_go 29 = .ok (.invokevirtual 208, 3) := by decide +kernel
theorem dX10_go_32 : decode cX10_go 32 = .ok (.aload_n 0, 1) := by decide +kernel
theorem dX10_go_33 : decode cX10_go 33 = .ok (.iconst 0, 1) := by decide +kernel
theorem dX10_go_34 : decode cX10_go 34 = .ok (.invokevirtual 211, 3) := by decide +kernel
theorem dX10_go_37 : decode cX10_go 37 = .ok (.aload_n 0, 1) := by decide +kernel
theorem dX10_go_38 : decode cX10_go 38 = .ok (.getfield 201, 3) := by decide +kernel
theorem dX10_go_41 : decode cX10_go 41 = .ok (.lstore_n 3, 1) := by decide +kernel
theorem dX10_go_42 : decode cX10_go 42 = .ok (.aload_n 0, 1) := by decide +kernel
theorem dX10_go_43 : decode cX10_go 43 = .ok (.getfield 205, 3) := by decide +kernel
theorem dX10_go_46 : decode cX10_go 46 = .ok (.lstore 5, 2) := by decide +kernel
theorem dX10_go_48 : decode cX10_go 48 = .ok (.iconst 0, 1) := by decide +kernel
theorem dX10_go_49 : decode cX10_go 49 = .ok (.istore 7, 2) := by decide +kernel
theorem dX10_go_51 : decode cX10_go 51 = .ok (.iconst 0, 1) := by decide +kernel
theorem dX10_go_52 : decode cX10_go 52 = .ok (.istore 8, 2) := by decide +kernel
theorem dX10_go_54 : decode cX10_go 54 = .ok (.iload 8, 2) := by decide +kernel
theorem dX10_go_56 : decode cX10_go 56 = .ok (.bipush 24, 2) := by decide +kernel
theorem dX10_go_58 : decode cX10_go 58 = .ok (.if_icmp .ge 42, 3) := by decide +kernel
theorem dX10_go_61 : decode cX10_go 61 = .ok (.aload_n 0, 1) := by decide +kernel
theorem dX10_go_62 : decode cX10_go 62 = .ok (.iload 8, 2) := by decide +kernel
theorem dX10_go_64 : decode cX10_go 64 = .ok (.invokevirtual 211, 3) := by decide +kernel
theorem dX10_go_67 : decode cX10_go 67 = .ok (.iload 7, 2) := by decide +kernel
theorem dX10_go_69 : decode cX10_go 69 = .ok (.aload_n 0, 1) := by decide +kernel
theorem dX10_go_70 : decode cX10_go 70 = .ok (.getfield 201, 3) := by decide +kernel
theorem dX10_go_73 : decode cX10_go 73 = .ok (.aload_n 0, 1) := by decide +kernel
theorem dX10_go_74 : decode cX10_go 74 = .ok (.getfield 205, 3) := by decide +kernel
theorem dX10_go_77 : decode cX10_go 77 = .ok (.lload_n 3, 1) := by decide +kernel
theorem dX10_go_78 : decode cX10_go 78 = .ok (.lload 5, 2) := by decide +kernel
theorem dX10_go_80 : decode cX10_go 80 = .ok (.invokestatic 214, 3) := by decide +kernel
theorem dX10_go_83 : decode cX10_go 83 = .ok (.ifCond .eq 7, 3) := by decide +kernel
theorem dX10_go_86 : decode cX10_go 86 = .ok (.iconst 0, 1) := by decide +kernel
theorem dX10_go_87 : decode cX10_go 87 = .ok (.goto 4, 3) := by decide +kernel
theorem dX10_go_90 : decode cX10_go 90 = .ok (.iconst 1, 1) := by decide +kernel
theorem dX10_go_91 : decode cX10_go 91 = .ok (.iadd, 1) := by decide +kernel
theorem dX10_go_92 : decode cX10_go 92 = .ok (.istore 7, 2) := by decide +kernel
theorem dX10_go_94 : decode cX10_go 94 = .ok (.iinc 8 1, 3) := by decide +kernel
theorem dX10_go_97 : decode cX10_go 97 = .ok (.goto (-43), 3) := by decide +kernel
theorem dX10_go_100 : decode cX10_go 100 = .ok (.iload 7, 2) := by decide +kernel
theorem dX10_go_102 : decode cX10_go 102 = .ok (.ireturn, 1) := by decide +kernel
theorem dX10_waves_0 : decode cX10_waves 0 = .ok (.iload_n 1, 1) := by decide +kernel
theorem dX10_waves_1 : decode cX10_waves 1 = .ok (.i2l, 1) := by decide +kernel
theorem dX10_waves_2 : decode cX10_waves 2 = .ok (.ldc2_w 218, 3) := by decide +kernel
theorem dX10_waves_5 : decode cX10_waves 5 = .ok (.ldc2_w 145, 3) := by decide +kernel
theorem dX10_waves_8 : decode cX10_waves 8 = .ok (.invokestatic 58, 3) := by decide +kernel
theorem dX10_waves_11 : decode cX10_waves 11 = .ok (.ifCond .eq 22, 3) := by decide +kernel
theorem dX10_waves_14 : decode cX10_waves 14 = .ok (.iload_n 2, 1) := by decide +kernel
theorem dX10_waves_15 : decode cX10_waves 15 = .ok (.i2l, 1) := by decide +kernel
theorem dX10_waves_16 : decode cX10_waves 16 = .ok (.lconst 1, 1) := by decide +kernel
theorem dX10_waves_17 : decode cX10_waves 17 = .ok (.ldc2_w 62, 3) := by decide +kernel
theorem dX10_waves_20 : decode cX10_waves 20 = .ok (.invokestatic 58, 3) := by decide +kernel
theorem dX10_waves_23 : decode cX10_waves 23 = .ok (.ifCond .eq 10, 3) := by decide +kernel
theorem dX10_waves_26 : decode cX10_waves 26 = .ok (.iload_n 3, 1) := by decide +kernel
theorem dX10_waves_27 : decode cX10_waves 27 = .ok (.invokestatic 152, 3) := by decide +kernel
theorem dX10_waves_30 : decode cX10_waves 30 = .ok (.ifCond .ne 7, 3) := by decide +kernel
theorem dX10_waves_33 : decode cX10_waves 33 = .ok (.ldc2_w 155, 3) := by decide +kernel
theorem dX10_waves_36 : decode cX10_waves 36 = .ok (.lreturn, 1) := by decide +kernel
theorem dX10_waves_37 : decode cX10_waves 37 = .ok (.lconst 0, 1) := by decide +kernel
theorem dX10_waves_38 : decode cX10_waves 38 = .ok (.lstore 4, 2) := by decide +kernel
theorem dX10_waves_40 : decode cX10_waves 40 = .ok (.iconst 0, 1) := by decide +kernel
theorem dX10_waves_41 : decode cX10_waves 41 = .ok (.istore 6, 2) := by decide +kernel
theorem dX10_waves_43 : decode cX10_waves 43 = .ok (.iload 6, 2) := by decide +kernel
theorem dX10_waves_45 : decode cX10_waves 45 = .ok (.iconst 1, 1) := by decide +kernel
theorem dX10_waves_46 : decode cX10_waves 46 = .ok (.iload_n 1, 1) := by decide +kernel
theorem dX10_waves_47 : decode cX10_waves 47 = .ok (.ishl, 1) := by decide +kernel
theorem dX10_waves_48 : decode cX10_waves 48 = .ok (.if_icmp .ge 90, 3) := by decide +kernel
theorem dX10_waves_51 : decode cX10_waves 51 = .ok (.iload_n 2, 1) := by decide +kernel
theorem dX10_waves_52 : decode cX10_waves 52 = .ok (.istore 7, 2) := by decide +kernel
theorem dX10_waves_54 : decode cX10_waves 54 = .ok (.iload 7, 2) := by decide +kernel
theorem dX10_waves_56 : decode cX10_waves 56 = .ok (.iload_n 1, 1) := by decide +kernel
theorem dX10_waves_57 : decode cX10_waves 57 = .ok (.iconst 1, 1) := by decide +kernel
theorem dX10_waves_58 : decode cX10_waves 58 = .ok (.isub, 1) := by decide +kernel
theorem dX10_waves_59 : decode cX10_waves 59 = .ok (.if_icmp .ge 73, 3) := by decide +kernel
theorem dX10_waves_62 : decode cX10_waves 62 = .ok (.iload 6, 2) := by decide +kernel
theorem dX10_waves_64 : decode cX10_waves 64 = .ok (.iload 7, 2) := by decide +kernel
theorem dX10_waves_66 : decode cX10_waves 66 = .ok (.iload_n 2, 1) := by decide +kernel
theorem dX10_waves_67 : decode cX10_waves 67 = .ok (.invokestatic 220, 3) := by decide +kernel
theorem dX10_waves_70 : decode cX10_waves 70 = .ok (.iload 6, 2) := by decide +kernel
theorem dX10_waves_72 : decode cX10_waves 72 = .ok (.iload 7, 2) := by decide +kernel
theorem dX10_waves_74 : decode cX10_waves 74 = .ok (.iconst 1, 1) := by decide +kernel
theorem dX10_waves_75 : decode cX10_waves 75 = .ok (.isub, 1) := by decide +kernel
theorem dX10_waves_76 : decode cX10_waves 76 = .ok (.iload_n 2, 1) := by decide +kernel
theorem dX10_waves_77 : decode cX10_waves 77 = .ok (.invokestatic 220, 3) := by decide +kernel
theorem dX10_waves_80 : decode cX10_waves 80 = .ok (.if_icmp .le 28, 3) := by decide +kernel
theorem dX10_waves_83 : decode cX10_waves 83 = .ok (.iload 6, 2) := by decide +kernel
theorem dX10_waves_85 : decode cX10_waves 85 = .ok (.iload 7, 2) := by decide +kernel
theorem dX10_waves_87 : decode cX10_waves 87 = .ok (.iload_n 2, 1) := by decide +kernel
theorem dX10_waves_88 : decode cX10_waves 88 = .ok (.invokestatic 220, 3) := by decide +kernel
theorem dX10_waves_91 : decode cX10_waves 91 = .ok (.iload 6, 2) := by decide +kernel
theorem dX10_waves_93 : decode cX10_waves 93 = .ok (.iload 7, 2) := by decide +kernel
theorem dX10_waves_95 : decode cX10_waves 95 = .ok (.iconst 1, 1) := by decide +kernel
theorem dX10_waves_96 : decode cX10_waves 96 = .ok (.iadd, 1) := by decide +kernel
theorem dX10_waves_97 : decode cX10_waves 97 = .ok (.iload_n 2, 1) := by decide +kernel
theorem dX10_waves_98 : decode cX10_waves 98 = .ok (.invokestatic 220, 3) := by decide +kernel
theorem dX10_waves_101 : decode cX10_waves 101 = .ok (.if_icmp .le 7, 3) := by decide +kernel
theorem dX10_waves_104 : decode cX10_waves 104 = .ok (.iconst 1, 1) := by decide +kernel
theorem dX10_waves_105 : decode cX10_waves 105 = .ok (.goto 4, 3) := by decide +kernel
theorem dX10_waves_108 : decode cX10_waves 108 = .ok (.iconst 0, 1) := by decide +kernel
theorem dX10_waves_109 : decode cX10_waves 109 = .ok (.istore 8, 2) := by decide +kernel
theorem dX10_waves_111 : decode cX10_waves 111 = .ok (.lload 4, 2) := by decide +kernel
theorem dX10_waves_113 : decode cX10_waves 113 = .ok (.iload 8, 2) := by decide +kernel
theorem dX10_waves_115 : decode cX10_waves 115 = .ok (.ifCond .eq 7, 3) := by decide +kernel
theorem dX10_waves_118 : decode cX10_waves 118 = .ok (.lconst 1, 1) := by decide +kernel
theorem dX10_waves_119 : decode cX10_waves 119 = .ok (.goto 4, 3) := by decide +kernel
theorem dX10_waves_122 : decode cX10_waves 122 = .ok (.lconst 0, 1) := by decide +kernel
theorem dX10_waves_123 : decode cX10_waves 123 = .ok (.ladd, 1) := by decide +kernel
theorem dX10_waves_124 : decode cX10_waves 124 = .ok (.lstore 4, 2) := by decide +kernel
theorem dX10_waves_126 : decode cX10_waves 126 = .ok (.iinc 7 1, 3) := by decide +kernel
theorem dX10_waves_129 : decode cX10_waves 129 = .ok (.goto (-75), 3) := by decide +kernel
theorem dX10_waves_132 : decode cX10_waves 132 = .ok (.iinc 6 1, 3) := by decide +kernel
theorem dX10_waves_135 : decode cX10_waves 135 = .ok (.goto (-92), 3) := by decide +kernel
theorem dX10_waves_138 : decode cX10_waves 138 = .ok (.lload 4, 2) := by decide +kernel
theorem dX10_waves_140 : decode cX10_waves 140 = .ok (.lconst 1, 1) := by decide +kernel
theorem dX10_waves_141 : decode cX10_waves 141 = .ok (.iload_n 1, 1) := by decide +kernel
theorem dX10_waves_142 : decode cX10_waves 142 = .ok (.lshl, 1) := by decide +kernel
theorem dX10_waves_143 : decode cX10_waves 143 = .ok (.iload_n 3, 1) := by decide +kernel
theorem dX10_waves_144 : decode cX10_waves 144 = .ok (.invokestatic 169, 3) := by decide +kernel
theorem dX10_waves_147 : decode cX10_waves 147 = .ok (.lreturn, 1) := by decide +kernel
theorem dX10_smooth_0 : decode cX10_smooth 0 = .ok (.iconst 0, 1) := by decide +kernel
theorem dX10_smooth_1 : decode cX10_smooth 1 = .ok (.istore_n 3, 1) := by decide +kernel
theorem dX10_smooth_2 : decode cX10_smooth 2 = .ok (.iconst 0, 1) := by decide +kernel
theorem dX10_smooth_3 : decode cX10_smooth 3 = .ok (.istore 4, 2) := by decide +kernel
theorem dX10_smooth_5 : decode cX10_smooth 5 = .ok (.iload 4, 2) := by decide +kernel
theorem dX10_smooth_7 : decode cX10_smooth 7 = .ok (.iload_n 2, 1) := by decide +kernel
theorem dX10_smooth_8 : decode cX10_smooth 8 = .ok (.if_icmp .ge 24, 3) := by decide +kernel
theorem dX10_smooth_11 : decode cX10_smooth 11 = .ok (.iload_n 3, 1) := by decide +kernel
theorem dX10_smooth_12 : decode cX10_smooth 12 = .ok (.iconst 2, 1) := by decide +kernel
theorem dX10_smooth_13 : decode cX10_smooth 13 = .ok (.iload_n 0, 1) := by decide +kernel
theorem dX10_smooth_14 : decode cX10_smooth 14 = .ok (.iload_n 1, 1) := by decide +kernel
theorem dX10_smooth_15 : decode cX10_smooth 15 = .ok (.iload 4, 2) := by decide +kernel
theorem dX10_smooth_17 : decode cX10_smooth 17 = .ok (.isub, 1) := by decide +kernel
theorem dX10_smooth_18 : decode cX10_smooth 18 = .ok (.ishr, 1) := by decide +kernel
theorem dX10_smooth_19 : decode cX10_smooth 19 = .ok (.iconst 1, 1) := by decide +kernel
theorem dX10_smooth_20 : decode cX10_smooth 20 = .ok (.iand, 1) := by decide +kernel
theorem dX10_smooth_21 : decode cX10_smooth 21 = .ok (.imul, 1) := by decide +kernel
theorem dX10_smooth_22 : decode cX10_smooth 22 = .ok (.iconst 1, 1) := by decide +kernel
theorem dX10_smooth_23 : decode cX10_smooth 23 = .ok (.isub, 1) := by decide +kernel
theorem dX10_smooth_24 : decode cX10_smooth 24 = .ok (.iadd, 1) := by decide +kernel
theorem dX10_smooth_25 : decode cX10_smooth 25 = .ok (.istore_n 3, 1) := by decide +kernel
theorem dX10_smooth_26 : decode cX10_smooth 26 = .ok (.iinc 4 1, 3) := by decide +kernel
theorem dX10_smooth_29 : decode cX10_smooth 29 = .ok (.goto (-24), 3) := by decide +kernel
theorem dX10_smooth_32 : decode cX10_smooth 32 = .ok (.iload_n 3, 1) := by decide +kernel
theorem dX10_smooth_33 : decode cX10_smooth 33 = .ok (.ireturn, 1) := by decide +kernel
theorem dX10_findHeld_0 : decode cX10_findHeld 0 = .ok (.aload_n 0, 1) := by decide +kernel
theorem dX10_findHeld_1 : decode cX10_findHeld 1 = .ok (.iload_n 1, 1) := by decide +kernel
theorem dX10_findHeld_2 : decode cX10_findHeld 2 = .ok (.invokevirtual 127, 3) := by decide +kernel
theorem dX10_findHeld_5 : decode cX10_findHeld 5 = .ok (.aload_n 0, 1) := by decide +kernel
theorem dX10_findHeld_6 : decode cX10_findHeld 6 = .ok (.iload_n 2, 1) := by decide +kernel
theorem dX10_findHeld_7 : decode cX10_findHeld 7 = .ok (.invokevirtual 159, 3) := by decide +kernel
theorem dX10_findHeld_10 : decode cX10_findHeld 10 = .ok (.aload_n 0, 1) := by decide +kernel
theorem dX10_findHeld_11 : decode cX10_findHeld 11 = .ok (.iconst 2, 1) := by decide +kernel
theorem dX10_findHeld_12 : decode cX10_findHeld 12 = .ok (.putfield 224, 3) := by decide +kernel
theorem dX10_findHeld_15 : decode cX10_findHeld 15 = .ok (.aload_n 0, 1) := by decide +kernel
theorem dX10_findHeld_16 : decode cX10_findHeld 16 = .ok (.invokevirtual 162, 3) := by decide +kernel
theorem dX10_findHeld_19 : decode cX10_findHeld 19 = .ok (.lconst 0, 1) := by decide +kernel
theorem dX10_findHeld_20 : decode cX10_findHeld 20 = .ok (.lcmp, 1) := by decide +kernel
theorem dX10_findHeld_21 : decode cX10_findHeld 21 = .ok (.ifCond .ne 7, 3) := by decide +kernel
theorem dX10_findHeld_24 : decode cX10_findHeld 24 = .ok (.lconst 0, 1) := by decide +kernel
theorem dX10_findHeld_25 : decode cX10_findHeld 25 = .ok (.goto 8, 3) := by decide +kernel
theorem dX10_findHeld_28 : decode cX10_findHeld 28 = .ok (.aload_n 0, 1) := by decide +kernel
theorem dX10_findHeld_29 : decode cX10_findHeld 29 = .ok (.iconst 2, 1) := by decide +kernel
theorem dX10_findHeld_30 : decode cX10_findHeld 30 = .ok (.invokevirtual 165, 3) := by decide +kernel
theorem dX10_findHeld_33 : decode cX10_findHeld 33 = .ok (.lstore_n 3, 1) := by decide +kernel
theorem dX10_findHeld_34 : decode cX10_findHeld 34 = .ok (.iconst 3, 1) := by decide +kernel
theorem dX10_findHeld_35 : decode cX10_findHeld 35 = .ok (.istore 5, 2) := by decide +kernel
theorem dX10_findHeld_37 : decode cX10_findHeld 37 = .ok (.iload 5, 2) := by decide +kernel
theorem dX10_findHeld_39 : decode cX10_findHeld 39 = .ok (.bipush 12, 2) := by decide +kernel
theorem dX10_findHeld_41 : decode cX10_findHeld 41 = .ok (.if_icmp .gt 60, 3) := by decide +kernel
theorem dX10_findHeld_44 : decode cX10_findHeld 44 = .ok (.aload_n 0, 1) := by decide +kernel
theorem dX10_findHeld_45 : decode cX10_findHeld 45 = .ok (.invokevirtual 162, 3) := by decide +kernel
theorem dX10_findHeld_48 : decode cX10_findHeld 48 = .ok (.lconst 0, 1) := by decide +kernel
theorem dX10_findHeld_49 : decode cX10_findHeld 49 = .ok (.lcmp, 1) := by decide +kernel
theorem dX10_findHeld_50 : decode cX10_findHeld 50 = .ok (.ifCond .eq 51, 3) := by decide +kernel
theorem dX10_findHeld_53 : decode cX10_findHeld 53 = .ok (.aload_n 0, 1) := by decide +kernel
theorem dX10_findHeld_54 : decode cX10_findHeld 54 = .ok (.iload 5, 2) := by decide +kernel
theorem dX10_findHeld_56 : decode cX10_findHeld 56 = .ok (.invokevirtual 165, 3) := by decide +kernel
theorem dX10_findHeld_59 : decode cX10_findHeld 59 = .ok (.lstore 6, 2) := by decide +kernel
theorem dX10_findHeld_61 : decode cX10_findHeld 61 = .ok (.aload_n 0, 1) := by decide +kernel
theorem dX10_findHeld_62 : decode cX10_findHeld 62 = .ok (.lload 6, 2) := by decide +kernel
theorem dX10_findHeld_64 : decode cX10_findHeld 64 = .ok (.lload_n 3, 1) := by decide +kernel
theorem dX10_findHeld_65 : decode cX10_findHeld 65 = .ok (.lcmp, 1) := by decide +kernel
theorem dX10_findHeld_66 : decode cX10_findHeld 66 = .ok (.ifCond .le 8, 3) := by decide +kernel
theorem dX10_findHeld_69 : decode cX10_findHeld 69 = .ok (.iload 5, 2) := by decide +kernel
theorem dX10_findHeld_71 : decode cX10_findHeld 71 = .ok (.goto 7, 3) := by decide +kernel
theorem dX10_findHeld_74 : decode cX10_findHeld 74 = .ok (.aload_n 0, 1) := by decide +kernel
theorem dX10_findHeld_75 : decode cX10_findHeld 75 = .ok (.getfield 224, 3) := by decide +kernel
theorem dX10_findHeld_78 : decode cX10_findHeld 78 = .ok (.putfield 224, 3) := by decide +kernel
theorem dX10_findHeld_81 : decode cX10_findHeld 81 = .ok (.lload 6, 2) := by decide +kernel
theorem dX10_findHeld_83 : decode cX10_findHeld 83 = .ok (.lload_n 3, 1) := by decide +kernel
theorem dX10_findHeld_84 : decode cX10_findHeld 84 = .ok (.lcmp, 1) := by decide +kernel
theorem dX10_findHeld_85 : decode cX10_findHeld 85 = .ok (.ifCond .le 8, 3) := by decide +kernel
theorem dX10_findHeld_88 : decode cX10_findHeld 88 = .ok (.lload 6, 2) := by decide +kernel
theorem dX10_findHeld_90 : decode cX10_findHeld 90 = .ok (.goto 4, 3) := by decide +kernel
theorem dX10_findHeld_93 : decode cX10_findHeld 93 = .ok (.lload_n 3, 1) := by decide +kernel
theorem dX10_findHeld_94 : decode cX10_findHeld 94 = .ok (.lstore_n 3, 1) := by decide +kernel
theorem dX10_findHeld_95 : decode cX10_findHeld 95 = .ok (.iinc 5 1, 3) := by decide +kernel
theorem dX10_findHeld_98 : decode cX10_findHeld 98 = .ok (.goto (-61), 3) := by decide +kernel
theorem dX10_findHeld_101 : decode cX10_findHeld 101 = .ok (.aload_n 0, 1) := by decide +kernel
theorem dX10_findHeld_102 : decode cX10_findHeld 102 = .ok (.aload_n 0, 1) := by decide +kernel
theorem dX10_findHeld_103 : decode cX10_findHeld 103 = .ok (.getfield 224, 3) := by decide +kernel
theorem dX10_findHeld_106 : decode cX10_findHeld 106 = .ok (.invokevirtual 134, 3) := by decide +kernel
theorem dX10_findHeld_109 : decode cX10_findHeld 109 = .ok (.aload_n 0, 1) := by decide +kernel
theorem dX10_findHeld_110 : decode cX10_findHeld 110 = .ok (.invokevirtual 137, 3) := by decide +kernel
theorem dX10_findHeld_113 : decode cX10_findHeld 113 = .ok (.lstore 5, 2) := by decide +kernel
theorem dX10_findHeld_115 : decode cX10_findHeld 115 = .ok (.aload_n 0, 1) := by decide +kernel
theorem dX10_findHeld_116 : decode cX10_findHeld 116 = .ok (.iconst 0, 1) := by decide +kernel
theorem dX10_findHeld_117 : decode cX10_findHeld 117 = .ok (.putfield 227, 3) := by decide +kernel
theorem dX10_findHeld_120 : decode cX10_findHeld 120 = .ok (.aload_n 0, 1) := by decide +kernel
theorem dX10_findHeld_121 : decode cX10_findHeld 121 = .ok (.iconst 0, 1) := by decide +kernel
theorem dX10_findHeld_122 : decode cX10_findHeld 122 = .ok (.putfield 230, 3) := by decide +kernel
theorem dX10_findHeld_125 : decode cX10_findHeld 125 = .ok (.iload_n 2, 1) := by decide +kernel
theorem dX10_findHeld_126 : decode cX10_findHeld 126 = .ok (.istore 7, 2) := by decide +kernel
theorem dX10_findHeld_128 : decode cX10_findHeld 128 = .ok (.iload 7, 2) := by decide +kernel
theorem dX10_findHeld_130 : decode cX10_findHeld 130 = .ok (.bipush 24, 2) := by decide +kernel
theorem dX10_findHeld_132 : decode cX10_findHeld 132 = .ok (.if_icmp .ge 156, 3) := by decide +kernel
theorem dX10_findHeld_135 : decode cX10_findHeld 135 = .ok (.iload 7, 2) := by decide +kernel
theorem dX10_findHeld_137 : decode cX10_findHeld 137 = .ok (.aload_n 0, 1) := by decide +kernel
theorem dX10_findHeld_138 : decode cX10_findHeld 138 = .ok (.getfield 224, 3) := by decide +kernel
theorem dX10_findHeld_141 : decode cX10_findHeld 141 = .ok (.irem, 1) := by decide +kernel
theorem dX10_findHeld_142 : decode cX10_findHeld 142 = .ok (.istore 8, 2) := by decide +kernel
theorem dX10_findHeld_144 : decode cX10_findHeld 144 = .ok (.aload_n 0, 1) := by decide +kernel
theorem dX10_findHeld_145 : decode cX10_findHeld 145 = .ok (.getfield 16, 3) := by decide +kernel
theorem dX10_findHeld_148 : decode cX10_findHeld 148 = .ok (.iload 7, 2) := by decide +kernel
theorem dX10_findHeld_150 : decode cX10_findHeld 150 = .ok (.iaload, 1) := by decide +kernel
theorem dX10_findHeld_151 : decode cX10_findHeld 151 = .ok (.ldc 53, 2) := by decide +kernel
theorem dX10_findHeld_153 : decode cX10_findHeld 153 = .ok (.if_icmp .eq 129, 3) := by decide +kernel
theorem dX10_findHeld_156 : decode cX10_findHeld 156 = .ok (.aload_n 0, 1) := by decide +kernel
theorem dX10_findHeld_157 : decode cX10_findHeld 157 = .ok (.getfield 32, 3) := by decide +kernel
theorem dX10_findHeld_160 : decode cX10_findHeld 160 = .ok (.iload 8, 2) := by decide +kernel
theorem dX10_findHeld_162 : decode cX10_findHeld 162 = .ok (.iaload, 1) := by decide +kernel
theorem dX10_findHeld_163 : decode cX10_findHeld 163 = .ok (.ifCond .le 119, 3) := by decide +kernel
theorem dX10_findHeld_166 : decode cX10_findHeld 166 = .ok (.aload_n 0, 1) := by decide +kernel
theorem dX10_findHeld_167 : decode cX10_findHeld 167 = .ok (.getfield 16, 3) := by decide +kernel
theorem dX10_findHeld_170 : decode cX10_findHeld 170 = .ok (.iload 7, 2) := by decide +kernel
theorem dX10_findHeld_172 : decode cX10_findHeld 172 = .ok (.iaload, 1) := by decide +kernel
theorem dX10_findHeld_173 : decode cX10_findHeld 173 = .ok (.i2l, 1) := by decide +kernel
theorem dX10_findHeld_174 : decode cX10_findHeld 174 = .ok (.aload_n 0, 1) := by decide +kernel
theorem dX10_findHeld_175 : decode cX10_findHeld 175 = .ok (.getfield 131, 3) := by decide +kernel
theorem dX10_findHeld_178 : decode cX10_findHeld 178 = .ok (.i2l, 1) := by decide +kernel
theorem dX10_findHeld_179 : decode cX10_findHeld 179 = .ok (.lmul, 1) := by decide +kernel
theorem dX10_findHeld_180 : decode cX10_findHeld 180 = .ok (.lload 5, 2) := by decide +kernel
theorem dX10_findHeld_182 : decode cX10_findHeld 182 = .ok (.lsub, 1) := by decide +kernel
theorem dX10_findHeld_183 : decode cX10_findHeld 183 = .ok (.lstore 9, 2) := by decide +kernel
theorem dX10_findHeld_185 : decode cX10_findHeld 185 = .ok (.aload_n 0, 1) := by decide +kernel
theorem dX10_findHeld_186 : decode cX10_findHeld 186 = .ok (.getfield 28, 3) := by decide +kernel
theorem dX10_findHeld_189 : decode cX10_findHeld 189 = .ok (.iload 8, 2) := by decide +kernel
theorem dX10_findHeld_191 : decode cX10_findHeld 191 = .ok (.laload, 1) := by decide +kernel
theorem dX10_findHeld_192 : decode cX10_findHeld 192 = .ok (.aload_n 0, 1) := by decide +kernel
theorem dX10_findHeld_193 : decode cX10_findHeld 193 = .ok (.getfield 131, 3) := by decide +kernel
theorem dX10_findHeld_196 : decode cX10_findHeld 196 = .ok (.i2l, 1) := by decide +kernel
theorem dX10_findHeld_197 : decode cX10_findHeld 197 = .ok (.lmul, 1) := by decide +kernel
theorem dX10_findHeld_198 : decode cX10_findHeld 198 = .ok (.lload 5, 2) := by decide +kernel
theorem dX10_findHeld_200 : decode cX10_findHeld 200 = .ok (.aload_n 0, 1) := by decide +kernel
theorem dX10_findHeld_201 : decode cX10_findHeld 201 = .ok (.getfield 32, 3) := by decide +kernel
theorem dX10_findHeld_204 : decode cX10_findHeld 204 = .ok (.iload 8, 2) := by decide +kernel
theorem dX10_findHeld_206 : decode cX10_findHeld 206 = .ok (.iaload, 1) := by decide +kernel
theorem dX10_findHeld_207 : decode cX10_findHeld 207 = .ok (.i2l, 1) := by decide +kernel
theorem dX10_findHeld_208 : decode cX10_findHeld 208 = .ok (.lmul, 1) := by decide +kernel
theorem dX10_findHeld_209 : decode cX10_findHeld 209 = .ok (.lsub, 1) := by decide +kernel
theorem dX10_findHeld_210 : decode cX10_findHeld 210 = .ok (.lstore 11, 2) := by decide +kernel
theorem dX10_findHeld_212 : decode cX10_findHeld 212 = .ok (.aload_n 0, 1) := by decide +kernel
theorem dX10_findHeld_213 : decode cX10_findHeld 213 = .ok (.dup, 1) := by decide +kernel
theorem dX10_findHeld_214 : decode cX10_findHeld 214 = .ok (.getfield 230, 3) := by decide +kernel
theorem dX10_findHeld_217 : decode cX10_findHeld 217 = .ok (.lload 9, 2) := by decide +kernel
theorem dX10_findHeld_219 : decode cX10_findHeld 219 = .ok (.lconst 0, 1) := by decide +kernel
theorem dX10_findHeld_220 : decode cX10_findHeld 220 = .ok (.lcmp, 1) := by decide +kernel
theorem dX10_findHeld_221 : decode cX10_findHeld 221 = .ok (.ifCond .eq 14, 3) := by decide +kernel
theorem dX10_findHeld_224 : decode cX10_findHeld 224 = .ok (.lload 11, 2) := by decide +kernel
theorem dX10_findHeld_226 : decode cX10_findHeld 226 = .ok (.lconst 0, 1) := by decide +kernel
theorem dX10_findHeld_227 : decode cX10_findHeld 227 = .ok (.lcmp, 1) := by decide +kernel
theorem dX10_findHeld_228 : decode cX10_findHeld 228 = .ok (.ifCond .eq 7, 3) := by decide +kernel
theorem dX10_findHeld_231 : decode cX10_findHeld 231 = .ok (.iconst 1, 1) := by decide +kernel
theorem dX10_findHeld_232 : decode cX10_findHeld 232 = .ok (.goto 4, 3) := by decide +kernel
theorem dX10_findHeld_235 : decode cX10_findHeld 235 = .ok (.iconst 0, 1) := by decide +kernel
theorem dX10_findHeld_236 : decode cX10_findHeld 236 = .ok (.iadd, 1) := by decide +kernel
theorem dX10_findHeld_237 : decode cX10_findHeld 237 = .ok (.putfield 230, 3) := by decide +kernel
theorem dX10_findHeld_240 : decode cX10_findHeld 240 = .ok (.aload_n 0, 1) := by decide +kernel
theorem dX10_findHeld_241 : decode cX10_findHeld 241 = .ok (.dup, 1) := by decide +kernel
theorem dX10_findHeld_242 : decode cX10_findHeld 242 = .ok (.getfield 227, 3) := by decide +kernel
theorem dX10_findHeld_245 : decode cX10_findHeld 245 = .ok (.lload 9, 2) := by decide +kernel
theorem dX10_findHeld_247 : decode cX10_findHeld 247 = .ok (.lconst 0, 1) := by decide +kernel
theorem dX10_findHeld_248 : decode cX10_findHeld 248 = .ok (.lcmp, 1) := by decide +kernel
theorem dX10_findHeld_249 : decode cX10_findHeld 249 = .ok (.ifCond .le 10, 3) := by decide +kernel
theorem dX10_findHeld_252 : decode cX10_findHeld 252 = .ok (.lload 11, 2) := by decide +kernel
theorem dX10_findHeld_254 : decode cX10_findHeld 254 = .ok (.lconst 0, 1) := by decide +kernel
theorem dX10_findHeld_255 : decode cX10_findHeld 255 = .ok (.lcmp, 1) := by decide +kernel
theorem dX10_findHeld_256 : decode cX10_findHeld 256 = .ok (.ifCond .gt 17, 3) := by decide +kernel
theorem dX10_findHeld_259 : decode cX10_findHeld 259 = .ok (.lload 9, 2) := by decide +kernel
theorem dX10_findHeld_261 : decode cX10_findHeld 261 = .ok (.lconst 0, 1) := by decide +kernel
theorem dX10_findHeld_262 : decode cX10_findHeld 262 = .ok (.lcmp, 1) := by decide +kernel
theorem dX10_findHeld_263 : decode cX10_findHeld 263 = .ok (.ifCond .ge 14, 3) := by decide +kernel
theorem dX10_findHeld_266 : decode cX10_findHeld 266 = .ok (.lload 11, 2) := by decide +kernel
theorem dX10_findHeld_268 : decode cX10_findHeld 268 = .ok (.lconst 0, 1) := by decide +kernel
theorem dX10_findHeld_269 : decode cX10_findHeld 269 = .ok (.lcmp, 1) := by decide +kernel
theorem dX10_findHeld_270 : decode cX10_findHeld 270 = .ok (.ifCond .ge 7, 3) := by decide +kernel
theorem dX10_findHeld_273 : decode cX10_findHeld 273 = .ok (.iconst 1, 1) := by decide +kernel
theorem dX10_findHeld_274 : decode cX10_findHeld 274 = .ok (.goto 4, 3) := by decide +kernel
theorem dX10_findHeld_277 : decode cX10_findHeld 277 = .ok (.iconst 0, 1) := by decide +kernel
theorem dX10_findHeld_278 : decode cX10_findHeld 278 = .ok (.iadd, 1) := by decide +kernel
theorem dX10_findHeld_279 : decode cX10_findHeld 279 = .ok (.putfield 227, 3) := by decide +kernel
theorem dX10_findHeld_282 : decode cX10_findHeld 282 = .ok (.iinc 7 1, 3) := by decide +kernel
theorem dX10_findHeld_285 : decode cX10_findHeld 285 = .ok (.goto (-157), 3) := by decide +kernel
theorem dX10_findHeld_288 : decode cX10_findHeld 288 = .ok (.return_, 1) := by decide +kernel
theorem dX10_isAhead_0 : decode cX10_isAhead 0 = .ok (.iload_n 0, 1) := by decide +kernel
theorem dX10_isAhead_1 : decode cX10_isAhead 1 = .ok (.i2l, 1) := by decide +kernel
theorem dX10_isAhead_2 : decode cX10_isAhead 2 = .ok (.ldc2_w 233, 3) := by decide +kernel
theorem dX10_isAhead_5 : decode cX10_isAhead 5 = .ok (.ldc2_w 235, 3) := by decide +kernel
theorem dX10_isAhead_8 : decode cX10_isAhead 8 = .ok (.invokestatic 58, 3) := by decide +kernel
theorem dX10_isAhead_11 : decode cX10_isAhead 11 = .ok (.ireturn, 1) := by decide +kernel
theorem dX10_found_0 : decode cX10_found 0 = .ok (.iload_n 1, 1) := by decide +kernel
theorem dX10_found_1 : decode cX10_found 1 = .ok (.invokestatic 66, 3) := by decide +kernel
theorem dX10_found_4 : decode cX10_found 4 = .ok (.ifCond .ne 5, 3) := by decide +kernel
theorem dX10_found_7 : decode cX10_found 7 = .ok (.iconst (-1), 1) := by decide +kernel
theorem dX10_found_8 : decode cX10_found 8 = .ok (.ireturn, 1) := by decide +kernel
theorem dX10_found_9 : decode cX10_found 9 = .ok (.iload_n 2, 1) := by decide +kernel
theorem dX10_found_10 : decode cX10_found 10 = .ok (.invokestatic 237, 3) := by decide +kernel
theorem dX10_found_13 : decode cX10_found 13 = .ok (.ifCond .eq 15, 3) := by decide +kernel
theorem dX10_found_16 : decode cX10_found 16 = .ok (.iload_n 3, 1) := by decide +kernel
theorem dX10_found_17 : decode cX10_found 17 = .ok (.i2l, 1) := by decide +kernel
theorem dX10_found_18 : decode cX10_found 18 = .ok (.lconst 0, 1) := by decide +kernel
theorem dX10_found_19 : decode cX10_found 19 = .ok (.ldc2_w 143, 3) := by decide +kernel
theorem dX10_found_22 : decode cX10_found 22 = .ok (.invokestatic 58, 3) := by decide +kernel
theorem dX10_found_25 : decode cX10_found 25 = .ok (.ifCond .ne 6, 3) := by decide +kernel
theorem dX10_found_28 : decode cX10_found 28 = .ok (.bipush (-2), 2) := by decide +kernel
theorem dX10_found_30 : decode cX10_found 30 = .ok (.ireturn, 1) := by decide +kernel
theorem dX10_found_31 : decode cX10_found 31 = .ok (.aload_n 0, 1) := by decide +kernel
theorem dX10_found_32 : decode cX10_found 32 = .ok (.invokevirtual 122, 3) := by decide +kernel
theorem dX10_found_35 : decode cX10_found 35 = .ok (.ifCond .lt 6, 3) := by decide +kernel
theorem dX10_found_38 : decode cX10_found 38 = .ok (.bipush (-5), 2) := by decide +kernel
theorem dX10_found_40 : decode cX10_found 40 = .ok (.ireturn, 1) := by decide +kernel
theorem dX10_found_41 : decode cX10_found 41 = .ok (.aload_n 0, 1) := by decide +kernel
theorem dX10_found_42 : decode cX10_found 42 = .ok (.iload_n 1, 1) := by decide +kernel
theorem dX10_found_43 : decode cX10_found 43 = .ok (.iload_n 2, 1) := by decide +kernel
theorem dX10_found_44 : decode cX10_found 44 = .ok (.invokevirtual 240, 3) := by decide +kernel
theorem dX10_found_47 : decode cX10_found 47 = .ok (.iload_n 3, 1) := by decide +kernel
theorem dX10_found_48 : decode cX10_found 48 = .ok (.ifCond .ne 10, 3) := by decide +kernel
theorem dX10_found_51 : decode cX10_found 51 = .ok (.aload_n 0, 1) := by decide +kernel
theorem dX10_found_52 : decode cX10_found 52 = .ok (.getfield 224, 3) := by decide +kernel
theorem dX10_found_55 : decode cX10_found 55 = .ok (.goto 19, 3) := by decide +kernel
theorem dX10_found_58 : decode cX10_found 58 = .ok (.iload_n 3, 1) := by decide +kernel
theorem dX10_found_59 : decode cX10_found 59 = .ok (.iconst 1, 1) := by decide +kernel
theorem dX10_found_60 : decode cX10_found 60 = .ok (.if_icmp .ne 10, 3) := by decide +kernel
theorem dX10_found_63 : decode cX10_found 63 = .ok (.aload_n 0, 1) := by decide +kernel
theorem dX10_found_64 : decode cX10_found 64 = .ok (.getfield 227, 3) := by decide +kernel
theorem dX10_found_67 : decode cX10_found 67 = .ok (.goto 7, 3) := by decide +kernel
theorem dX10_found_70 : decode cX10_found 70 = .ok (.aload_n 0, 1) := by decide +kernel
theorem dX10_found_71 : decode cX10_found 71 = .ok (.getfield 230, 3) := by decide +kernel
theorem dX10_found_74 : decode cX10_found 74 = .ok (.ireturn, 1) := by decide +kernel
theorem dX10_choose_0 : decode cX10_choose 0 = .ok (.lconst 1, 1) := by decide +kernel
theorem dX10_choose_1 : decode cX10_choose 1 = .ok (.lstore_n 2, 1) := by decide +kernel
theorem dX10_choose_2 : decode cX10_choose 2 = .ok (.iconst 1, 1) := by decide +kernel
theorem dX10_choose_3 : decode cX10_choose 3 = .ok (.istore 4, 2) := by decide +kernel
theorem dX10_choose_5 : decode cX10_choose 5 = .ok (.iload 4, 2) := by decide +kernel
theorem dX10_choose_7 : decode cX10_choose 7 = .ok (.iload_n 1, 1) := by decide +kernel
theorem dX10_choose_8 : decode cX10_choose 8 = .ok (.if_icmp .gt 23, 3) := by decide +kernel
theorem dX10_choose_11 : decode cX10_choose 11 = .ok (.lload_n 2, 1) := by decide +kernel
theorem dX10_choose_12 : decode cX10_choose 12 = .ok (.iload_n 0, 1) := by decide +kernel
theorem dX10_choose_13 : decode cX10_choose 13 = .ok (.iload_n 1, 1) := by decide +kernel
theorem dX10_choose_14 : decode cX10_choose 14 = .ok (.isub, 1) := by decide +kernel
theorem dX10_choose_15 : decode cX10_choose 15 = .ok (.iload 4, 2) := by decide +kernel
theorem dX10_choose_17 : decode cX10_choose 17 = .ok (.iadd, 1) := by decide +kernel
theorem dX10_choose_18 : decode cX10_choose 18 = .ok (.i2l, 1) := by decide +kernel
theorem dX10_choose_19 : decode cX10_choose 19 = .ok (.lmul, 1) := by decide +kernel
theorem dX10_choose_20 : decode cX10_choose 20 = .ok (.iload 4, 2) := by decide +kernel
theorem dX10_choose_22 : decode cX10_choose 22 = .ok (.i2l, 1) := by decide +kernel
theorem dX10_choose_23 : decode cX10_choose 23 = .ok (.ldiv, 1) := by decide +kernel
theorem dX10_choose_24 : decode cX10_choose 24 = .ok (.lstore_n 2, 1) := by decide +kernel
theorem dX10_choose_25 : decode cX10_choose 25 = .ok (.iinc 4 1, 3) := by decide +kernel
theorem dX10_choose_28 : decode cX10_choose 28 = .ok (.goto (-23), 3) := by decide +kernel
theorem dX10_choose_31 : decode cX10_choose 31 = .ok (.lload_n 2, 1) := by decide +kernel
theorem dX10_choose_32 : decode cX10_choose 32 = .ok (.lreturn, 1) := by decide +kernel
theorem dX10_luck_0 : decode cX10_luck 0 = .ok (.iload_n 1, 1) := by decide +kernel
theorem dX10_luck_1 : decode cX10_luck 1 = .ok (.invokestatic 66, 3) := by decide +kernel
theorem dX10_luck_4 : decode cX10_luck 4 = .ok (.ifCond .ne 7, 3) := by decide +kernel
theorem dX10_luck_7 : decode cX10_luck 7 = .ok (.ldc2_w 147, 3) := by decide +kernel
theorem dX10_luck_10 : decode cX10_luck 10 = .ok (.lreturn, 1) := by decide +kernel
theorem dX10_luck_11 : decode cX10_luck 11 = .ok (.iload_n 2, 1) := by decide +kernel
theorem dX10_luck_12 : decode cX10_luck 12 = .ok (.invokestatic 237, 3) := by decide +kernel
theorem dX10_luck_15 : decode cX10_luck 15 = .ok (.ifCond .eq 10, 3) := by decide +kernel
theorem dX10_luck_18 : decode cX10_luck 18 = .ok (.iload_n 3, 1) := by decide +kernel
theorem dX10_luck_19 : decode cX10_luck 19 = .ok (.invokestatic 152, 3) := by decide +kernel
theorem dX10_luck_22 : decode cX10_luck 22 = .ok (.ifCond .ne 7, 3) := by decide +kernel
theorem dX10_luck_25 : decode cX10_luck 25 = .ok (.ldc2_w 155, 3) := by decide +kernel
theorem dX10_luck_28 : decode cX10_luck 28 = .ok (.lreturn, 1) := by decide +kernel
theorem dX10_luck_29 : decode cX10_luck 29 = .ok (.aload_n 0, 1) := by decide +kernel
theorem dX10_luck_30 : decode cX10_luck 30 = .ok (.invokevirtual 122, 3) := by decide +kernel
theorem dX10_luck_33 : decode cX10_luck 33 = .ok (.ifCond .lt 7, 3) := by decide +kernel
theorem dX10_luck_36 : decode cX10_luck 36 = .ok (.ldc2_w 157, 3) := by decide +kernel
theorem dX10_luck_39 : decode cX10_luck 39 = .ok (.lreturn, 1) := by decide +kernel
theorem dX10_luck_40 : decode cX10_luck 40 = .ok (.aload_n 0, 1) := by decide +kernel
theorem dX10_luck_41 : decode cX10_luck 41 = .ok (.iload_n 1, 1) := by decide +kernel
theorem dX10_luck_42 : decode cX10_luck 42 = .ok (.iload_n 2, 1) := by decide +kernel
theorem dX10_luck_43 : decode cX10_luck 43 = .ok (.invokevirtual 240, 3) := by decide +kernel
theorem dX10_luck_46 : decode cX10_luck 46 = .ok (.lconst 0, 1) := by decide +kernel
theorem dX10_luck_47 : decode cX10_luck 47 = .ok (.lstore 4, 2) := by decide +kernel
theorem dX10_luck_49 : decode cX10_luck 49 = .ok (.aload_n 0, 1) := by decide +kernel
theorem dX10_luck_50 : decode cX10_luck 50 = .ok (.getfield 227, 3) := by decide +kernel
theorem dX10_luck_53 : decode cX10_luck 53 = .ok (.istore 6, 2) := by decide +kernel
theorem dX10_luck_55 : decode cX10_luck 55 = .ok (.iload 6, 2) := by decide +kernel
theorem dX10_luck_57 : decode cX10_luck 57 = .ok (.aload_n 0, 1) := by decide +kernel
theorem dX10_luck_58 : decode cX10_luck 58 = .ok (.getfield 230, 3) := by decide +kernel
theorem dX10_luck_61 : decode cX10_luck 61 = .ok (.if_icmp .gt 23, 3) := by decide +kernel
theorem dX10_luck_64 : decode cX10_luck 64 = .ok (.lload 4, 2) := by decide +kernel
theorem dX10_luck_66 : decode cX10_luck 66 = .ok (.aload_n 0, 1) := by decide +kernel
theorem dX10_luck_67 : decode cX10_luck 67 = .ok (.getfield 230, 3) := by decide +kernel
theorem dX10_luck_70 : decode cX10_luck 70 = .ok (.iload 6, 2) := by decide +kernel
theorem dX10_luck_72 : decode cX10_luck 72 = .ok (.invokestatic 243, 3) := by decide +kernel
theorem dX10_luck_75 : decode cX10_luck 75 = .ok (.ladd, 1) := by decide +kernel
theorem dX10_luck_76 : decode cX10_luck 76 = .ok (.lstore 4, 2) := by decide +kernel
theorem dX10_luck_78 : decode cX10_luck 78 = .ok (.iinc 6 1, 3) := by decide +kernel
theorem dX10_luck_81 : decode cX10_luck 81 = .ok (.goto (-26), 3) := by decide +kernel
theorem dX10_luck_84 : decode cX10_luck 84 = .ok (.lload 4, 2) := by decide +kernel
theorem dX10_luck_86 : decode cX10_luck 86 = .ok (.lconst 1, 1) := by decide +kernel
theorem dX10_luck_87 : decode cX10_luck 87 = .ok (.aload_n 0, 1) := by decide +kernel
theorem dX10_luck_88 : decode cX10_luck 88 = .ok (.getfield 230, 3) := by decide +kernel
theorem dX10_luck_91 : decode cX10_luck 91 = .ok (.lshl, 1) := by decide +kernel
theorem dX10_luck_92 : decode cX10_luck 92 = .ok (.iload_n 3, 1) := by decide +kernel
theorem dX10_luck_93 : decode cX10_luck 93 = .ok (.invokestatic 169, 3) := by decide +kernel
theorem dX10_luck_96 : decode cX10_luck 96 = .ok (.lreturn, 1) := by decide +kernel
theorem dX10_isTrial_0 : decode cX10_isTrial 0 = .ok (.iload_n 1, 1) := by decide +kernel
theorem dX10_isTrial_1 : decode cX10_isTrial 1 = .ok (.i2l, 1) := by decide +kernel
theorem dX10_isTrial_2 : decode cX10_isTrial 2 = .ok (.lconst 0, 1) := by decide +kernel
theorem dX10_isTrial_3 : decode cX10_isTrial 3 = .ok (.aload_n 0, 1) := by decide +kernel
theorem dX10_isTrial_4 : decode cX10_isTrial 4 = .ok (.getfield 246, 3) := by decide +kernel
theorem dX10_isTrial_7 : decode cX10_isTrial 7 = .ok (.iconst 1, 1) := by decide +kernel
theorem dX10_isTrial_8 : decode cX10_isTrial 8 = .ok (.isub, 1) := by decide +kernel
theorem dX10_isTrial_9 : decode cX10_isTrial 9 = .ok (.i2l, 1) := by decide +kernel
theorem dX10_isTrial_10 : decode cX10_isTrial 10 = .ok (.invokestatic 58, 3) := by decide +kernel
theorem dX10_isTrial_13 : decode cX10_isTrial 13 = .ok (.ireturn, 1) := by decide +kernel
theorem dX10_trial_0 : decode cX10_trial 0 = .ok (.iload_n 1, 1) := by decide +kernel
theorem dX10_trial_1 : decode cX10_trial 1 = .ok (.invokestatic 66, 3) := by decide +kernel
theorem dX10_trial_4 : decode cX10_trial 4 = .ok (.ifCond .ne 5, 3) := by decide +kernel
theorem dX10_trial_7 : decode cX10_trial 7 = .ok (.iconst (-1), 1) := by decide +kernel
theorem dX10_trial_8 : decode cX10_trial 8 = .ok (.ireturn, 1) := by decide +kernel
theorem dX10_trial_9 : decode cX10_trial 9 = .ok (.iload_n 2, 1) := by decide +kernel
theorem dX10_trial_10 : decode cX10_trial 10 = .ok (.invokestatic 149, 3) := by decide +kernel
theorem dX10_trial_13 : decode cX10_trial 13 = .ok (.ifCond .ne 6, 3) := by decide +kernel
theorem dX10_trial_16 : decode cX10_trial 16 = .ok (.bipush (-2), 2) := by decide +kernel
theorem dX10_trial_18 : decode cX10_trial 18 = .ok (.ireturn, 1) := by decide +kernel
theorem dX10_trial_19 : decode cX10_trial 19 = .ok (.aload_n 0, 1) := by decide +kernel
theorem dX10_trial_20 : decode cX10_trial 20 = .ok (.invokevirtual 122, 3) := by decide +kernel
theorem dX10_trial_23 : decode cX10_trial 23 = .ok (.ifCond .lt 6, 3) := by decide +kernel
theorem dX10_trial_26 : decode cX10_trial 26 = .ok (.bipush (-5), 2) := by decide +kernel
theorem dX10_trial_28 : decode cX10_trial 28 = .ok (.ireturn, 1) := by decide +kernel
theorem dX10_trial_29 : decode cX10_trial 29 = .ok (.aload_n 0, 1) := by decide +kernel
theorem dX10_trial_30 : decode cX10_trial 30 = .ok (.getfield 246, 3) := by decide +kernel
theorem dX10_trial_33 : decode cX10_trial 33 = .ok (.bipush 20, 2) := by decide +kernel
theorem dX10_trial_35 : decode cX10_trial 35 = .ok (.if_icmp .ne 6, 3) := by decide +kernel
theorem dX10_trial_38 : decode cX10_trial 38 = .ok (.bipush (-4), 2) := by decide +kernel
theorem dX10_trial_40 : decode cX10_trial 40 = .ok (.ireturn, 1) := by decide +kernel
theorem dX10_trial_41 : decode cX10_trial 41 = .ok (.aload_n 0, 1) := by decide +kernel
theorem dX10_trial_42 : decode cX10_trial 42 = .ok (.iload_n 1, 1) := by decide +kernel
theorem dX10_trial_43 : decode cX10_trial 43 = .ok (.invokevirtual 127, 3) := by decide +kernel
theorem dX10_trial_46 : decode cX10_trial 46 = .ok (.aload_n 0, 1) := by decide +kernel
theorem dX10_trial_47 : decode cX10_trial 47 = .ok (.bipush 24, 2) := by decide +kernel
theorem dX10_trial_49 : decode cX10_trial 49 = .ok (.invokevirtual 159, 3) := by decide +kernel
theorem dX10_trial_52 : decode cX10_trial 52 = .ok (.aload_n 0, 1) := by decide +kernel
theorem dX10_trial_53 : decode cX10_trial 53 = .ok (.invokevirtual 162, 3) := by decide +kernel
theorem dX10_trial_56 : decode cX10_trial 56 = .ok (.lstore_n 3, 1) := by decide +kernel
theorem dX10_trial_57 : decode cX10_trial 57 = .ok (.aload_n 0, 1) := by decide +kernel
theorem dX10_trial_58 : decode cX10_trial 58 = .ok (.getfield 41, 3) := by decide +kernel
theorem dX10_trial_61 : decode cX10_trial 61 = .ok (.aload_n 0, 1) := by decide +kernel
theorem dX10_trial_62 : decode cX10_trial 62 = .ok (.getfield 246, 3) := by decide +kernel
theorem dX10_trial_65 : decode cX10_trial 65 = .ok (.iload_n 1, 1) := by decide +kernel
theorem dX10_trial_66 : decode cX10_trial 66 = .ok (.iastore, 1) := by decide +kernel
theorem dX10_trial_67 : decode cX10_trial 67 = .ok (.aload_n 0, 1) := by decide +kernel
theorem dX10_trial_68 : decode cX10_trial 68 = .ok (.getfield 44, 3) := by decide +kernel
theorem dX10_trial_71 : decode cX10_trial 71 = .ok (.aload_n 0, 1) := by decide +kernel
theorem dX10_trial_72 : decode cX10_trial 72 = .ok (.getfield 246, 3) := by decide +kernel
theorem dX10_trial_75 : decode cX10_trial 75 = .ok (.iload_n 2, 1) := by decide +kernel
theorem dX10_trial_76 : decode cX10_trial 76 = .ok (.iastore, 1) := by decide +kernel
theorem dX10_trial_77 : decode cX10_trial 77 = .ok (.aload_n 0, 1) := by decide +kernel
theorem dX10_trial_78 : decode cX10_trial 78 = .ok (.getfield 47, 3) := by decide +kernel
theorem dX10_trial_81 : decode cX10_trial 81 = .ok (.aload_n 0, 1) := by decide +kernel
theorem dX10_trial_82 : decode cX10_trial 82 = .ok (.getfield 246, 3) := by decide +kernel
theorem dX10_trial_85 : decode cX10_trial 85 = .ok (.lload_n 3, 1) := by decide +kernel
theorem dX10_trial_86 : decode cX10_trial 86 = .ok (.lconst 0, 1) := by decide +kernel
theorem dX10_trial_87 : decode cX10_trial 87 = .ok (.lcmp, 1) := by decide +kernel
theorem dX10_trial_88 : decode cX10_trial 88 = .ok (.ifCond .ne 7, 3) := by decide +kernel
theorem dX10_trial_91 : decode cX10_trial 91 = .ok (.iconst 0, 1) := by decide +kernel
theorem dX10_trial_92 : decode cX10_trial 92 = .ok (.goto 15, 3) := by decide +kernel
theorem dX10_trial_95 : decode cX10_trial 95 = .ok (.ldc2_w 193, 3) := by decide +kernel
theorem dX10_trial_98 : decode cX10_trial 98 = .ok (.aload_n 0, 1) := by decide +kernel
theorem dX10_trial_99 : decode cX10_trial 99 = .ok (.iload_n 2, 1) := by decide +kernel
theorem dX10_trial_100 : decode cX10_trial 100 = .ok (.invokevirtual 165, 3) := by decide +kernel
theorem dX10_trial_103 : decode cX10_trial 103 = .ok (.lmul, 1) := by decide +kernel
theorem dX10_trial_104 : decode cX10_trial 104 = .ok (.lload_n 3, 1) := by decide +kernel
theorem dX10_trial_105 : decode cX10_trial 105 = .ok (.ldiv, 1) := by decide +kernel
theorem dX10_trial_106 : decode cX10_trial 106 = .ok (.l2i, 1) := by decide +kernel
theorem dX10_trial_107 : decode cX10_trial 107 = .ok (.iastore, 1) := by decide +kernel
theorem dX10_trial_108 : decode cX10_trial 108 = .ok (.aload_n 0, 1) := by decide +kernel
theorem dX10_trial_109 : decode cX10_trial 109 = .ok (.dup, 1) := by decide +kernel
theorem dX10_trial_110 : decode cX10_trial 110 = .ok (.getfield 246, 3) := by decide +kernel
theorem dX10_trial_113 : decode cX10_trial 113 = .ok (.iconst 1, 1) := by decide +kernel
theorem dX10_trial_114 : decode cX10_trial 114 = .ok (.iadd, 1) := by decide +kernel
theorem dX10_trial_115 : decode cX10_trial 115 = .ok (.putfield 246, 3) := by decide +kernel
theorem dX10_trial_118 : decode cX10_trial 118 = .ok (.aload_n 0, 1) := by decide +kernel
theorem dX10_trial_119 : decode cX10_trial 119 = .ok (.getfield 246, 3) := by decide +kernel
theorem dX10_trial_122 : decode cX10_trial 122 = .ok (.iconst 1, 1) := by decide +kernel
theorem dX10_trial_123 : decode cX10_trial 123 = .ok (.isub, 1) := by decide +kernel
theorem dX10_trial_124 : decode cX10_trial 124 = .ok (.ireturn, 1) := by decide +kernel
theorem dX10_of_0 : decode cX10_of 0 = .ok (.aload_n 0, 1) := by decide +kernel
theorem dX10_of_1 : decode cX10_of 1 = .ok (.iload_n 1, 1) := by decide +kernel
theorem dX10_of_2 : decode cX10_of 2 = .ok (.invokevirtual 249, 3) := by decide +kernel
theorem dX10_of_5 : decode cX10_of 5 = .ok (.ifCond .ne 5, 3) := by decide +kernel
theorem dX10_of_8 : decode cX10_of 8 = .ok (.iconst (-1), 1) := by decide +kernel
theorem dX10_of_9 : decode cX10_of 9 = .ok (.ireturn, 1) := by decide +kernel
theorem dX10_of_10 : decode cX10_of 10 = .ok (.iload_n 2, 1) := by decide +kernel
theorem dX10_of_11 : decode cX10_of 11 = .ok (.tableswitch 59 0 3 #[29, 36, 43, 50], 29) := by decide +kernel
theorem dX10_of_40 : decode cX10_of 40 = .ok (.aload_n 0, 1) := by decide +kernel
theorem dX10_of_41 : decode cX10_of 41 = .ok (.getfield 41, 3) := by decide +kernel
theorem dX10_of_44 : decode cX10_of 44 = .ok (.iload_n 1, 1) := by decide +kernel
theorem dX10_of_45 : decode cX10_of 45 = .ok (.iaload, 1) := by decide +kernel
theorem dX10_of_46 : decode cX10_of 46 = .ok (.ireturn, 1) := by decide +kernel
theorem dX10_of_47 : decode cX10_of 47 = .ok (.aload_n 0, 1) := by decide +kernel
theorem dX10_of_48 : decode cX10_of 48 = .ok (.getfield 44, 3) := by decide +kernel
theorem dX10_of_51 : decode cX10_of 51 = .ok (.iload_n 1, 1) := by decide +kernel
theorem dX10_of_52 : decode cX10_of 52 = .ok (.iaload, 1) := by decide +kernel
theorem dX10_of_53 : decode cX10_of 53 = .ok (.ireturn, 1) := by decide +kernel
theorem dX10_of_54 : decode cX10_of 54 = .ok (.aload_n 0, 1) := by decide +kernel
theorem dX10_of_55 : decode cX10_of 55 = .ok (.getfield 47, 3) := by decide +kernel
theorem dX10_of_58 : decode cX10_of 58 = .ok (.iload_n 1, 1) := by decide +kernel
theorem dX10_of_59 : decode cX10_of 59 = .ok (.iaload, 1) := by decide +kernel
theorem dX10_of_60 : decode cX10_of 60 = .ok (.ireturn, 1) := by decide +kernel
theorem dX10_of_61 : decode cX10_of 61 = .ok (.aload_n 0, 1) := by decide +kernel
theorem dX10_of_62 : decode cX10_of 62 = .ok (.getfield 252, 3) := by decide +kernel
theorem dX10_of_65 : decode cX10_of 65 = .ok (.iload_n 1, 1) := by decide +kernel
theorem dX10_of_66 : decode cX10_of 66 = .ok (.ishr, 1) := by decide +kernel
theorem dX10_of_67 : decode cX10_of 67 = .ok (.iconst 1, 1) := by decide +kernel
theorem dX10_of_68 : decode cX10_of 68 = .ok (.iand, 1) := by decide +kernel
theorem dX10_of_69 : decode cX10_of 69 = .ok (.ireturn, 1) := by decide +kernel
theorem dX10_of_70 : decode cX10_of 70 = .ok (.bipush (-2), 2) := by decide +kernel
theorem dX10_of_72 : decode cX10_of 72 = .ok (.ireturn, 1) := by decide +kernel
theorem dX10_print_0 : decode cX10_print 0 = .ok (.aload_n 0, 1) := by decide +kernel
theorem dX10_print_1 : decode cX10_print 1 = .ok (.iload_n 1, 1) := by decide +kernel
theorem dX10_print_2 : decode cX10_print 2 = .ok (.invokevirtual 249, 3) := by decide +kernel
theorem dX10_print_5 : decode cX10_print 5 = .ok (.ifCond .ne 5, 3) := by decide +kernel
theorem dX10_print_8 : decode cX10_print 8 = .ok (.iconst (-1), 1) := by decide +kernel
theorem dX10_print_9 : decode cX10_print 9 = .ok (.ireturn, 1) := by decide +kernel
theorem dX10_print_10 : decode cX10_print 10 = .ok (.aload_n 0, 1) := by decide +kernel
theorem dX10_print_11 : decode cX10_print 11 = .ok (.getfield 252, 3) := by decide +kernel
theorem dX10_print_14 : decode cX10_print 14 = .ok (.iload_n 1, 1) := by decide +kernel
theorem dX10_print_15 : decode cX10_print 15 = .ok (.ishr, 1) := by decide +kernel
theorem dX10_print_16 : decode cX10_print 16 = .ok (.iconst 1, 1) := by decide +kernel
theorem dX10_print_17 : decode cX10_print 17 = .ok (.iand, 1) := by decide +kernel
theorem dX10_print_18 : decode cX10_print 18 = .ok (.istore_n 3, 1) := by decide +kernel
theorem dX10_print_19 : decode cX10_print 19 = .ok (.aload_n 0, 1) := by decide +kernel
theorem dX10_print_20 : decode cX10_print 20 = .ok (.iload_n 2, 1) := by decide +kernel
theorem dX10_print_21 : decode cX10_print 21 = .ok (.ifCond .eq 14, 3) := by decide +kernel
theorem dX10_print_24 : decode cX10_print 24 = .ok (.aload_n 0, 1) := by decide +kernel
theorem dX10_print_25 : decode cX10_print 25 = .ok (.getfield 252, 3) := by decide +kernel
theorem dX10_print_28 : decode cX10_print 28 = .ok (.iconst 1, 1) := by decide +kernel
theorem dX10_print_29 : decode cX10_print 29 = .ok (.iload_n 1, 1) := by decide +kernel
theorem dX10_print_30 : decode cX10_print 30 = .ok (.ishl, 1) := by decide +kernel
theorem dX10_print_31 : decode cX10_print 31 = .ok (.ior, 1) := by decide +kernel
theorem dX10_print_32 : decode cX10_print 32 = .ok (.goto 13, 3) := by decide +kernel
theorem dX10_print_35 : decode cX10_print 35 = .ok (.aload_n 0, 1) := by decide +kernel
theorem dX10_print_36 : decode cX10_print 36 = .ok (.getfield 252, 3) := by decide +kernel
theorem dX10_print_39 : decode cX10_print 39 = .ok (.iconst 1, 1) := by decide +kernel
theorem dX10_print_40 : decode cX10_print 40 = .ok (.iload_n 1, 1) := by decide +kernel
theorem dX10_print_41 : decode cX10_print 41 = .ok (.ishl, 1) := by decide +kernel
theorem dX10_print_42 : decode cX10_print 42 = .ok (.iconst (-1), 1) := by decide +kernel
theorem dX10_print_43 : decode cX10_print 43 = .ok (.ixor, 1) := by decide +kernel
theorem dX10_print_44 : decode cX10_print 44 = .ok (.iand, 1) := by decide +kernel
theorem dX10_print_45 : decode cX10_print 45 = .ok (.putfield 252, 3) := by decide +kernel
theorem dX10_print_48 : decode cX10_print 48 = .ok (.iload_n 3, 1) := by decide +kernel
theorem dX10_print_49 : decode cX10_print 49 = .ok (.ireturn, 1) := by decide +kernel
theorem dX10_lean_0 : decode cX10_lean 0 = .ok (.iload_n 1, 1) := by decide +kernel
theorem dX10_lean_1 : decode cX10_lean 1 = .ok (.invokestatic 152, 3) := by decide +kernel
theorem dX10_lean_4 : decode cX10_lean 4 = .ok (.ifCond .ne 7, 3) := by decide +kernel
theorem dX10_lean_7 : decode cX10_lean 7 = .ok (.ldc2_w 155, 3) := by decide +kernel
theorem dX10_lean_10 : decode cX10_lean 10 = .ok (.lreturn, 1) := by decide +kernel
theorem dX10_lean_11 : decode cX10_lean 11 = .ok (.aload_n 0, 1) := by decide +kernel
theorem dX10_lean_12 : decode cX10_lean 12 = .ok (.getfield 252, 3) := by decide +kernel
theorem dX10_lean_15 : decode cX10_lean 15 = .ok (.invokestatic 255, 3) := by decide +kernel
theorem dX10_lean_18 : decode cX10_lean 18 = .ok (.istore_n 2, 1) := by decide +kernel
theorem dX10_lean_19 : decode cX10_lean 19 = .ok (.iload_n 2, 1) := by decide +kernel
theorem dX10_lean_20 : decode cX10_lean 20 = .ok (.ifCond .ne 7, 3) := by decide +kernel
theorem dX10_lean_23 : decode cX10_lean 23 = .ok (.ldc2_w 191, 3) := by decide +kernel
theorem dX10_lean_26 : decode cX10_lean 26 = .ok (.lreturn, 1) := by decide +kernel
theorem dX10_lean_27 : decode cX10_lean 27 = .ok (.lconst 0, 1) := by decide +kernel
theorem dX10_lean_28 : decode cX10_lean 28 = .ok (.lstore_n 3, 1) := by decide +kernel
theorem dX10_lean_29 : decode cX10_lean 29 = .ok (.lconst 0, 1) := by decide +kernel
theorem dX10_lean_30 : decode cX10_lean 30 = .ok (.lstore 5, 2) := by decide +kernel
theorem dX10_lean_32 : decode cX10_lean 32 = .ok (.iconst 0, 1) := by decide +kernel
theorem dX10_lean_33 : decode cX10_lean 33 = .ok (.istore 7, 2) := by decide +kernel
theorem dX10_lean_35 : decode cX10_lean 35 = .ok (.iload 7, 2) := by decide +kernel
theorem dX10_lean_37 : decode cX10_lean 37 = .ok (.aload_n 0, 1) := by decide +kernel
theorem dX10_lean_38 : decode cX10_lean 38 = .ok (.getfield 246, 3) := by decide +kernel
theorem dX10_lean_41 : decode cX10_lean 41 = .ok (.if_icmp .ge 50, 3) := by decide +kernel
theorem dX10_lean_44 : decode cX10_lean 44 = .ok (.lload_n 3, 1) := by decide +kernel
theorem dX10_lean_45 : decode cX10_lean 45 = .ok (.aload_n 0, 1) := by decide +kernel
theorem dX10_lean_46 : decode cX10_lean 46 = .ok (.getfield 47, 3) := by decide +kernel
theorem dX10_lean_49 : decode cX10_lean 49 = .ok (.iload 7, 2) := by decide +kernel
theorem dX10_lean_51 : decode cX10_lean 51 = .ok (.iaload, 1) := by decide +kernel
theorem dX10_lean_52 : decode cX10_lean 52 = .ok (.i2l, 1) := by decide +kernel
theorem dX10_lean_53 : decode cX10_lean 53 = .ok (.ladd, 1) := by decide +kernel
theorem dX10_lean_54 : decode cX10_lean 54 = .ok (.lstore_n 3, 1) := by decide +kernel
theorem dX10_lean_55 : decode cX10_lean 55 = .ok (.lload 5, 2) := by decide +kernel
theorem dX10_lean_57 : decode cX10_lean 57 = .ok (.aload_n 0, 1) := by decide +kernel
theorem dX10_lean_58 : decode cX10_lean 58 = .ok (.getfield 252, 3) := by decide +kernel
theorem dX10_lean_61 : decode cX10_lean 61 = .ok (.iload 7, 2) := by decide +kernel
theorem dX10_lean_63 : decode cX10_lean 63 = .ok (.ishr, 1) := by decide +kernel
theorem dX10_lean_64 : decode cX10_lean 64 = .ok (.iconst 1, 1) := by decide +kernel
theorem dX10_lean_65 : decode cX10_lean 65 = .ok (.iand, 1) := by decide +kernel
theorem dX10_lean_66 : decode cX10_lean 66 = .ok (.iconst 1, 1) := by decide +kernel
theorem dX10_lean_67 : decode cX10_lean 67 = .ok (.if_icmp .ne 14, 3) := by decide +kernel
theorem dX10_lean_70 : decode cX10_lean 70 = .ok (.aload_n 0, 1) := by decide +kernel
theorem dX10_lean_71 : decode cX10_lean 71 = .ok (.getfield 47, 3) := by decide +kernel
theorem dX10_lean_74 : decode cX10_lean 74 = .ok (.iload 7, 2) := by decide +kernel
theorem dX10_lean_76 : decode cX10_lean 76 = .ok (.iaload, 1) := by decide +kernel
theorem dX10_lean_77 : decode cX10_lean 77 = .ok (.i2l, 1) := by decide +kernel
theorem dX10_lean_78 : decode cX10_lean 78 = .ok (.goto 4, 3) := by decide +kernel
theorem dX10_lean_81 : decode cX10_lean 81 = .ok (.lconst 0, 1) := by decide +kernel
theorem dX10_lean_82 : decode cX10_lean 82 = .ok (.ladd, 1) := by decide +kernel
theorem dX10_lean_83 : decode cX10_lean 83 = .ok (.lstore 5, 2) := by decide +kernel
theorem dX10_lean_85 : decode cX10_lean 85 = .ok (.iinc 7 1, 3) := by decide +kernel
theorem dX10_lean_88 : decode cX10_lean 88 = .ok (.goto (-53), 3) := by decide +kernel
theorem dX10_lean_91 : decode cX10_lean 91 = .ok (.lload 5, 2) := by decide +kernel
end
section
theorem dX10_lean_93 : decode cX10_lean 93 = .ok (.aload_n 0, 1) := by decide +kernel
theorem dX10_lean_94 : decode cX10_lean 94 = .ok (.getfield 246, 3) := by decide +kernel
theorem dX10_lean_97 : decode cX10_lean 97 = .ok (.i2l, 1) := by decide +kernel
theorem dX10_lean_98 : decode cX10_lean 98 = .ok (.lmul, 1) := by decide +kernel
theorem dX10_lean_99 : decode cX10_lean 99 = .ok (.lload_n 3, 1) := by decide +kernel
theorem dX10_lean_100 : decode cX10_lean 100 = .ok (.iload_n 2, 1) := by decide +kernel
theorem dX10_lean_101 : decode cX10_lean 101 = .ok (.i2l, 1) := by decide +kernel
theorem dX10_lean_102 : decode cX10_lean 102 = .ok (.lmul, 1) := by decide +kernel
theorem dX10_lean_103 : decode cX10_lean 103 = .ok (.lsub, 1) := by decide +kernel
theorem dX10_lean_104 : decode cX10_lean 104 = .ok (.iload_n 2, 1) := by decide +kernel
theorem dX10_lean_105 : decode cX10_lean 105 = .ok (.i2l, 1) := by decide +kernel
theorem dX10_lean_106 : decode cX10_lean 106 = .ok (.aload_n 0, 1) := by decide +kernel
theorem dX10_lean_107 : decode cX10_lean 107 = .ok (.getfield 246, 3) := by decide +kernel
theorem dX10_lean_110 : decode cX10_lean 110 = .ok (.i2l, 1) := by decide +kernel
theorem dX10_lean_111 : decode cX10_lean 111 = .ok (.lmul, 1) := by decide +kernel
theorem dX10_lean_112 : decode cX10_lean 112 = .ok (.iload_n 1, 1) := by decide +kernel
theorem dX10_lean_113 : decode cX10_lean 113 = .ok (.invokestatic 169, 3) := by decide +kernel
theorem dX10_lean_116 : decode cX10_lean 116 = .ok (.lreturn, 1) := by decide +kernel
theorem dX10_isMan_0 : decode cX10_isMan 0 = .ok (.iload_n 0, 1) := by decide +kernel
theorem dX10_isMan_1 : decode cX10_isMan 1 = .ok (.i2l, 1) := by decide +kernel
theorem dX10_isMan_2 : decode cX10_isMan 2 = .ok (.lconst 0, 1) := by decide +kernel
theorem dX10_isMan_3 : decode cX10_isMan 3 = .ok (.ldc2_w 185, 3) := by decide +kernel
theorem dX10_isMan_6 : decode cX10_isMan 6 = .ok (.invokestatic 58, 3) := by decide +kernel
theorem dX10_isMan_9 : decode cX10_isMan 9 = .ok (.ireturn, 1) := by decide +kernel
theorem dX10_reads_0 : decode cX10_reads 0 = .ok (.iload_n 1, 1) := by decide +kernel
theorem dX10_reads_1 : decode cX10_reads 1 = .ok (.invokestatic 258, 3) := by decide +kernel
theorem dX10_reads_4 : decode cX10_reads 4 = .ok (.ifCond .ne 5, 3) := by decide +kernel
theorem dX10_reads_7 : decode cX10_reads 7 = .ok (.iconst (-1), 1) := by decide +kernel
theorem dX10_reads_8 : decode cX10_reads 8 = .ok (.ireturn, 1) := by decide +kernel
theorem dX10_reads_9 : decode cX10_reads 9 = .ok (.iload_n 2, 1) := by decide +kernel
theorem dX10_reads_10 : decode cX10_reads 10 = .ok (.i2l, 1) := by decide +kernel
theorem dX10_reads_11 : decode cX10_reads 11 = .ok (.lconst 0, 1) := by decide +kernel
theorem dX10_reads_12 : decode cX10_reads 12 = .ok (.ldc2_w 261, 3) := by decide +kernel
theorem dX10_reads_15 : decode cX10_reads 15 = .ok (.invokestatic 58, 3) := by decide +kernel
theorem dX10_reads_18 : decode cX10_reads 18 = .ok (.ifCond .ne 6, 3) := by decide +kernel
theorem dX10_reads_21 : decode cX10_reads 21 = .ok (.bipush (-2), 2) := by decide +kernel
theorem dX10_reads_23 : decode cX10_reads 23 = .ok (.ireturn, 1) := by decide +kernel
theorem dX10_reads_24 : decode cX10_reads 24 = .ok (.aload_n 0, 1) := by decide +kernel
theorem dX10_reads_25 : decode cX10_reads 25 = .ok (.getfield 50, 3) := by decide +kernel
theorem dX10_reads_28 : decode cX10_reads 28 = .ok (.iload_n 1, 1) := by decide +kernel
theorem dX10_reads_29 : decode cX10_reads 29 = .ok (.iaload, 1) := by decide +kernel
theorem dX10_reads_30 : decode cX10_reads 30 = .ok (.istore_n 3, 1) := by decide +kernel
theorem dX10_reads_31 : decode cX10_reads 31 = .ok (.aload_n 0, 1) := by decide +kernel
theorem dX10_reads_32 : decode cX10_reads 32 = .ok (.getfield 50, 3) := by decide +kernel
theorem dX10_reads_35 : decode cX10_reads 35 = .ok (.iload_n 1, 1) := by decide +kernel
theorem dX10_reads_36 : decode cX10_reads 36 = .ok (.iload_n 2, 1) := by decide +kernel
theorem dX10_reads_37 : decode cX10_reads 37 = .ok (.iastore, 1) := by decide +kernel
theorem dX10_reads_38 : decode cX10_reads 38 = .ok (.iload_n 3, 1) := by decide +kernel
theorem dX10_reads_39 : decode cX10_reads 39 = .ok (.ireturn, 1) := by decide +kernel
theorem dX10_bar_0 : decode cX10_bar 0 = .ok (.iload_n 1, 1) := by decide +kernel
theorem dX10_bar_1 : decode cX10_bar 1 = .ok (.i2l, 1) := by decide +kernel
theorem dX10_bar_2 : decode cX10_bar 2 = .ok (.lconst 0, 1) := by decide +kernel
theorem dX10_bar_3 : decode cX10_bar 3 = .ok (.ldc2_w 193, 3) := by decide +kernel
theorem dX10_bar_6 : decode cX10_bar 6 = .ok (.invokestatic 58, 3) := by decide +kernel
theorem dX10_bar_9 : decode cX10_bar 9 = .ok (.ifCond .ne 6, 3) := by decide +kernel
theorem dX10_bar_12 : decode cX10_bar 12 = .ok (.bipush (-2), 2) := by decide +kernel
theorem dX10_bar_14 : decode cX10_bar 14 = .ok (.ireturn, 1) := by decide +kernel
theorem dX10_bar_15 : decode cX10_bar 15 = .ok (.aload_n 0, 1) := by decide +kernel
theorem dX10_bar_16 : decode cX10_bar 16 = .ok (.getfield 54, 3) := by decide +kernel
theorem dX10_bar_19 : decode cX10_bar 19 = .ok (.istore_n 2, 1) := by decide +kernel
theorem dX10_bar_20 : decode cX10_bar 20 = .ok (.aload_n 0, 1) := by decide +kernel
theorem dX10_bar_21 : decode cX10_bar 21 = .ok (.iload_n 1, 1) := by decide +kernel
theorem dX10_bar_22 : decode cX10_bar 22 = .ok (.putfield 54, 3) := by decide +kernel
theorem dX10_bar_25 : decode cX10_bar 25 = .ok (.iload_n 2, 1) := by decide +kernel
theorem dX10_bar_26 : decode cX10_bar 26 = .ok (.ireturn, 1) := by decide +kernel
theorem dX10_clubBy_0 : decode cX10_clubBy 0 = .ok (.iconst 0, 1) := by decide +kernel
theorem dX10_clubBy_1 : decode cX10_clubBy 1 = .ok (.istore_n 2, 1) := by decide +kernel
theorem dX10_clubBy_2 : decode cX10_clubBy 2 = .ok (.iconst 0, 1) := by decide +kernel
theorem dX10_clubBy_3 : decode cX10_clubBy 3 = .ok (.istore_n 3, 1) := by decide +kernel
theorem dX10_clubBy_4 : decode cX10_clubBy 4 = .ok (.iload_n 3, 1) := by decide +kernel
theorem dX10_clubBy_5 : decode cX10_clubBy 5 = .ok (.bipush 8, 2) := by decide +kernel
theorem dX10_clubBy_7 : decode cX10_clubBy 7 = .ok (.if_icmp .ge 102, 3) := by decide +kernel
theorem dX10_clubBy_10 : decode cX10_clubBy 10 = .ok (.iconst 0, 1) := by decide +kernel
theorem dX10_clubBy_11 : decode cX10_clubBy 11 = .ok (.istore 4, 2) := by decide +kernel
theorem dX10_clubBy_13 : decode cX10_clubBy 13 = .ok (.iconst 0, 1) := by decide +kernel
theorem dX10_clubBy_14 : decode cX10_clubBy 14 = .ok (.istore 5, 2) := by decide +kernel
theorem dX10_clubBy_16 : decode cX10_clubBy 16 = .ok (.iload 5, 2) := by decide +kernel
theorem dX10_clubBy_18 : decode cX10_clubBy 18 = .ok (.aload_n 0, 1) := by decide +kernel
theorem dX10_clubBy_19 : decode cX10_clubBy 19 = .ok (.getfield 246, 3) := by decide +kernel
theorem dX10_clubBy_22 : decode cX10_clubBy 22 = .ok (.if_icmp .ge 66, 3) := by decide +kernel
theorem dX10_clubBy_25 : decode cX10_clubBy 25 = .ok (.aload_n 0, 1) := by decide +kernel
theorem dX10_clubBy_26 : decode cX10_clubBy 26 = .ok (.getfield 50, 3) := by decide +kernel
theorem dX10_clubBy_29 : decode cX10_clubBy 29 = .ok (.iload_n 3, 1) := by decide +kernel
theorem dX10_clubBy_30 : decode cX10_clubBy 30 = .ok (.iaload, 1) := by decide +kernel
theorem dX10_clubBy_31 : decode cX10_clubBy 31 = .ok (.iload_n 1, 1) := by decide +kernel
theorem dX10_clubBy_32 : decode cX10_clubBy 32 = .ok (.iand, 1) := by decide +kernel
theorem dX10_clubBy_33 : decode cX10_clubBy 33 = .ok (.iload 5, 2) := by decide +kernel
theorem dX10_clubBy_35 : decode cX10_clubBy 35 = .ok (.ishr, 1) := by decide +kernel
theorem dX10_clubBy_36 : decode cX10_clubBy 36 = .ok (.iconst 1, 1) := by decide +kernel
theorem dX10_clubBy_37 : decode cX10_clubBy 37 = .ok (.iand, 1) := by decide +kernel
theorem dX10_clubBy_38 : decode cX10_clubBy 38 = .ok (.iconst 1, 1) := by decide +kernel
theorem dX10_clubBy_39 : decode cX10_clubBy 39 = .ok (.if_icmp .ne 7, 3) := by decide +kernel
theorem dX10_clubBy_42 : decode cX10_clubBy 42 = .ok (.iconst 1, 1) := by decide +kernel
theorem dX10_clubBy_43 : decode cX10_clubBy 43 = .ok (.goto 4, 3) := by decide +kernel
theorem dX10_clubBy_46 : decode cX10_clubBy 46 = .ok (.iconst 0, 1) := by decide +kernel
theorem dX10_clubBy_47 : decode cX10_clubBy 47 = .ok (.istore 6, 2) := by decide +kernel
theorem dX10_clubBy_49 : decode cX10_clubBy 49 = .ok (.iload 4, 2) := by decide +kernel
theorem dX10_clubBy_51 : decode cX10_clubBy 51 = .ok (.iload 6, 2) := by decide +kernel
theorem dX10_clubBy_53 : decode cX10_clubBy 53 = .ok (.ifCond .eq 25, 3) := by decide +kernel
theorem dX10_clubBy_56 : decode cX10_clubBy 56 = .ok (.aload_n 0, 1) := by decide +kernel
theorem dX10_clubBy_57 : decode cX10_clubBy 57 = .ok (.getfield 47, 3) := by decide +kernel
theorem dX10_clubBy_60 : decode cX10_clubBy 60 = .ok (.iload 5, 2) := by decide +kernel
theorem dX10_clubBy_62 : decode cX10_clubBy 62 = .ok (.iaload, 1) := by decide +kernel
theorem dX10_clubBy_63 : decode cX10_clubBy 63 = .ok (.aload_n 0, 1) := by decide +kernel
theorem dX10_clubBy_64 : decode cX10_clubBy 64 = .ok (.getfield 54, 3) := by decide +kernel
theorem dX10_clubBy_67 : decode cX10_clubBy 67 = .ok (.if_icmp .lt 7, 3) := by decide +kernel
theorem dX10_clubBy_70 : decode cX10_clubBy 70 = .ok (.iconst 1, 1) := by decide +kernel
theorem dX10_clubBy_71 : decode cX10_clubBy 71 = .ok (.goto 8, 3) := by decide +kernel
theorem dX10_clubBy_74 : decode cX10_clubBy 74 = .ok (.iconst (-1), 1) := by decide +kernel
theorem dX10_clubBy_75 : decode cX10_clubBy 75 = .ok (.goto 4, 3) := by decide +kernel
theorem dX10_clubBy_78 : decode cX10_clubBy 78 = .ok (.iconst 0, 1) := by decide +kernel
theorem dX10_clubBy_79 : decode cX10_clubBy 79 = .ok (.iadd, 1) := by decide +kernel
theorem dX10_clubBy_80 : decode cX10_clubBy 80 = .ok (.istore 4, 2) := by decide +kernel
theorem dX10_clubBy_82 : decode cX10_clubBy 82 = .ok (.iinc 5 1, 3) := by decide +kernel
theorem dX10_clubBy_85 : decode cX10_clubBy 85 = .ok (.goto (-69), 3) := by decide +kernel
theorem dX10_clubBy_88 : decode cX10_clubBy 88 = .ok (.iload_n 2, 1) := by decide +kernel
theorem dX10_clubBy_89 : decode cX10_clubBy 89 = .ok (.iload 4, 2) := by decide +kernel
theorem dX10_clubBy_91 : decode cX10_clubBy 91 = .ok (.ifCond .le 9, 3) := by decide +kernel
theorem dX10_clubBy_94 : decode cX10_clubBy 94 = .ok (.iconst 1, 1) := by decide +kernel
theorem dX10_clubBy_95 : decode cX10_clubBy 95 = .ok (.iload_n 3, 1) := by decide +kernel
theorem dX10_clubBy_96 : decode cX10_clubBy 96 = .ok (.ishl, 1) := by decide +kernel
theorem dX10_clubBy_97 : decode cX10_clubBy 97 = .ok (.goto 4, 3) := by decide +kernel
theorem dX10_clubBy_100 : decode cX10_clubBy 100 = .ok (.iconst 0, 1) := by decide +kernel
theorem dX10_clubBy_101 : decode cX10_clubBy 101 = .ok (.ior, 1) := by decide +kernel
theorem dX10_clubBy_102 : decode cX10_clubBy 102 = .ok (.istore_n 2, 1) := by decide +kernel
theorem dX10_clubBy_103 : decode cX10_clubBy 103 = .ok (.iinc 3 1, 3) := by decide +kernel
theorem dX10_clubBy_106 : decode cX10_clubBy 106 = .ok (.goto (-102), 3) := by decide +kernel
theorem dX10_clubBy_109 : decode cX10_clubBy 109 = .ok (.iload_n 2, 1) := by decide +kernel
theorem dX10_clubBy_110 : decode cX10_clubBy 110 = .ok (.ireturn, 1) := by decide +kernel
theorem dX10_club_0 : decode cX10_club 0 = .ok (.aload_n 0, 1) := by decide +kernel
theorem dX10_club_1 : decode cX10_club 1 = .ok (.aload_n 0, 1) := by decide +kernel
theorem dX10_club_2 : decode cX10_club 2 = .ok (.getfield 252, 3) := by decide +kernel
theorem dX10_club_5 : decode cX10_club 5 = .ok (.invokevirtual 263, 3) := by decide +kernel
theorem dX10_club_8 : decode cX10_club 8 = .ok (.ireturn, 1) := by decide +kernel
theorem dX10_least_0 : decode cX10_least 0 = .ok (.iload_n 1, 1) := by decide +kernel
theorem dX10_least_1 : decode cX10_least 1 = .ok (.i2l, 1) := by decide +kernel
theorem dX10_least_2 : decode cX10_least 2 = .ok (.lconst 0, 1) := by decide +kernel
theorem dX10_least_3 : decode cX10_least 3 = .ok (.ldc2_w 266, 3) := by decide +kernel
theorem dX10_least_6 : decode cX10_least 6 = .ok (.invokestatic 58, 3) := by decide +kernel
theorem dX10_least_9 : decode cX10_least 9 = .ok (.ifCond .eq 10, 3) := by decide +kernel
theorem dX10_least_12 : decode cX10_least 12 = .ok (.iload_n 2, 1) := by decide +kernel
theorem dX10_least_13 : decode cX10_least 13 = .ok (.invokestatic 152, 3) := by decide +kernel
theorem dX10_least_16 : decode cX10_least 16 = .ok (.ifCond .ne 6, 3) := by decide +kernel
theorem dX10_least_19 : decode cX10_least 19 = .ok (.bipush (-2), 2) := by decide +kernel
theorem dX10_least_21 : decode cX10_least 21 = .ok (.ireturn, 1) := by decide +kernel
theorem dX10_least_22 : decode cX10_least 22 = .ok (.iconst 0, 1) := by decide +kernel
theorem dX10_least_23 : decode cX10_least 23 = .ok (.istore_n 3, 1) := by decide +kernel
theorem dX10_least_24 : decode cX10_least 24 = .ok (.iconst 0, 1) := by decide +kernel
theorem dX10_least_25 : decode cX10_least 25 = .ok (.istore 4, 2) := by decide +kernel
theorem dX10_least_27 : decode cX10_least 27 = .ok (.iconst 0, 1) := by decide +kernel
theorem dX10_least_28 : decode cX10_least 28 = .ok (.istore 5, 2) := by decide +kernel
theorem dX10_least_30 : decode cX10_least 30 = .ok (.iload 5, 2) := by decide +kernel
theorem dX10_least_32 : decode cX10_least 32 = .ok (.aload_n 0, 1) := by decide +kernel
theorem dX10_least_33 : decode cX10_least 33 = .ok (.getfield 246, 3) := by decide +kernel
theorem dX10_least_36 : decode cX10_least 36 = .ok (.if_icmp .ge 66, 3) := by decide +kernel
theorem dX10_least_39 : decode cX10_least 39 = .ok (.iload 4, 2) := by decide +kernel
theorem dX10_least_41 : decode cX10_least 41 = .ok (.bipush 12, 2) := by decide +kernel
theorem dX10_least_43 : decode cX10_least 43 = .ok (.if_icmp .ge 59, 3) := by decide +kernel
theorem dX10_least_46 : decode cX10_least 46 = .ok (.aload_n 0, 1) := by decide +kernel
theorem dX10_least_47 : decode cX10_least 47 = .ok (.getfield 252, 3) := by decide +kernel
theorem dX10_least_50 : decode cX10_least 50 = .ok (.iload 5, 2) := by decide +kernel
theorem dX10_least_52 : decode cX10_least 52 = .ok (.ishr, 1) := by decide +kernel
theorem dX10_least_53 : decode cX10_least 53 = .ok (.iconst 1, 1) := by decide +kernel
theorem dX10_least_54 : decode cX10_least 54 = .ok (.iand, 1) := by decide +kernel
theorem dX10_least_55 : decode cX10_least 55 = .ok (.ifCond .ne 7, 3) := by decide +kernel
theorem dX10_least_58 : decode cX10_least 58 = .ok (.iconst 1, 1) := by decide +kernel
theorem dX10_least_59 : decode cX10_least 59 = .ok (.goto 4, 3) := by decide +kernel
theorem dX10_least_62 : decode cX10_least 62 = .ok (.iconst 0, 1) := by decide +kernel
theorem dX10_least_63 : decode cX10_least 63 = .ok (.istore 6, 2) := by decide +kernel
theorem dX10_least_65 : decode cX10_least 65 = .ok (.iload_n 3, 1) := by decide +kernel
theorem dX10_least_66 : decode cX10_least 66 = .ok (.iload 6, 2) := by decide +kernel
theorem dX10_least_68 : decode cX10_least 68 = .ok (.ifCond .eq 10, 3) := by decide +kernel
theorem dX10_least_71 : decode cX10_least 71 = .ok (.iconst 1, 1) := by decide +kernel
theorem dX10_least_72 : decode cX10_least 72 = .ok (.iload 5, 2) := by decide +kernel
theorem dX10_least_74 : decode cX10_least 74 = .ok (.ishl, 1) := by decide +kernel
theorem dX10_least_75 : decode cX10_least 75 = .ok (.goto 4, 3) := by decide +kernel
theorem dX10_least_78 : decode cX10_least 78 = .ok (.iconst 0, 1) := by decide +kernel
theorem dX10_least_79 : decode cX10_least 79 = .ok (.ior, 1) := by decide +kernel
theorem dX10_least_80 : decode cX10_least 80 = .ok (.istore_n 3, 1) := by decide +kernel
theorem dX10_least_81 : decode cX10_least 81 = .ok (.iload 4, 2) := by decide +kernel
theorem dX10_least_83 : decode cX10_least 83 = .ok (.iload 6, 2) := by decide +kernel
theorem dX10_least_85 : decode cX10_least 85 = .ok (.ifCond .eq 7, 3) := by decide +kernel
theorem dX10_least_88 : decode cX10_least 88 = .ok (.iconst 1, 1) := by decide +kernel
theorem dX10_least_89 : decode cX10_least 89 = .ok (.goto 4, 3) := by decide +kernel
theorem dX10_least_92 : decode cX10_least 92 = .ok (.iconst 0, 1) := by decide +kernel
theorem dX10_least_93 : decode cX10_least 93 = .ok (.iadd, 1) := by decide +kernel
theorem dX10_least_94 : decode cX10_least 94 = .ok (.istore 4, 2) := by decide +kernel
theorem dX10_least_96 : decode cX10_least 96 = .ok (.iinc 5 1, 3) := by decide +kernel
theorem dX10_least_99 : decode cX10_least 99 = .ok (.goto (-69), 3) := by decide +kernel
theorem dX10_least_102 : decode cX10_least 102 = .ok (.bipush (-6), 2) := by decide +kernel
theorem dX10_least_104 : decode cX10_least 104 = .ok (.istore 5, 2) := by decide +kernel
theorem dX10_least_106 : decode cX10_least 106 = .ok (.iconst 0, 1) := by decide +kernel
theorem dX10_least_107 : decode cX10_least 107 = .ok (.istore 6, 2) := by decide +kernel
theorem dX10_least_109 : decode cX10_least 109 = .ok (.iconst 1, 1) := by decide +kernel
theorem dX10_least_110 : decode cX10_least 110 = .ok (.istore 7, 2) := by decide +kernel
theorem dX10_least_112 : decode cX10_least 112 = .ok (.iload 7, 2) := by decide +kernel
theorem dX10_least_114 : decode cX10_least 114 = .ok (.ifCond .eq 76, 3) := by decide +kernel
theorem dX10_least_117 : decode cX10_least 117 = .ok (.iload 5, 2) := by decide +kernel
theorem dX10_least_119 : decode cX10_least 119 = .ok (.ifCond .lt 16, 3) := by decide +kernel
theorem dX10_least_122 : decode cX10_least 122 = .ok (.iload 6, 2) := by decide +kernel
theorem dX10_least_124 : decode cX10_least 124 = .ok (.invokestatic 255, 3) := by decide +kernel
theorem dX10_least_127 : decode cX10_least 127 = .ok (.iload 5, 2) := by decide +kernel
theorem dX10_least_129 : decode cX10_least 129 = .ok (.invokestatic 255, 3) := by decide +kernel
theorem dX10_least_132 : decode cX10_least 132 = .ok (.if_icmp .ge 7, 3) := by decide +kernel
theorem dX10_least_135 : decode cX10_least 135 = .ok (.iconst 1, 1) := by decide +kernel
theorem dX10_least_136 : decode cX10_least 136 = .ok (.goto 4, 3) := by decide +kernel
theorem dX10_least_139 : decode cX10_least 139 = .ok (.iconst 0, 1) := by decide +kernel
theorem dX10_least_140 : decode cX10_least 140 = .ok (.istore 8, 2) := by decide +kernel
theorem dX10_least_142 : decode cX10_least 142 = .ok (.iload 8, 2) := by decide +kernel
theorem dX10_least_144 : decode cX10_least 144 = .ok (.ifCond .eq 23, 3) := by decide +kernel
theorem dX10_least_147 : decode cX10_least 147 = .ok (.aload_n 0, 1) := by decide +kernel
theorem dX10_least_148 : decode cX10_least 148 = .ok (.aload_n 0, 1) := by decide +kernel
theorem dX10_least_149 : decode cX10_least 149 = .ok (.getfield 252, 3) := by decide +kernel
theorem dX10_least_152 : decode cX10_least 152 = .ok (.iload 6, 2) := by decide +kernel
theorem dX10_least_154 : decode cX10_least 154 = .ok (.ior, 1) := by decide +kernel
theorem dX10_least_155 : decode cX10_least 155 = .ok (.invokevirtual 263, 3) := by decide +kernel
theorem dX10_least_158 : decode cX10_least 158 = .ok (.iload_n 1, 1) := by decide +kernel
theorem dX10_least_159 : decode cX10_least 159 = .ok (.iand, 1) := by decide +kernel
theorem dX10_least_160 : decode cX10_least 160 = .ok (.ifCond .ne 7, 3) := by decide +kernel
theorem dX10_least_163 : decode cX10_least 163 = .ok (.iload 6, 2) := by decide +kernel
theorem dX10_least_165 : decode cX10_least 165 = .ok (.istore 5, 2) := by decide +kernel
theorem dX10_least_167 : decode cX10_least 167 = .ok (.iload 6, 2) := by decide +kernel
theorem dX10_least_169 : decode cX10_least 169 = .ok (.iload_n 3, 1) := by decide +kernel
theorem dX10_least_170 : decode cX10_least 170 = .ok (.isub, 1) := by decide +kernel
theorem dX10_least_171 : decode cX10_least 171 = .ok (.iload_n 3, 1) := by decide +kernel
theorem dX10_least_172 : decode cX10_least 172 = .ok (.iand, 1) := by decide +kernel
theorem dX10_least_173 : decode cX10_least 173 = .ok (.istore 6, 2) := by decide +kernel
theorem dX10_least_175 : decode cX10_least 175 = .ok (.iload 6, 2) := by decide +kernel
theorem dX10_least_177 : decode cX10_least 177 = .ok (.ifCond .eq 7, 3) := by decide +kernel
theorem dX10_least_180 : decode cX10_least 180 = .ok (.iconst 1, 1) := by decide +kernel
theorem dX10_least_181 : decode cX10_least 181 = .ok (.goto 4, 3) := by decide +kernel
theorem dX10_least_184 : decode cX10_least 184 = .ok (.iconst 0, 1) := by decide +kernel
theorem dX10_least_185 : decode cX10_least 185 = .ok (.istore 7, 2) := by decide +kernel
theorem dX10_least_187 : decode cX10_least 187 = .ok (.goto (-75), 3) := by decide +kernel
theorem dX10_least_190 : decode cX10_least 190 = .ok (.iload 5, 2) := by decide +kernel
theorem dX10_least_192 : decode cX10_least 192 = .ok (.ifCond .ge 8, 3) := by decide +kernel
theorem dX10_least_195 : decode cX10_least 195 = .ok (.bipush (-5), 2) := by decide +kernel
theorem dX10_least_197 : decode cX10_least 197 = .ok (.goto 17, 3) := by decide +kernel
theorem dX10_least_200 : decode cX10_least 200 = .ok (.iload_n 2, 1) := by decide +kernel
theorem dX10_least_201 : decode cX10_least 201 = .ok (.ifCond .ne 8, 3) := by decide +kernel
theorem dX10_least_204 : decode cX10_least 204 = .ok (.iload 5, 2) := by decide +kernel
theorem dX10_least_206 : decode cX10_least 206 = .ok (.goto 8, 3) := by decide +kernel
theorem dX10_least_209 : decode cX10_least 209 = .ok (.iload 5, 2) := by decide +kernel
theorem dX10_least_211 : decode cX10_least 211 = .ok (.invokestatic 255, 3) := by decide +kernel
theorem dX10_least_214 : decode cX10_least 214 = .ok (.ireturn, 1) := by decide +kernel
theorem dX10_truth_0 : decode cX10_truth 0 = .ok (.iload_n 1, 1) := by decide +kernel
theorem dX10_truth_1 : decode cX10_truth 1 = .ok (.i2l, 1) := by decide +kernel
theorem dX10_truth_2 : decode cX10_truth 2 = .ok (.lconst 0, 1) := by decide +kernel
theorem dX10_truth_3 : decode cX10_truth 3 = .ok (.ldc2_w 261, 3) := by decide +kernel
theorem dX10_truth_6 : decode cX10_truth 6 = .ok (.invokestatic 58, 3) := by decide +kernel
theorem dX10_truth_9 : decode cX10_truth 9 = .ok (.ifCond .ne 6, 3) := by decide +kernel
theorem dX10_truth_12 : decode cX10_truth 12 = .ok (.bipush (-2), 2) := by decide +kernel
theorem dX10_truth_14 : decode cX10_truth 14 = .ok (.ireturn, 1) := by decide +kernel
theorem dX10_truth_15 : decode cX10_truth 15 = .ok (.aload_n 0, 1) := by decide +kernel
theorem dX10_truth_16 : decode cX10_truth 16 = .ok (.getfield 268, 3) := by decide +kernel
theorem dX10_truth_19 : decode cX10_truth 19 = .ok (.istore_n 2, 1) := by decide +kernel
theorem dX10_truth_20 : decode cX10_truth 20 = .ok (.aload_n 0, 1) := by decide +kernel
theorem dX10_truth_21 : decode cX10_truth 21 = .ok (.iload_n 1, 1) := by decide +kernel
theorem dX10_truth_22 : decode cX10_truth 22 = .ok (.putfield 268, 3) := by decide +kernel
theorem dX10_truth_25 : decode cX10_truth 25 = .ok (.iload_n 2, 1) := by decide +kernel
theorem dX10_truth_26 : decode cX10_truth 26 = .ok (.ireturn, 1) := by decide +kernel
theorem dX10_goodBy_0 : decode cX10_goodBy 0 = .ok (.iconst 0, 1) := by decide +kernel
theorem dX10_goodBy_1 : decode cX10_goodBy 1 = .ok (.istore_n 2, 1) := by decide +kernel
theorem dX10_goodBy_2 : decode cX10_goodBy 2 = .ok (.iconst 0, 1) := by decide +kernel
theorem dX10_goodBy_3 : decode cX10_goodBy 3 = .ok (.istore_n 3, 1) := by decide +kernel
theorem dX10_goodBy_4 : decode cX10_goodBy 4 = .ok (.iload_n 3, 1) := by decide +kernel
theorem dX10_goodBy_5 : decode cX10_goodBy 5 = .ok (.aload_n 0, 1) := by decide +kernel
theorem dX10_goodBy_6 : decode cX10_goodBy 6 = .ok (.getfield 246, 3) := by decide +kernel
theorem dX10_goodBy_9 : decode cX10_goodBy 9 = .ok (.if_icmp .ge 43, 3) := by decide +kernel
theorem dX10_goodBy_12 : decode cX10_goodBy 12 = .ok (.iload_n 2, 1) := by decide +kernel
theorem dX10_goodBy_13 : decode cX10_goodBy 13 = .ok (.aload_n 0, 1) := by decide +kernel
theorem dX10_goodBy_14 : decode cX10_goodBy 14 = .ok (.getfield 47, 3) := by decide +kernel
theorem dX10_goodBy_17 : decode cX10_goodBy 17 = .ok (.iload_n 3, 1) := by decide +kernel
theorem dX10_goodBy_18 : decode cX10_goodBy 18 = .ok (.iaload, 1) := by decide +kernel
theorem dX10_goodBy_19 : decode cX10_goodBy 19 = .ok (.iload_n 1, 1) := by decide +kernel
theorem dX10_goodBy_20 : decode cX10_goodBy 20 = .ok (.if_icmp .ge 7, 3) := by decide +kernel
theorem dX10_goodBy_23 : decode cX10_goodBy 23 = .ok (.iconst 0, 1) := by decide +kernel
theorem dX10_goodBy_24 : decode cX10_goodBy 24 = .ok (.goto 20, 3) := by decide +kernel
theorem dX10_goodBy_27 : decode cX10_goodBy 27 = .ok (.aload_n 0, 1) := by decide +kernel
theorem dX10_goodBy_28 : decode cX10_goodBy 28 = .ok (.getfield 268, 3) := by decide +kernel
theorem dX10_goodBy_31 : decode cX10_goodBy 31 = .ok (.iload_n 3, 1) := by decide +kernel
theorem dX10_goodBy_32 : decode cX10_goodBy 32 = .ok (.ishr, 1) := by decide +kernel
theorem dX10_goodBy_33 : decode cX10_goodBy 33 = .ok (.iconst 1, 1) := by decide +kernel
theorem dX10_goodBy_34 : decode cX10_goodBy 34 = .ok (.iand, 1) := by decide +kernel
theorem dX10_goodBy_35 : decode cX10_goodBy 35 = .ok (.iconst 1, 1) := by decide +kernel
theorem dX10_goodBy_36 : decode cX10_goodBy 36 = .ok (.if_icmp .ne 7, 3) := by decide +kernel
theorem dX10_goodBy_39 : decode cX10_goodBy 39 = .ok (.iconst 1, 1) := by decide +kernel
theorem dX10_goodBy_40 : decode cX10_goodBy 40 = .ok (.goto 4, 3) := by decide +kernel
theorem dX10_goodBy_43 : decode cX10_goodBy 43 = .ok (.iconst (-1), 1) := by decide +kernel
theorem dX10_goodBy_44 : decode cX10_goodBy 44 = .ok (.iadd, 1) := by decide +kernel
theorem dX10_goodBy_45 : decode cX10_goodBy 45 = .ok (.istore_n 2, 1) := by decide +kernel
theorem dX10_goodBy_46 : decode cX10_goodBy 46 = .ok (.iinc 3 1, 3) := by decide +kernel
theorem dX10_goodBy_49 : decode cX10_goodBy 49 = .ok (.goto (-45), 3) := by decide +kernel
theorem dX10_goodBy_52 : decode cX10_goodBy 52 = .ok (.iload_n 2, 1) := by decide +kernel
theorem dX10_goodBy_53 : decode cX10_goodBy 53 = .ok (.ireturn, 1) := by decide +kernel
theorem dX10_good_0 : decode cX10_good 0 = .ok (.iload_n 1, 1) := by decide +kernel
theorem dX10_good_1 : decode cX10_good 1 = .ok (.i2l, 1) := by decide +kernel
theorem dX10_good_2 : decode cX10_good 2 = .ok (.lconst 0, 1) := by decide +kernel
theorem dX10_good_3 : decode cX10_good 3 = .ok (.ldc2_w 271, 3) := by decide +kernel
theorem dX10_good_6 : decode cX10_good 6 = .ok (.invokestatic 58, 3) := by decide +kernel
theorem dX10_good_9 : decode cX10_good 9 = .ok (.ifCond .eq 11, 3) := by decide +kernel
theorem dX10_good_12 : decode cX10_good 12 = .ok (.aload_n 0, 1) := by decide +kernel
theorem dX10_good_13 : decode cX10_good 13 = .ok (.iload_n 1, 1) := by decide +kernel
theorem dX10_good_14 : decode cX10_good 14 = .ok (.invokevirtual 273, 3) := by decide +kernel
theorem dX10_good_17 : decode cX10_good 17 = .ok (.goto 5, 3) := by decide +kernel
theorem dX10_good_20 : decode cX10_good 20 = .ok (.ldc 78, 2) := by decide +kernel
theorem dX10_good_22 : decode cX10_good 22 = .ok (.ireturn, 1) := by decide +kernel
theorem dX10_best_0 : decode cX10_best 0 = .ok (.iload_n 1, 1) := by decide +kernel
theorem dX10_best_1 : decode cX10_best 1 = .ok (.invokestatic 152, 3) := by decide +kernel
theorem dX10_best_4 : decode cX10_best 4 = .ok (.ifCond .ne 6, 3) := by decide +kernel
theorem dX10_best_7 : decode cX10_best 7 = .ok (.ldc 78, 2) := by decide +kernel
theorem dX10_best_9 : decode cX10_best 9 = .ok (.ireturn, 1) := by decide +kernel
theorem dX10_best_10 : decode cX10_best 10 = .ok (.iconst 0, 1) := by decide +kernel
theorem dX10_best_11 : decode cX10_best 11 = .ok (.istore_n 2, 1) := by decide +kernel
theorem dX10_best_12 : decode cX10_best 12 = .ok (.iconst 1, 1) := by decide +kernel
theorem dX10_best_13 : decode cX10_best 13 = .ok (.istore_n 3, 1) := by decide +kernel
theorem dX10_best_14 : decode cX10_best 14 = .ok (.iload_n 3, 1) := by decide +kernel
theorem dX10_best_15 : decode cX10_best 15 = .ok (.bipush 101, 2) := by decide +kernel
theorem dX10_best_17 : decode cX10_best 17 = .ok (.if_icmp .gt 28, 3) := by decide +kernel
theorem dX10_best_20 : decode cX10_best 20 = .ok (.aload_n 0, 1) := by decide +kernel
theorem dX10_best_21 : decode cX10_best 21 = .ok (.iload_n 3, 1) := by decide +kernel
theorem dX10_best_22 : decode cX10_best 22 = .ok (.invokevirtual 273, 3) := by decide +kernel
theorem dX10_best_25 : decode cX10_best 25 = .ok (.aload_n 0, 1) := by decide +kernel
theorem dX10_best_26 : decode cX10_best 26 = .ok (.iload_n 2, 1) := by decide +kernel
theorem dX10_best_27 : decode cX10_best 27 = .ok (.invokevirtual 273, 3) := by decide +kernel
theorem dX10_best_30 : decode cX10_best 30 = .ok (.if_icmp .le 7, 3) := by decide +kernel
theorem dX10_best_33 : decode cX10_best 33 = .ok (.iload_n 3, 1) := by decide +kernel
theorem dX10_best_34 : decode cX10_best 34 = .ok (.goto 4, 3) := by decide +kernel
theorem dX10_best_37 : decode cX10_best 37 = .ok (.iload_n 2, 1) := by decide +kernel
theorem dX10_best_38 : decode cX10_best 38 = .ok (.istore_n 2, 1) := by decide +kernel
theorem dX10_best_39 : decode cX10_best 39 = .ok (.iinc 3 1, 3) := by decide +kernel
theorem dX10_best_42 : decode cX10_best 42 = .ok (.goto (-28), 3) := by decide +kernel
theorem dX10_best_45 : decode cX10_best 45 = .ok (.iload_n 1, 1) := by decide +kernel
theorem dX10_best_46 : decode cX10_best 46 = .ok (.ifCond .ne 7, 3) := by decide +kernel
theorem dX10_best_49 : decode cX10_best 49 = .ok (.iload_n 2, 1) := by decide +kernel
theorem dX10_best_50 : decode cX10_best 50 = .ok (.goto 8, 3) := by decide +kernel
theorem dX10_best_53 : decode cX10_best 53 = .ok (.aload_n 0, 1) := by decide +kernel
theorem dX10_best_54 : decode cX10_best 54 = .ok (.iload_n 2, 1) := by decide +kernel
theorem dX10_best_55 : decode cX10_best 55 = .ok (.invokevirtual 273, 3) := by decide +kernel
theorem dX10_best_58 : decode cX10_best 58 = .ok (.ireturn, 1) := by decide +kernel
theorem dX10_told_0 : decode cX10_told 0 = .ok (.iload_n 1, 1) := by decide +kernel
theorem dX10_told_1 : decode cX10_told 1 = .ok (.i2l, 1) := by decide +kernel
theorem dX10_told_2 : decode cX10_told 2 = .ok (.ldc2_w 276, 3) := by decide +kernel
theorem dX10_told_5 : decode cX10_told 5 = .ok (.ldc2_w 278, 3) := by decide +kernel
theorem dX10_told_8 : decode cX10_told 8 = .ok (.invokestatic 58, 3) := by decide +kernel
theorem dX10_told_11 : decode cX10_told 11 = .ok (.ifCond .eq 48, 3) := by decide +kernel
theorem dX10_told_14 : decode cX10_told 14 = .ok (.iconst 0, 1) := by decide +kernel
theorem dX10_told_15 : decode cX10_told 15 = .ok (.istore_n 2, 1) := by decide +kernel
theorem dX10_told_16 : decode cX10_told 16 = .ok (.iconst 0, 1) := by decide +kernel
theorem dX10_told_17 : decode cX10_told 17 = .ok (.istore_n 3, 1) := by decide +kernel
theorem dX10_told_18 : decode cX10_told 18 = .ok (.iload_n 3, 1) := by decide +kernel
theorem dX10_told_19 : decode cX10_told 19 = .ok (.bipush 24, 2) := by decide +kernel
theorem dX10_told_21 : decode cX10_told 21 = .ok (.if_icmp .ge 36, 3) := by decide +kernel
theorem dX10_told_24 : decode cX10_told 24 = .ok (.iload_n 2, 1) := by decide +kernel
theorem dX10_told_25 : decode cX10_told 25 = .ok (.aload_n 0, 1) := by decide +kernel
theorem dX10_told_26 : decode cX10_told 26 = .ok (.getfield 7, 3) := by decide +kernel
theorem dX10_told_29 : decode cX10_told 29 = .ok (.bipush 24, 2) := by decide +kernel
theorem dX10_told_31 : decode cX10_told 31 = .ok (.iload_n 1, 1) := by decide +kernel
theorem dX10_told_32 : decode cX10_told 32 = .ok (.bipush 10, 2) := by decide +kernel
theorem dX10_told_34 : decode cX10_told 34 = .ok (.isub, 1) := by decide +kernel
theorem dX10_told_35 : decode cX10_told 35 = .ok (.imul, 1) := by decide +kernel
theorem dX10_told_36 : decode cX10_told 36 = .ok (.iload_n 3, 1) := by decide +kernel
theorem dX10_told_37 : decode cX10_told 37 = .ok (.iadd, 1) := by decide +kernel
theorem dX10_told_38 : decode cX10_told 38 = .ok (.iaload, 1) := by decide +kernel
theorem dX10_told_39 : decode cX10_told 39 = .ok (.ldc 53, 2) := by decide +kernel
theorem dX10_told_41 : decode cX10_told 41 = .ok (.if_icmp .ne 7, 3) := by decide +kernel
theorem dX10_told_44 : decode cX10_told 44 = .ok (.iconst 0, 1) := by decide +kernel
theorem dX10_told_45 : decode cX10_told 45 = .ok (.goto 4, 3) := by decide +kernel
theorem dX10_told_48 : decode cX10_told 48 = .ok (.iconst 1, 1) := by decide +kernel
theorem dX10_told_49 : decode cX10_told 49 = .ok (.iadd, 1) := by decide +kernel
theorem dX10_told_50 : decode cX10_told 50 = .ok (.istore_n 2, 1) := by decide +kernel
theorem dX10_told_51 : decode cX10_told 51 = .ok (.iinc 3 1, 3) := by decide +kernel
theorem dX10_told_54 : decode cX10_told 54 = .ok (.goto (-36), 3) := by decide +kernel
theorem dX10_told_57 : decode cX10_told 57 = .ok (.iload_n 2, 1) := by decide +kernel
theorem dX10_told_58 : decode cX10_told 58 = .ok (.ireturn, 1) := by decide +kernel
theorem dX10_told_59 : decode cX10_told 59 = .ok (.iload_n 1, 1) := by decide +kernel
theorem dX10_told_60 : decode cX10_told 60 = .ok (.tableswitch 70 0 4 #[36, 41, 46, 51, 56], 36) := by decide +kernel
theorem dX10_told_96 : decode cX10_told 96 = .ok (.aload_n 0, 1) := by decide +kernel
theorem dX10_told_97 : decode cX10_told 97 = .ok (.getfield 83, 3) := by decide +kernel
theorem dX10_told_100 : decode cX10_told 100 = .ok (.ireturn, 1) := by decide +kernel
theorem dX10_told_101 : decode cX10_told 101 = .ok (.aload_n 0, 1) := by decide +kernel
theorem dX10_told_102 : decode cX10_told 102 = .ok (.getfield 246, 3) := by decide +kernel
theorem dX10_told_105 : decode cX10_told 105 = .ok (.ireturn, 1) := by decide +kernel
theorem dX10_told_106 : decode cX10_told 106 = .ok (.aload_n 0, 1) := by decide +kernel
theorem dX10_told_107 : decode cX10_told 107 = .ok (.getfield 252, 3) := by decide +kernel
theorem dX10_told_110 : decode cX10_told 110 = .ok (.ireturn, 1) := by decide +kernel
theorem dX10_told_111 : decode cX10_told 111 = .ok (.aload_n 0, 1) := by decide +kernel
theorem dX10_told_112 : decode cX10_told 112 = .ok (.getfield 54, 3) := by decide +kernel
theorem dX10_told_115 : decode cX10_told 115 = .ok (.ireturn, 1) := by decide +kernel
theorem dX10_told_116 : decode cX10_told 116 = .ok (.aload_n 0, 1) := by decide +kernel
theorem dX10_told_117 : decode cX10_told 117 = .ok (.getfield 268, 3) := by decide +kernel
theorem dX10_told_120 : decode cX10_told 120 = .ok (.iconst 1, 1) := by decide +kernel
theorem dX10_told_121 : decode cX10_told 121 = .ok (.aload_n 0, 1) := by decide +kernel
theorem dX10_told_122 : decode cX10_told 122 = .ok (.getfield 246, 3) := by decide +kernel
theorem dX10_told_125 : decode cX10_told 125 = .ok (.ishl, 1) := by decide +kernel
theorem dX10_told_126 : decode cX10_told 126 = .ok (.iconst 1, 1) := by decide +kernel
theorem dX10_told_127 : decode cX10_told 127 = .ok (.isub, 1) := by decide +kernel
theorem dX10_told_128 : decode cX10_told 128 = .ok (.iand, 1) := by decide +kernel
theorem dX10_told_129 : decode cX10_told 129 = .ok (.ireturn, 1) := by decide +kernel
theorem dX10_told_130 : decode cX10_told 130 = .ok (.bipush (-2), 2) := by decide +kernel
theorem dX10_told_132 : decode cX10_told 132 = .ok (.ireturn, 1) := by decide +kernel
theorem dJ6_bitCount_0f7a4_0 : decode cJ6_bitCount_0f7a4 0 = .ok (.iload_n 0, 1) := by decide +kernel
theorem dJ6_bitCount_0f7a4_1 : decode cJ6_bitCount_0f7a4 1 = .ok (.iload_n 0, 1) := by decide +kernel
theorem dJ6_bitCount_0f7a4_2 : decode cJ6_bitCount_0f7a4 2 = .ok (.iconst 1, 1) := by decide +kernel
theorem dJ6_bitCount_0f7a4_3 : decode cJ6_bitCount_0f7a4 3 = .ok (.iushr, 1) := by decide +kernel
theorem dJ6_bitCount_0f7a4_4 : decode cJ6_bitCount_0f7a4 4 = .ok (.ldc_w 265, 3) := by decide +kernel
theorem dJ6_bitCount_0f7a4_7 : decode cJ6_bitCount_0f7a4 7 = .ok (.iand, 1) := by decide +kernel
theorem dJ6_bitCount_0f7a4_8 : decode cJ6_bitCount_0f7a4 8 = .ok (.isub, 1) := by decide +kernel
theorem dJ6_bitCount_0f7a4_9 : decode cJ6_bitCount_0f7a4 9 = .ok (.istore_n 0, 1) := by decide +kernel
theorem dJ6_bitCount_0f7a4_10 : decode cJ6_bitCount_0f7a4 10 = .ok (.iload_n 0, 1) := by decide +kernel
theorem dJ6_bitCount_0f7a4_11 : decode cJ6_bitCount_0f7a4 11 = .ok (.ldc_w 266, 3) := by decide +kernel
theorem dJ6_bitCount_0f7a4_14 : decode cJ6_bitCount_0f7a4 14 = .ok (.iand, 1) := by decide +kernel
theorem dJ6_bitCount_0f7a4_15 : decode cJ6_bitCount_0f7a4 15 = .ok (.iload_n 0, 1) := by decide +kernel
theorem dJ6_bitCount_0f7a4_16 : decode cJ6_bitCount_0f7a4 16 = .ok (.iconst 2, 1) := by decide +kernel
theorem dJ6_bitCount_0f7a4_17 : decode cJ6_bitCount_0f7a4 17 = .ok (.iushr, 1) := by decide +kernel
theorem dJ6_bitCount_0f7a4_18 : decode cJ6_bitCount_0f7a4 18 = .ok (.ldc_w 266, 3) := by decide +kernel
theorem dJ6_bitCount_0f7a4_21 : decode cJ6_bitCount_0f7a4 21 = .ok (.iand, 1) := by decide +kernel
theorem dJ6_bitCount_0f7a4_22 : decode cJ6_bitCount_0f7a4 22 = .ok (.iadd, 1) := by decide +kernel
theorem dJ6_bitCount_0f7a4_23 : decode cJ6_bitCount_0f7a4 23 = .ok (.istore_n 0, 1) := by decide +kernel
theorem dJ6_bitCount_0f7a4_24 : decode cJ6_bitCount_0f7a4 24 = .ok (.iload_n 0, 1) := by decide +kernel
theorem dJ6_bitCount_0f7a4_25 : decode cJ6_bitCount_0f7a4 25 = .ok (.iload_n 0, 1) := by decide +kernel
theorem dJ6_bitCount_0f7a4_26 : decode cJ6_bitCount_0f7a4 26 = .ok (.iconst 4, 1) := by decide +kernel
theorem dJ6_bitCount_0f7a4_27 : decode cJ6_bitCount_0f7a4 27 = .ok (.iushr, 1) := by decide +kernel
theorem dJ6_bitCount_0f7a4_28 : decode cJ6_bitCount_0f7a4 28 = .ok (.iadd, 1) := by decide +kernel
theorem dJ6_bitCount_0f7a4_29 : decode cJ6_bitCount_0f7a4 29 = .ok (.ldc_w 267, 3) := by decide +kernel
theorem dJ6_bitCount_0f7a4_32 : decode cJ6_bitCount_0f7a4 32 = .ok (.iand, 1) := by decide +kernel
theorem dJ6_bitCount_0f7a4_33 : decode cJ6_bitCount_0f7a4 33 = .ok (.istore_n 0, 1) := by decide +kernel
theorem dJ6_bitCount_0f7a4_34 : decode cJ6_bitCount_0f7a4 34 = .ok (.iload_n 0, 1) := by decide +kernel
theorem dJ6_bitCount_0f7a4_35 : decode cJ6_bitCount_0f7a4 35 = .ok (.iload_n 0, 1) := by decide +kernel
theorem dJ6_bitCount_0f7a4_36 : decode cJ6_bitCount_0f7a4 36 = .ok (.bipush 8, 2) := by decide +kernel
theorem dJ6_bitCount_0f7a4_38 : decode cJ6_bitCount_0f7a4 38 = .ok (.iushr, 1) := by decide +kernel
theorem dJ6_bitCount_0f7a4_39 : decode cJ6_bitCount_0f7a4 39 = .ok (.iadd, 1) := by decide +kernel
theorem dJ6_bitCount_0f7a4_40 : decode cJ6_bitCount_0f7a4 40 = .ok (.istore_n 0, 1) := by decide +kernel
theorem dJ6_bitCount_0f7a4_41 : decode cJ6_bitCount_0f7a4 41 = .ok (.iload_n 0, 1) := by decide +kernel
theorem dJ6_bitCount_0f7a4_42 : decode cJ6_bitCount_0f7a4 42 = .ok (.iload_n 0, 1) := by decide +kernel
theorem dJ6_bitCount_0f7a4_43 : decode cJ6_bitCount_0f7a4 43 = .ok (.bipush 16, 2) := by decide +kernel
theorem dJ6_bitCount_0f7a4_45 : decode cJ6_bitCount_0f7a4 45 = .ok (.iushr, 1) := by decide +kernel
theorem dJ6_bitCount_0f7a4_46 : decode cJ6_bitCount_0f7a4 46 = .ok (.iadd, 1) := by decide +kernel
theorem dJ6_bitCount_0f7a4_47 : decode cJ6_bitCount_0f7a4 47 = .ok (.istore_n 0, 1) := by decide +kernel
theorem dJ6_bitCount_0f7a4_48 : decode cJ6_bitCount_0f7a4 48 = .ok (.iload_n 0, 1) := by decide +kernel
theorem dJ6_bitCount_0f7a4_49 : decode cJ6_bitCount_0f7a4 49 = .ok (.bipush 63, 2) := by decide +kernel
theorem dJ6_bitCount_0f7a4_51 : decode cJ6_bitCount_0f7a4 51 = .ok (.iand, 1) := by decide +kernel
theorem dJ6_bitCount_0f7a4_52 : decode cJ6_bitCount_0f7a4 52 = .ok (.ireturn, 1) := by decide +kernel
theorem dJ13_compare_74951_0 : decode cJ13_compare_74951 0 = .ok (.lload_n 0, 1) := by decide +kernel
theorem dJ13_compare_74951_1 : decode cJ13_compare_74951 1 = .ok (.lload_n 2, 1) := by decide +kernel
theorem dJ13_compare_74951_2 : decode cJ13_compare_74951 2 = .ok (.lcmp, 1) := by decide +kernel
theorem dJ13_compare_74951_3 : decode cJ13_compare_74951 3 = .ok (.ifCond .ge 7, 3) := by decide +kernel
theorem dJ13_compare_74951_6 : decode cJ13_compare_74951 6 = .ok (.iconst (-1), 1) := by decide +kernel
theorem dJ13_compare_74951_7 : decode cJ13_compare_74951 7 = .ok (.goto 14, 3) := by decide +kernel
theorem dJ13_compare_74951_10 : decode cJ13_compare_74951 10 = .ok (.lload_n 0, 1) := by decide +kernel
theorem dJ13_compare_74951_11 : decode cJ13_compare_74951 11 = .ok (.lload_n 2, 1) := by decide +kernel
theorem dJ13_compare_74951_12 : decode cJ13_compare_74951 12 = .ok (.lcmp, 1) := by decide +kernel
theorem dJ13_compare_74951_13 : decode cJ13_compare_74951 13 = .ok (.ifCond .ne 7, 3) := by decide +kernel
theorem dJ13_compare_74951_16 : decode cJ13_compare_74951 16 = .ok (.iconst 0, 1) := by decide +kernel
theorem dJ13_compare_74951_17 : decode cJ13_compare_74951 17 = .ok (.goto 4, 3) := by decide +kernel
theorem dJ13_compare_74951_20 : decode cJ13_compare_74951 20 = .ok (.iconst 1, 1) := by decide +kernel
theorem dJ13_compare_74951_21 : decode cJ13_compare_74951 21 = .ok (.ireturn, 1) := by decide +kernel
theorem dJ9_abs_067f4_0 : decode cJ9_abs_067f4 0 = .ok (.lload_n 0, 1) := by decide +kernel
theorem dJ9_abs_067f4_1 : decode cJ9_abs_067f4 1 = .ok (.lconst 0, 1) := by decide +kernel
theorem dJ9_abs_067f4_2 : decode cJ9_abs_067f4 2 = .ok (.lcmp, 1) := by decide +kernel
theorem dJ9_abs_067f4_3 : decode cJ9_abs_067f4 3 = .ok (.ifCond .ge 8, 3) := by decide +kernel
theorem dJ9_abs_067f4_6 : decode cJ9_abs_067f4 6 = .ok (.lload_n 0, 1) := by decide +kernel
theorem dJ9_abs_067f4_7 : decode cJ9_abs_067f4 7 = .ok (.lneg, 1) := by decide +kernel
theorem dJ9_abs_067f4_8 : decode cJ9_abs_067f4 8 = .ok (.goto 4, 3) := by decide +kernel
theorem dJ9_abs_067f4_11 : decode cJ9_abs_067f4 11 = .ok (.lload_n 0, 1) := by decide +kernel
theorem dJ9_abs_067f4_12 : decode cJ9_abs_067f4 12 = .ok (.lreturn, 1) := by decide +kernel
theorem dJ9_max_7cf53_0 : decode cJ9_max_7cf53 0 = .ok (.iload_n 0, 1) := by decide +kernel
theorem dJ9_max_7cf53_1 : decode cJ9_max_7cf53 1 = .ok (.iload_n 1, 1) := by decide +kernel
theorem dJ9_max_7cf53_2 : decode cJ9_max_7cf53 2 = .ok (.if_icmp .lt 7, 3) := by decide +kernel
theorem dJ9_max_7cf53_5 : decode cJ9_max_7cf53 5 = .ok (.iload_n 0, 1) := by decide +kernel
theorem dJ9_max_7cf53_6 : decode cJ9_max_7cf53 6 = .ok (.goto 4, 3) := by decide +kernel
theorem dJ9_max_7cf53_9 : decode cJ9_max_7cf53 9 = .ok (.iload_n 1, 1) := by decide +kernel
theorem dJ9_max_7cf53_10 : decode cJ9_max_7cf53 10 = .ok (.ireturn, 1) := by decide +kernel
theorem dJ9_min_7cf53_0 : decode cJ9_min_7cf53 0 = .ok (.iload_n 0, 1) := by decide +kernel
theorem dJ9_min_7cf53_1 : decode cJ9_min_7cf53 1 = .ok (.iload_n 1, 1) := by decide +kernel
theorem dJ9_min_7cf53_2 : decode cJ9_min_7cf53 2 = .ok (.if_icmp .gt 7, 3) := by decide +kernel
theorem dJ9_min_7cf53_5 : decode cJ9_min_7cf53 5 = .ok (.iload_n 0, 1) := by decide +kernel
theorem dJ9_min_7cf53_6 : decode cJ9_min_7cf53 6 = .ok (.goto 4, 3) := by decide +kernel
theorem dJ9_min_7cf53_9 : decode cJ9_min_7cf53 9 = .ok (.iload_n 1, 1) := by decide +kernel
theorem dJ9_min_7cf53_10 : decode cJ9_min_7cf53 10 = .ok (.ireturn, 1) := by decide +kernel
theorem dL_law_0 : decode cL_law 0 = .ok (.new 7, 3) := by decide +kernel
theorem dL_law_3 : decode cL_law 3 = .ok (.dup, 1) := by decide +kernel
theorem dL_law_4 : decode cL_law 4 = .ok (.invokespecial 9, 3) := by decide +kernel
theorem dL_law_7 : decode cL_law 7 = .ok (.astore_n 1, 1) := by decide +kernel
theorem dL_law_8 : decode cL_law 8 = .ok (.new 10, 3) := by decide +kernel
theorem dL_law_11 : decode cL_law 11 = .ok (.dup, 1) := by decide +kernel
theorem dL_law_12 : decode cL_law 12 = .ok (.invokespecial 12, 3) := by decide +kernel
theorem dL_law_15 : decode cL_law 15 = .ok (.astore_n 2, 1) := by decide +kernel
theorem dL_law_16 : decode cL_law 16 = .ok (.iconst 0, 1) := by decide +kernel
theorem dL_law_17 : decode cL_law 17 = .ok (.istore_n 3, 1) := by decide +kernel
theorem dL_law_18 : decode cL_law 18 = .ok (.iload_n 3, 1) := by decide +kernel
theorem dL_law_19 : decode cL_law 19 = .ok (.aload_n 0, 1) := by decide +kernel
theorem dL_law_20 : decode cL_law 20 = .ok (.arraylength, 1) := by decide +kernel
theorem dL_law_21 : decode cL_law 21 = .ok (.iconst 5, 1) := by decide +kernel
theorem dL_law_22 : decode cL_law 22 = .ok (.isub, 1) := by decide +kernel
theorem dL_law_23 : decode cL_law 23 = .ok (.if_icmp .gt 1006, 3) := by decide +kernel
theorem dL_law_26 : decode cL_law 26 = .ok (.aload_n 0, 1) := by decide +kernel
theorem dL_law_27 : decode cL_law 27 = .ok (.iload_n 3, 1) := by decide +kernel
theorem dL_law_28 : decode cL_law 28 = .ok (.iaload, 1) := by decide +kernel
theorem dL_law_29 : decode cL_law 29 = .ok (.bipush 31, 2) := by decide +kernel
theorem dL_law_31 : decode cL_law 31 = .ok (.iand, 1) := by decide +kernel
theorem dL_law_32 : decode cL_law 32 = .ok (.tableswitch 991 0 25 #[120, 163, 186, 199, 212, 245, 289, 333, 387, 440, 494, 527, 571, 614, 658, 691, 724, 773, 797, 830, 853, 866, 899, 922, 945, 968], 120) := by decide +kernel
theorem dL_law_152 : decode cL_law 152 = .ok (.aload_n 1, 1) := by decide +kernel
theorem dL_law_153 : decode cL_law 153 = .ok (.aload_n 0, 1) := by decide +kernel
theorem dL_law_154 : decode cL_law 154 = .ok (.iload_n 3, 1) := by decide +kernel
theorem dL_law_155 : decode cL_law 155 = .ok (.iconst 1, 1) := by decide +kernel
theorem dL_law_156 : decode cL_law 156 = .ok (.iadd, 1) := by decide +kernel
theorem dL_law_157 : decode cL_law 157 = .ok (.iaload, 1) := by decide +kernel
theorem dL_law_158 : decode cL_law 158 = .ok (.aload_n 0, 1) := by decide +kernel
theorem dL_law_159 : decode cL_law 159 = .ok (.iload_n 3, 1) := by decide +kernel
theorem dL_law_160 : decode cL_law 160 = .ok (.iconst 2, 1) := by decide +kernel
theorem dL_law_161 : decode cL_law 161 = .ok (.iadd, 1) := by decide +kernel
theorem dL_law_162 : decode cL_law 162 = .ok (.iaload, 1) := by decide +kernel
theorem dL_law_163 : decode cL_law 163 = .ok (.aload_n 0, 1) := by decide +kernel
theorem dL_law_164 : decode cL_law 164 = .ok (.iload_n 3, 1) := by decide +kernel
theorem dL_law_165 : decode cL_law 165 = .ok (.iconst 3, 1) := by decide +kernel
theorem dL_law_166 : decode cL_law 166 = .ok (.iadd, 1) := by decide +kernel
theorem dL_law_167 : decode cL_law 167 = .ok (.iaload, 1) := by decide +kernel
theorem dL_law_168 : decode cL_law 168 = .ok (.invokevirtual 13, 3) := by decide +kernel
theorem dL_law_171 : decode cL_law 171 = .ok (.aload_n 2, 1) := by decide +kernel
theorem dL_law_172 : decode cL_law 172 = .ok (.aload_n 0, 1) := by decide +kernel
theorem dL_law_173 : decode cL_law 173 = .ok (.iload_n 3, 1) := by decide +kernel
theorem dL_law_174 : decode cL_law 174 = .ok (.iconst 1, 1) := by decide +kernel
theorem dL_law_175 : decode cL_law 175 = .ok (.iadd, 1) := by decide +kernel
theorem dL_law_176 : decode cL_law 176 = .ok (.iaload, 1) := by decide +kernel
theorem dL_law_177 : decode cL_law 177 = .ok (.aload_n 0, 1) := by decide +kernel
theorem dL_law_178 : decode cL_law 178 = .ok (.iload_n 3, 1) := by decide +kernel
theorem dL_law_179 : decode cL_law 179 = .ok (.iconst 2, 1) := by decide +kernel
theorem dL_law_180 : decode cL_law 180 = .ok (.iadd, 1) := by decide +kernel
theorem dL_law_181 : decode cL_law 181 = .ok (.iaload, 1) := by decide +kernel
theorem dL_law_182 : decode cL_law 182 = .ok (.aload_n 0, 1) := by decide +kernel
theorem dL_law_183 : decode cL_law 183 = .ok (.iload_n 3, 1) := by decide +kernel
theorem dL_law_184 : decode cL_law 184 = .ok (.iconst 3, 1) := by decide +kernel
theorem dL_law_185 : decode cL_law 185 = .ok (.iadd, 1) := by decide +kernel
theorem dL_law_186 : decode cL_law 186 = .ok (.iaload, 1) := by decide +kernel
theorem dL_law_187 : decode cL_law 187 = .ok (.invokevirtual 17, 3) := by decide +kernel
theorem dL_law_190 : decode cL_law 190 = .ok (.if_icmp .eq 833, 3) := by decide +kernel
theorem dL_law_193 : decode cL_law 193 = .ok (.iconst 0, 1) := by decide +kernel
theorem dL_law_194 : decode cL_law 194 = .ok (.ireturn, 1) := by decide +kernel
theorem dL_law_195 : decode cL_law 195 = .ok (.aload_n 1, 1) := by decide +kernel
theorem dL_law_196 : decode cL_law 196 = .ok (.aload_n 0, 1) := by decide +kernel
theorem dL_law_197 : decode cL_law 197 = .ok (.iload_n 3, 1) := by decide +kernel
theorem dL_law_198 : decode cL_law 198 = .ok (.iconst 1, 1) := by decide +kernel
theorem dL_law_199 : decode cL_law 199 = .ok (.iadd, 1) := by decide +kernel
theorem dL_law_200 : decode cL_law 200 = .ok (.iaload, 1) := by decide +kernel
theorem dL_law_201 : decode cL_law 201 = .ok (.invokevirtual 18, 3) := by decide +kernel
theorem dL_law_204 : decode cL_law 204 = .ok (.aload_n 2, 1) := by decide +kernel
theorem dL_law_205 : decode cL_law 205 = .ok (.aload_n 0, 1) := by decide +kernel
theorem dL_law_206 : decode cL_law 206 = .ok (.iload_n 3, 1) := by decide +kernel
theorem dL_law_207 : decode cL_law 207 = .ok (.iconst 1, 1) := by decide +kernel
theorem dL_law_208 : decode cL_law 208 = .ok (.iadd, 1) := by decide +kernel
theorem dL_law_209 : decode cL_law 209 = .ok (.iaload, 1) := by decide +kernel
theorem dL_law_210 : decode cL_law 210 = .ok (.invokevirtual 22, 3) := by decide +kernel
theorem dL_law_213 : decode cL_law 213 = .ok (.if_icmp .eq 810, 3) := by decide +kernel
theorem dL_law_216 : decode cL_law 216 = .ok (.iconst 0, 1) := by decide +kernel
theorem dL_law_217 : decode cL_law 217 = .ok (.ireturn, 1) := by decide +kernel
theorem dL_law_218 : decode cL_law 218 = .ok (.aload_n 1, 1) := by decide +kernel
theorem dL_law_219 : decode cL_law 219 = .ok (.invokevirtual 23, 3) := by decide +kernel
theorem dL_law_222 : decode cL_law 222 = .ok (.aload_n 2, 1) := by decide +kernel
theorem dL_law_223 : decode cL_law 223 = .ok (.invokevirtual 27, 3) := by decide +kernel
theorem dL_law_226 : decode cL_law 226 = .ok (.if_icmp .eq 797, 3) := by decide +kernel
theorem dL_law_229 : decode cL_law 229 = .ok (.iconst 0, 1) := by decide +kernel
theorem dL_law_230 : decode cL_law 230 = .ok (.ireturn, 1) := by decide +kernel
theorem dL_law_231 : decode cL_law 231 = .ok (.aload_n 1, 1) := by decide +kernel
theorem dL_law_232 : decode cL_law 232 = .ok (.invokevirtual 28, 3) := by decide +kernel
theorem dL_law_235 : decode cL_law 235 = .ok (.aload_n 2, 1) := by decide +kernel
theorem dL_law_236 : decode cL_law 236 = .ok (.invokevirtual 31, 3) := by decide +kernel
theorem dL_law_239 : decode cL_law 239 = .ok (.if_icmp .eq 784, 3) := by decide +kernel
theorem dL_law_242 : decode cL_law 242 = .ok (.iconst 0, 1) := by decide +kernel
theorem dL_law_243 : decode cL_law 243 = .ok (.ireturn, 1) := by decide +kernel
theorem dL_law_244 : decode cL_law 244 = .ok (.aload_n 1, 1) := by decide +kernel
theorem dL_law_245 : decode cL_law 245 = .ok (.aload_n 0, 1) := by decide +kernel
theorem dL_law_246 : decode cL_law 246 = .ok (.iload_n 3, 1) := by decide +kernel
theorem dL_law_247 : decode cL_law 247 = .ok (.iconst 1, 1) := by decide +kernel
theorem dL_law_248 : decode cL_law 248 = .ok (.iadd, 1) := by decide +kernel
theorem dL_law_249 : decode cL_law 249 = .ok (.iaload, 1) := by decide +kernel
theorem dL_law_250 : decode cL_law 250 = .ok (.aload_n 0, 1) := by decide +kernel
theorem dL_law_251 : decode cL_law 251 = .ok (.iload_n 3, 1) := by decide +kernel
theorem dL_law_252 : decode cL_law 252 = .ok (.iconst 2, 1) := by decide +kernel
theorem dL_law_253 : decode cL_law 253 = .ok (.iadd, 1) := by decide +kernel
theorem dL_law_254 : decode cL_law 254 = .ok (.iaload, 1) := by decide +kernel
theorem dL_law_255 : decode cL_law 255 = .ok (.invokevirtual 32, 3) := by decide +kernel
theorem dL_law_258 : decode cL_law 258 = .ok (.aload_n 2, 1) := by decide +kernel
theorem dL_law_259 : decode cL_law 259 = .ok (.aload_n 0, 1) := by decide +kernel
theorem dL_law_260 : decode cL_law 260 = .ok (.iload_n 3, 1) := by decide +kernel
theorem dL_law_261 : decode cL_law 261 = .ok (.iconst 1, 1) := by decide +kernel
theorem dL_law_262 : decode cL_law 262 = .ok (.iadd, 1) := by decide +kernel
theorem dL_law_263 : decode cL_law 263 = .ok (.iaload, 1) := by decide +kernel
theorem dL_law_264 : decode cL_law 264 = .ok (.aload_n 0, 1) := by decide +kernel
theorem dL_law_265 : decode cL_law 265 = .ok (.iload_n 3, 1) := by decide +kernel
theorem dL_law_266 : decode cL_law 266 = .ok (.iconst 2, 1) := by decide +kernel
theorem dL_law_267 : decode cL_law 267 = .ok (.iadd, 1) := by decide +kernel
theorem dL_law_268 : decode cL_law 268 = .ok (.iaload, 1) := by decide +kernel
theorem dL_law_269 : decode cL_law 269 = .ok (.invokevirtual 36, 3) := by decide +kernel
theorem dL_law_272 : decode cL_law 272 = .ok (.if_icmp .eq 751, 3) := by decide +kernel
theorem dL_law_275 : decode cL_law 275 = .ok (.iconst 0, 1) := by decide +kernel
theorem dL_law_276 : decode cL_law 276 = .ok (.ireturn, 1) := by decide +kernel
theorem dL_law_277 : decode cL_law 277 = .ok (.aload_n 1, 1) := by decide +kernel
theorem dL_law_278 : decode cL_law 278 = .ok (.aload_n 0, 1) := by decide +kernel
theorem dL_law_279 : decode cL_law 279 = .ok (.iload_n 3, 1) := by decide +kernel
theorem dL_law_280 : decode cL_law 280 = .ok (.iconst 1, 1) := by decide +kernel
theorem dL_law_281 : decode cL_law 281 = .ok (.iadd, 1) := by decide +kernel
theorem dL_law_282 : decode cL_law 282 = .ok (.iaload, 1) := by decide +kernel
theorem dL_law_283 : decode cL_law 283 = .ok (.aload_n 0, 1) := by decide +kernel
theorem dL_law_284 : decode cL_law 284 = .ok (.iload_n 3, 1) := by decide +kernel
theorem dL_law_285 : decode cL_law 285 = .ok (.iconst 2, 1) := by decide +kernel
theorem dL_law_286 : decode cL_law 286 = .ok (.iadd, 1) := by decide +kernel
theorem dL_law_287 : decode cL_law 287 = .ok (.iaload, 1) := by decide +kernel
theorem dL_law_288 : decode cL_law 288 = .ok (.aload_n 0, 1) := by decide +kernel
theorem dL_law_289 : decode cL_law 289 = .ok (.iload_n 3, 1) := by decide +kernel
theorem dL_law_290 : decode cL_law 290 = .ok (.iconst 3, 1) := by decide +kernel
theorem dL_law_291 : decode cL_law 291 = .ok (.iadd, 1) := by decide +kernel
theorem dL_law_292 : decode cL_law 292 = .ok (.iaload, 1) := by decide +kernel
theorem dL_law_293 : decode cL_law 293 = .ok (.invokevirtual 37, 3) := by decide +kernel
theorem dL_law_296 : decode cL_law 296 = .ok (.aload_n 2, 1) := by decide +kernel
theorem dL_law_297 : decode cL_law 297 = .ok (.aload_n 0, 1) := by decide +kernel
theorem dL_law_298 : decode cL_law 298 = .ok (.iload_n 3, 1) := by decide +kernel
theorem dL_law_299 : decode cL_law 299 = .ok (.iconst 1, 1) := by decide +kernel
theorem dL_law_300 : decode cL_law 300 = .ok (.iadd, 1) := by decide +kernel
theorem dL_law_301 : decode cL_law 301 = .ok (.iaload, 1) := by decide +kernel
theorem dL_law_302 : decode cL_law 302 = .ok (.aload_n 0, 1) := by decide +kernel
theorem dL_law_303 : decode cL_law 303 = .ok (.iload_n 3, 1) := by decide +kernel
theorem dL_law_304 : decode cL_law 304 = .ok (.iconst 2, 1) := by decide +kernel
theorem dL_law_305 : decode cL_law 305 = .ok (.iadd, 1) := by decide +kernel
theorem dL_law_306 : decode cL_law 306 = .ok (.iaload, 1) := by decide +kernel
theorem dL_law_307 : decode cL_law 307 = .ok (.aload_n 0, 1) := by decide +kernel
theorem dL_law_308 : decode cL_law 308 = .ok (.iload_n 3, 1) := by decide +kernel
theorem dL_law_309 : decode cL_law 309 = .ok (.iconst 3, 1) := by decide +kernel
theorem dL_law_310 : decode cL_law 310 = .ok (.iadd, 1) := by decide +kernel
theorem dL_law_311 : decode cL_law 311 = .ok (.iaload, 1) := by decide +kernel
theorem dL_law_312 : decode cL_law 312 = .ok (.invokevirtual 41, 3) := by decide +kernel
theorem dL_law_315 : decode cL_law 315 = .ok (.lcmp, 1) := by decide +kernel
theorem dL_law_316 : decode cL_law 316 = .ok (.ifCond .eq 707, 3) := by decide +kernel
theorem dL_law_319 : decode cL_law 319 = .ok (.iconst 0, 1) := by decide +kernel
theorem dL_law_320 : decode cL_law 320 = .ok (.ireturn, 1) := by decide +kernel
theorem dL_law_321 : decode cL_law 321 = .ok (.aload_n 1, 1) := by decide +kernel
theorem dL_law_322 : decode cL_law 322 = .ok (.aload_n 0, 1) := by decide +kernel
theorem dL_law_323 : decode cL_law 323 = .ok (.iload_n 3, 1) := by decide +kernel
theorem dL_law_324 : decode cL_law 324 = .ok (.iconst 1, 1) := by decide +kernel
theorem dL_law_325 : decode cL_law 325 = .ok (.iadd, 1) := by decide +kernel
theorem dL_law_326 : decode cL_law 326 = .ok (.iaload, 1) := by decide +kernel
theorem dL_law_327 : decode cL_law 327 = .ok (.aload_n 0, 1) := by decide +kernel
theorem dL_law_328 : decode cL_law 328 = .ok (.iload_n 3, 1) := by decide +kernel
theorem dL_law_329 : decode cL_law 329 = .ok (.iconst 2, 1) := by decide +kernel
theorem dL_law_330 : decode cL_law 330 = .ok (.iadd, 1) := by decide +kernel
theorem dL_law_331 : decode cL_law 331 = .ok (.iaload, 1) := by decide +kernel
theorem dL_law_332 : decode cL_law 332 = .ok (.aload_n 0, 1) := by decide +kernel
theorem dL_law_333 : decode cL_law 333 = .ok (.iload_n 3, 1) := by decide +kernel
theorem dL_law_334 : decode cL_law 334 = .ok (.iconst 3, 1) := by decide +kernel
theorem dL_law_335 : decode cL_law 335 = .ok (.iadd, 1) := by decide +kernel
theorem dL_law_336 : decode cL_law 336 = .ok (.iaload, 1) := by decide +kernel
theorem dL_law_337 : decode cL_law 337 = .ok (.invokevirtual 42, 3) := by decide +kernel
theorem dL_law_340 : decode cL_law 340 = .ok (.aload_n 2, 1) := by decide +kernel
theorem dL_law_341 : decode cL_law 341 = .ok (.aload_n 0, 1) := by decide +kernel
theorem dL_law_342 : decode cL_law 342 = .ok (.iload_n 3, 1) := by decide +kernel
theorem dL_law_343 : decode cL_law 343 = .ok (.iconst 1, 1) := by decide +kernel
theorem dL_law_344 : decode cL_law 344 = .ok (.iadd, 1) := by decide +kernel
theorem dL_law_345 : decode cL_law 345 = .ok (.iaload, 1) := by decide +kernel
theorem dL_law_346 : decode cL_law 346 = .ok (.aload_n 0, 1) := by decide +kernel
theorem dL_law_347 : decode cL_law 347 = .ok (.iload_n 3, 1) := by decide +kernel
theorem dL_law_348 : decode cL_law 348 = .ok (.iconst 2, 1) := by decide +kernel
theorem dL_law_349 : decode cL_law 349 = .ok (.iadd, 1) := by decide +kernel
theorem dL_law_350 : decode cL_law 350 = .ok (.iaload, 1) := by decide +kernel
theorem dL_law_351 : decode cL_law 351 = .ok (.aload_n 0, 1) := by decide +kernel
theorem dL_law_352 : decode cL_law 352 = .ok (.iload_n 3, 1) := by decide +kernel
theorem dL_law_353 : decode cL_law 353 = .ok (.iconst 3, 1) := by decide +kernel
theorem dL_law_354 : decode cL_law 354 = .ok (.iadd, 1) := by decide +kernel
theorem dL_law_355 : decode cL_law 355 = .ok (.iaload, 1) := by decide +kernel
theorem dL_law_356 : decode cL_law 356 = .ok (.invokevirtual 45, 3) := by decide +kernel
theorem dL_law_359 : decode cL_law 359 = .ok (.lcmp, 1) := by decide +kernel
theorem dL_law_360 : decode cL_law 360 = .ok (.ifCond .eq 663, 3) := by decide +kernel
theorem dL_law_363 : decode cL_law 363 = .ok (.iconst 0, 1) := by decide +kernel
theorem dL_law_364 : decode cL_law 364 = .ok (.ireturn, 1) := by decide +kernel
theorem dL_law_365 : decode cL_law 365 = .ok (.aload_n 1, 1) := by decide +kernel
theorem dL_law_366 : decode cL_law 366 = .ok (.aload_n 0, 1) := by decide +kernel
theorem dL_law_367 : decode cL_law 367 = .ok (.iload_n 3, 1) := by decide +kernel
theorem dL_law_368 : decode cL_law 368 = .ok (.iconst 1, 1) := by decide +kernel
theorem dL_law_369 : decode cL_law 369 = .ok (.iadd, 1) := by decide +kernel
theorem dL_law_370 : decode cL_law 370 = .ok (.iaload, 1) := by decide +kernel
theorem dL_law_371 : decode cL_law 371 = .ok (.aload_n 0, 1) := by decide +kernel
theorem dL_law_372 : decode cL_law 372 = .ok (.iload_n 3, 1) := by decide +kernel
theorem dL_law_373 : decode cL_law 373 = .ok (.iconst 2, 1) := by decide +kernel
theorem dL_law_374 : decode cL_law 374 = .ok (.iadd, 1) := by decide +kernel
theorem dL_law_375 : decode cL_law 375 = .ok (.iaload, 1) := by decide +kernel
theorem dL_law_376 : decode cL_law 376 = .ok (.aload_n 0, 1) := by decide +kernel
theorem dL_law_377 : decode cL_law 377 = .ok (.iload_n 3, 1) := by decide +kernel
theorem dL_law_378 : decode cL_law 378 = .ok (.iconst 3, 1) := by decide +kernel
theorem dL_law_379 : decode cL_law 379 = .ok (.iadd, 1) := by decide +kernel
theorem dL_law_380 : decode cL_law 380 = .ok (.iaload, 1) := by decide +kernel
theorem dL_law_381 : decode cL_law 381 = .ok (.aload_n 0, 1) := by decide +kernel
theorem dL_law_382 : decode cL_law 382 = .ok (.iload_n 3, 1) := by decide +kernel
theorem dL_law_383 : decode cL_law 383 = .ok (.iconst 4, 1) := by decide +kernel
theorem dL_law_384 : decode cL_law 384 = .ok (.iadd, 1) := by decide +kernel
theorem dL_law_385 : decode cL_law 385 = .ok (.iaload, 1) := by decide +kernel
theorem dL_law_386 : decode cL_law 386 = .ok (.invokevirtual 46, 3) := by decide +kernel
theorem dL_law_389 : decode cL_law 389 = .ok (.aload_n 2, 1) := by decide +kernel
theorem dL_law_390 : decode cL_law 390 = .ok (.aload_n 0, 1) := by decide +kernel
theorem dL_law_391 : decode cL_law 391 = .ok (.iload_n 3, 1) := by decide +kernel
theorem dL_law_392 : decode cL_law 392 = .ok (.iconst 1, 1) := by decide +kernel
theorem dL_law_393 : decode cL_law 393 = .ok (.iadd, 1) := by decide +kernel
theorem dL_law_394 : decode cL_law 394 = .ok (.iaload, 1) := by decide +kernel
theorem dL_law_395 : decode cL_law 395 = .ok (.aload_n 0, 1) := by decide +kernel
theorem dL_law_396 : decode cL_law 396 = .ok (.iload_n 3, 1) := by decide +kernel
theorem dL_law_397 : decode cL_law 397 = .ok (.iconst 2, 1) := by decide +kernel
theorem dL_law_398 : decode cL_law 398 = .ok (.iadd, 1) := by decide +kernel
theorem dL_law_399 : decode cL_law 399 = .ok (.iaload, 1) := by decide +kernel
theorem dL_law_400 : decode cL_law 400 = .ok (.aload_n 0, 1) := by decide +kernel
theorem dL_law_401 : decode cL_law 401 = .ok (.iload_n 3, 1) := by decide +kernel
theorem dL_law_402 : decode cL_law 402 = .ok (.iconst 3, 1) := by decide +kernel
theorem dL_law_403 : decode cL_law 403 = .ok (.iadd, 1) := by decide +kernel
theorem dL_law_404 : decode cL_law 404 = .ok (.iaload, 1) := by decide +kernel
theorem dL_law_405 : decode cL_law 405 = .ok (.aload_n 0, 1) := by decide +kernel
theorem dL_law_406 : decode cL_law 406 = .ok (.iload_n 3, 1) := by decide +kernel
theorem dL_law_407 : decode cL_law 407 = .ok (.iconst 4, 1) := by decide +kernel
theorem dL_law_408 : decode cL_law 408 = .ok (.iadd, 1) := by decide +kernel
theorem dL_law_409 : decode cL_law 409 = .ok (.iaload, 1) := by decide +kernel
theorem dL_law_410 : decode cL_law 410 = .ok (.invokevirtual 50, 3) := by decide +kernel
theorem dL_law_413 : decode cL_law 413 = .ok (.lcmp, 1) := by decide +kernel
theorem dL_law_414 : decode cL_law 414 = .ok (.ifCond .eq 609, 3) := by decide +kernel
theorem dL_law_417 : decode cL_law 417 = .ok (.iconst 0, 1) := by decide +kernel
theorem dL_law_418 : decode cL_law 418 = .ok (.ireturn, 1) := by decide +kernel
theorem dL_law_419 : decode cL_law 419 = .ok (.aload_n 1, 1) := by decide +kernel
theorem dL_law_420 : decode cL_law 420 = .ok (.aload_n 0, 1) := by decide +kernel
theorem dL_law_421 : decode cL_law 421 = .ok (.iload_n 3, 1) := by decide +kernel
theorem dL_law_422 : decode cL_law 422 = .ok (.iconst 1, 1) := by decide +kernel
theorem dL_law_423 : decode cL_law 423 = .ok (.iadd, 1) := by decide +kernel
theorem dL_law_424 : decode cL_law 424 = .ok (.iaload, 1) := by decide +kernel
theorem dL_law_425 : decode cL_law 425 = .ok (.aload_n 0, 1) := by decide +kernel
theorem dL_law_426 : decode cL_law 426 = .ok (.iload_n 3, 1) := by decide +kernel
theorem dL_law_427 : decode cL_law 427 = .ok (.iconst 2, 1) := by decide +kernel
theorem dL_law_428 : decode cL_law 428 = .ok (.iadd, 1) := by decide +kernel
theorem dL_law_429 : decode cL_law 429 = .ok (.iaload, 1) := by decide +kernel
theorem dL_law_430 : decode cL_law 430 = .ok (.aload_n 0, 1) := by decide +kernel
theorem dL_law_431 : decode cL_law 431 = .ok (.iload_n 3, 1) := by decide +kernel
theorem dL_law_432 : decode cL_law 432 = .ok (.iconst 3, 1) := by decide +kernel
theorem dL_law_433 : decode cL_law 433 = .ok (.iadd, 1) := by decide +kernel
theorem dL_law_434 : decode cL_law 434 = .ok (.iaload, 1) := by decide +kernel
theorem dL_law_435 : decode cL_law 435 = .ok (.aload_n 0, 1) := by decide +kernel
theorem dL_law_436 : decode cL_law 436 = .ok (.iload_n 3, 1) := by decide +kernel
theorem dL_law_437 : decode cL_law 437 = .ok (.iconst 4, 1) := by decide +kernel
theorem dL_law_438 : decode cL_law 438 = .ok (.iadd, 1) := by decide +kernel
theorem dL_law_439 : decode cL_law 439 = .ok (.iaload, 1) := by decide +kernel
theorem dL_law_440 : decode cL_law 440 = .ok (.invokevirtual 51, 3) := by decide +kernel
theorem dL_law_443 : decode cL_law 443 = .ok (.aload_n 2, 1) := by decide +kernel
theorem dL_law_444 : decode cL_law 444 = .ok (.aload_n 0, 1) := by decide +kernel
theorem dL_law_445 : decode cL_law 445 = .ok (.iload_n 3, 1) := by decide +kernel
theorem dL_law_446 : decode cL_law 446 = .ok (.iconst 1, 1) := by decide +kernel
theorem dL_law_447 : decode cL_law 447 = .ok (.iadd, 1) := by decide +kernel
theorem dL_law_448 : decode cL_law 448 = .ok (.iaload, 1) := by decide +kernel
theorem dL_law_449 : decode cL_law 449 = .ok (.aload_n 0, 1) := by decide +kernel
theorem dL_law_450 : decode cL_law 450 = .ok (.iload_n 3, 1) := by decide +kernel
theorem dL_law_451 : decode cL_law 451 = .ok (.iconst 2, 1) := by decide +kernel
theorem dL_law_452 : decode cL_law 452 = .ok (.iadd, 1) := by decide +kernel
theorem dL_law_453 : decode cL_law 453 = .ok (.iaload, 1) := by decide +kernel
theorem dL_law_454 : decode cL_law 454 = .ok (.aload_n 0, 1) := by decide +kernel
theorem dL_law_455 : decode cL_law 455 = .ok (.iload_n 3, 1) := by decide +kernel
theorem dL_law_456 : decode cL_law 456 = .ok (.iconst 3, 1) := by decide +kernel
theorem dL_law_457 : decode cL_law 457 = .ok (.iadd, 1) := by decide +kernel
theorem dL_law_458 : decode cL_law 458 = .ok (.iaload, 1) := by decide +kernel
theorem dL_law_459 : decode cL_law 459 = .ok (.aload_n 0, 1) := by decide +kernel
theorem dL_law_460 : decode cL_law 460 = .ok (.iload_n 3, 1) := by decide +kernel
theorem dL_law_461 : decode cL_law 461 = .ok (.iconst 4, 1) := by decide +kernel
theorem dL_law_462 : decode cL_law 462 = .ok (.iadd, 1) := by decide +kernel
theorem dL_law_463 : decode cL_law 463 = .ok (.iaload, 1) := by decide +kernel
theorem dL_law_464 : decode cL_law 464 = .ok (.invokevirtual 55, 3) := by decide +kernel
theorem dL_law_467 : decode cL_law 467 = .ok (.if_icmp .eq 556, 3) := by decide +kernel
theorem dL_law_470 : decode cL_law 470 = .ok (.iconst 0, 1) := by decide +kernel
theorem dL_law_471 : decode cL_law 471 = .ok (.ireturn, 1) := by decide +kernel
theorem dL_law_472 : decode cL_law 472 = .ok (.aload_n 1, 1) := by decide +kernel
theorem dL_law_473 : decode cL_law 473 = .ok (.aload_n 0, 1) := by decide +kernel
theorem dL_law_474 : decode cL_law 474 = .ok (.iload_n 3, 1) := by decide +kernel
theorem dL_law_475 : decode cL_law 475 = .ok (.iconst 1, 1) := by decide +kernel
theorem dL_law_476 : decode cL_law 476 = .ok (.iadd, 1) := by decide +kernel
theorem dL_law_477 : decode cL_law 477 = .ok (.iaload, 1) := by decide +kernel
theorem dL_law_478 : decode cL_law 478 = .ok (.aload_n 0, 1) := by decide +kernel
theorem dL_law_479 : decode cL_law 479 = .ok (.iload_n 3, 1) := by decide +kernel
theorem dL_law_480 : decode cL_law 480 = .ok (.iconst 2, 1) := by decide +kernel
theorem dL_law_481 : decode cL_law 481 = .ok (.iadd, 1) := by decide +kernel
theorem dL_law_482 : decode cL_law 482 = .ok (.iaload, 1) := by decide +kernel
theorem dL_law_483 : decode cL_law 483 = .ok (.aload_n 0, 1) := by decide +kernel
theorem dL_law_484 : decode cL_law 484 = .ok (.iload_n 3, 1) := by decide +kernel
theorem dL_law_485 : decode cL_law 485 = .ok (.iconst 3, 1) := by decide +kernel
theorem dL_law_486 : decode cL_law 486 = .ok (.iadd, 1) := by decide +kernel
theorem dL_law_487 : decode cL_law 487 = .ok (.iaload, 1) := by decide +kernel
theorem dL_law_488 : decode cL_law 488 = .ok (.aload_n 0, 1) := by decide +kernel
theorem dL_law_489 : decode cL_law 489 = .ok (.iload_n 3, 1) := by decide +kernel
theorem dL_law_490 : decode cL_law 490 = .ok (.iconst 4, 1) := by decide +kernel
theorem dL_law_491 : decode cL_law 491 = .ok (.iadd, 1) := by decide +kernel
theorem dL_law_492 : decode cL_law 492 = .ok (.iaload, 1) := by decide +kernel
theorem dL_law_493 : decode cL_law 493 = .ok (.invokevirtual 56, 3) := by decide +kernel
theorem dL_law_496 : decode cL_law 496 = .ok (.aload_n 2, 1) := by decide +kernel
theorem dL_law_497 : decode cL_law 497 = .ok (.aload_n 0, 1) := by decide +kernel
theorem dL_law_498 : decode cL_law 498 = .ok (.iload_n 3, 1) := by decide +kernel
theorem dL_law_499 : decode cL_law 499 = .ok (.iconst 1, 1) := by decide +kernel
theorem dL_law_500 : decode cL_law 500 = .ok (.iadd, 1) := by decide +kernel
theorem dL_law_501 : decode cL_law 501 = .ok (.iaload, 1) := by decide +kernel
theorem dL_law_502 : decode cL_law 502 = .ok (.aload_n 0, 1) := by decide +kernel
theorem dL_law_503 : decode cL_law 503 = .ok (.iload_n 3, 1) := by decide +kernel
theorem dL_law_504 : decode cL_law 504 = .ok (.iconst 2, 1) := by decide +kernel
theorem dL_law_505 : decode cL_law 505 = .ok (.iadd, 1) := by decide +kernel
theorem dL_law_506 : decode cL_law 506 = .ok (.iaload, 1) := by decide +kernel
theorem dL_law_507 : decode cL_law 507 = .ok (.aload_n 0, 1) := by decide +kernel
theorem dL_law_508 : decode cL_law 508 = .ok (.iload_n 3, 1) := by decide +kernel
theorem dL_law_509 : decode cL_law 509 = .ok (.iconst 3, 1) := by decide +kernel
theorem dL_law_510 : decode cL_law 510 = .ok (.iadd, 1) := by decide +kernel
theorem dL_law_511 : decode cL_law 511 = .ok (.iaload, 1) := by decide +kernel
theorem dL_law_512 : decode cL_law 512 = .ok (.aload_n 0, 1) := by decide +kernel
theorem dL_law_513 : decode cL_law 513 = .ok (.iload_n 3, 1) := by decide +kernel
theorem dL_law_514 : decode cL_law 514 = .ok (.iconst 4, 1) := by decide +kernel
theorem dL_law_515 : decode cL_law 515 = .ok (.iadd, 1) := by decide +kernel
theorem dL_law_516 : decode cL_law 516 = .ok (.iaload, 1) := by decide +kernel
theorem dL_law_517 : decode cL_law 517 = .ok (.invokevirtual 59, 3) := by decide +kernel
theorem dL_law_520 : decode cL_law 520 = .ok (.lcmp, 1) := by decide +kernel
theorem dL_law_521 : decode cL_law 521 = .ok (.ifCond .eq 502, 3) := by decide +kernel
theorem dL_law_524 : decode cL_law 524 = .ok (.iconst 0, 1) := by decide +kernel
theorem dL_law_525 : decode cL_law 525 = .ok (.ireturn, 1) := by decide +kernel
theorem dL_law_526 : decode cL_law 526 = .ok (.aload_n 1, 1) := by decide +kernel
theorem dL_law_527 : decode cL_law 527 = .ok (.aload_n 0, 1) := by decide +kernel
theorem dL_law_528 : decode cL_law 528 = .ok (.iload_n 3, 1) := by decide +kernel
theorem dL_law_529 : decode cL_law 529 = .ok (.iconst 1, 1) := by decide +kernel
theorem dL_law_530 : decode cL_law 530 = .ok (.iadd, 1) := by decide +kernel
theorem dL_law_531 : decode cL_law 531 = .ok (.iaload, 1) := by decide +kernel
theorem dL_law_532 : decode cL_law 532 = .ok (.aload_n 0, 1) := by decide +kernel
theorem dL_law_533 : decode cL_law 533 = .ok (.iload_n 3, 1) := by decide +kernel
theorem dL_law_534 : decode cL_law 534 = .ok (.iconst 2, 1) := by decide +kernel
theorem dL_law_535 : decode cL_law 535 = .ok (.iadd, 1) := by decide +kernel
theorem dL_law_536 : decode cL_law 536 = .ok (.iaload, 1) := by decide +kernel
theorem dL_law_537 : decode cL_law 537 = .ok (.invokevirtual 60, 3) := by decide +kernel
theorem dL_law_540 : decode cL_law 540 = .ok (.aload_n 2, 1) := by decide +kernel
theorem dL_law_541 : decode cL_law 541 = .ok (.aload_n 0, 1) := by decide +kernel
theorem dL_law_542 : decode cL_law 542 = .ok (.iload_n 3, 1) := by decide +kernel
theorem dL_law_543 : decode cL_law 543 = .ok (.iconst 1, 1) := by decide +kernel
theorem dL_law_544 : decode cL_law 544 = .ok (.iadd, 1) := by decide +kernel
theorem dL_law_545 : decode cL_law 545 = .ok (.iaload, 1) := by decide +kernel
theorem dL_law_546 : decode cL_law 546 = .ok (.aload_n 0, 1) := by decide +kernel
theorem dL_law_547 : decode cL_law 547 = .ok (.iload_n 3, 1) := by decide +kernel
theorem dL_law_548 : decode cL_law 548 = .ok (.iconst 2, 1) := by decide +kernel
theorem dL_law_549 : decode cL_law 549 = .ok (.iadd, 1) := by decide +kernel
theorem dL_law_550 : decode cL_law 550 = .ok (.iaload, 1) := by decide +kernel
theorem dL_law_551 : decode cL_law 551 = .ok (.invokevirtual 63, 3) := by decide +kernel
theorem dL_law_554 : decode cL_law 554 = .ok (.if_icmp .eq 469, 3) := by decide +kernel
theorem dL_law_557 : decode cL_law 557 = .ok (.iconst 0, 1) := by decide +kernel
theorem dL_law_558 : decode cL_law 558 = .ok (.ireturn, 1) := by decide +kernel
theorem dL_law_559 : decode cL_law 559 = .ok (.aload_n 1, 1) := by decide +kernel
theorem dL_law_560 : decode cL_law 560 = .ok (.aload_n 0, 1) := by decide +kernel
theorem dL_law_561 : decode cL_law 561 = .ok (.iload_n 3, 1) := by decide +kernel
theorem dL_law_562 : decode cL_law 562 = .ok (.iconst 1, 1) := by decide +kernel
theorem dL_law_563 : decode cL_law 563 = .ok (.iadd, 1) := by decide +kernel
theorem dL_law_564 : decode cL_law 564 = .ok (.iaload, 1) := by decide +kernel
theorem dL_law_565 : decode cL_law 565 = .ok (.aload_n 0, 1) := by decide +kernel
theorem dL_law_566 : decode cL_law 566 = .ok (.iload_n 3, 1) := by decide +kernel
theorem dL_law_567 : decode cL_law 567 = .ok (.iconst 2, 1) := by decide +kernel
theorem dL_law_568 : decode cL_law 568 = .ok (.iadd, 1) := by decide +kernel
theorem dL_law_569 : decode cL_law 569 = .ok (.iaload, 1) := by decide +kernel
theorem dL_law_570 : decode cL_law 570 = .ok (.aload_n 0, 1) := by decide +kernel
theorem dL_law_571 : decode cL_law 571 = .ok (.iload_n 3, 1) := by decide +kernel
theorem dL_law_572 : decode cL_law 572 = .ok (.iconst 3, 1) := by decide +kernel
theorem dL_law_573 : decode cL_law 573 = .ok (.iadd, 1) := by decide +kernel
theorem dL_law_574 : decode cL_law 574 = .ok (.iaload, 1) := by decide +kernel
theorem dL_law_575 : decode cL_law 575 = .ok (.invokevirtual 64, 3) := by decide +kernel
theorem dL_law_578 : decode cL_law 578 = .ok (.aload_n 2, 1) := by decide +kernel
theorem dL_law_579 : decode cL_law 579 = .ok (.aload_n 0, 1) := by decide +kernel
theorem dL_law_580 : decode cL_law 580 = .ok (.iload_n 3, 1) := by decide +kernel
theorem dL_law_581 : decode cL_law 581 = .ok (.iconst 1, 1) := by decide +kernel
theorem dL_law_582 : decode cL_law 582 = .ok (.iadd, 1) := by decide +kernel
theorem dL_law_583 : decode cL_law 583 = .ok (.iaload, 1) := by decide +kernel
theorem dL_law_584 : decode cL_law 584 = .ok (.aload_n 0, 1) := by decide +kernel
theorem dL_law_585 : decode cL_law 585 = .ok (.iload_n 3, 1) := by decide +kernel
theorem dL_law_586 : decode cL_law 586 = .ok (.iconst 2, 1) := by decide +kernel
theorem dL_law_587 : decode cL_law 587 = .ok (.iadd, 1) := by decide +kernel
theorem dL_law_588 : decode cL_law 588 = .ok (.iaload, 1) := by decide +kernel
theorem dL_law_589 : decode cL_law 589 = .ok (.aload_n 0, 1) := by decide +kernel
theorem dL_law_590 : decode cL_law 590 = .ok (.iload_n 3, 1) := by decide +kernel
theorem dL_law_591 : decode cL_law 591 = .ok (.iconst 3, 1) := by decide +kernel
theorem dL_law_592 : decode cL_law 592 = .ok (.iadd, 1) := by decide +kernel
theorem dL_law_593 : decode cL_law 593 = .ok (.iaload, 1) := by decide +kernel
theorem dL_law_594 : decode cL_law 594 = .ok (.invokevirtual 67, 3) := by decide +kernel
theorem dL_law_597 : decode cL_law 597 = .ok (.lcmp, 1) := by decide +kernel
theorem dL_law_598 : decode cL_law 598 = .ok (.ifCond .eq 425, 3) := by decide +kernel
theorem dL_law_601 : decode cL_law 601 = .ok (.iconst 0, 1) := by decide +kernel
theorem dL_law_602 : decode cL_law 602 = .ok (.ireturn, 1) := by decide +kernel
theorem dL_law_603 : decode cL_law 603 = .ok (.aload_n 1, 1) := by decide +kernel
theorem dL_law_604 : decode cL_law 604 = .ok (.aload_n 0, 1) := by decide +kernel
theorem dL_law_605 : decode cL_law 605 = .ok (.iload_n 3, 1) := by decide +kernel
theorem dL_law_606 : decode cL_law 606 = .ok (.iconst 1, 1) := by decide +kernel
theorem dL_law_607 : decode cL_law 607 = .ok (.iadd, 1) := by decide +kernel
theorem dL_law_608 : decode cL_law 608 = .ok (.iaload, 1) := by decide +kernel
theorem dL_law_609 : decode cL_law 609 = .ok (.aload_n 0, 1) := by decide +kernel
theorem dL_law_610 : decode cL_law 610 = .ok (.iload_n 3, 1) := by decide +kernel
theorem dL_law_611 : decode cL_law 611 = .ok (.iconst 2, 1) := by decide +kernel
theorem dL_law_612 : decode cL_law 612 = .ok (.iadd, 1) := by decide +kernel
theorem dL_law_613 : decode cL_law 613 = .ok (.iaload, 1) := by decide +kernel
theorem dL_law_614 : decode cL_law 614 = .ok (.aload_n 0, 1) := by decide +kernel
theorem dL_law_615 : decode cL_law 615 = .ok (.iload_n 3, 1) := by decide +kernel
theorem dL_law_616 : decode cL_law 616 = .ok (.iconst 3, 1) := by decide +kernel
theorem dL_law_617 : decode cL_law 617 = .ok (.iadd, 1) := by decide +kernel
theorem dL_law_618 : decode cL_law 618 = .ok (.iaload, 1) := by decide +kernel
theorem dL_law_619 : decode cL_law 619 = .ok (.invokevirtual 68, 3) := by decide +kernel
theorem dL_law_622 : decode cL_law 622 = .ok (.aload_n 2, 1) := by decide +kernel
theorem dL_law_623 : decode cL_law 623 = .ok (.aload_n 0, 1) := by decide +kernel
theorem dL_law_624 : decode cL_law 624 = .ok (.iload_n 3, 1) := by decide +kernel
theorem dL_law_625 : decode cL_law 625 = .ok (.iconst 1, 1) := by decide +kernel
theorem dL_law_626 : decode cL_law 626 = .ok (.iadd, 1) := by decide +kernel
theorem dL_law_627 : decode cL_law 627 = .ok (.iaload, 1) := by decide +kernel
theorem dL_law_628 : decode cL_law 628 = .ok (.aload_n 0, 1) := by decide +kernel
theorem dL_law_629 : decode cL_law 629 = .ok (.iload_n 3, 1) := by decide +kernel
theorem dL_law_630 : decode cL_law 630 = .ok (.iconst 2, 1) := by decide +kernel
theorem dL_law_631 : decode cL_law 631 = .ok (.iadd, 1) := by decide +kernel
theorem dL_law_632 : decode cL_law 632 = .ok (.iaload, 1) := by decide +kernel
theorem dL_law_633 : decode cL_law 633 = .ok (.aload_n 0, 1) := by decide +kernel
theorem dL_law_634 : decode cL_law 634 = .ok (.iload_n 3, 1) := by decide +kernel
theorem dL_law_635 : decode cL_law 635 = .ok (.iconst 3, 1) := by decide +kernel
theorem dL_law_636 : decode cL_law 636 = .ok (.iadd, 1) := by decide +kernel
theorem dL_law_637 : decode cL_law 637 = .ok (.iaload, 1) := by decide +kernel
theorem dL_law_638 : decode cL_law 638 = .ok (.invokevirtual 71, 3) := by decide +kernel
theorem dL_law_641 : decode cL_law 641 = .ok (.if_icmp .eq 382, 3) := by decide +kernel
theorem dL_law_644 : decode cL_law 644 = .ok (.iconst 0, 1) := by decide +kernel
theorem dL_law_645 : decode cL_law 645 = .ok (.ireturn, 1) := by decide +kernel
theorem dL_law_646 : decode cL_law 646 = .ok (.aload_n 1, 1) := by decide +kernel
theorem dL_law_647 : decode cL_law 647 = .ok (.aload_n 0, 1) := by decide +kernel
theorem dL_law_648 : decode cL_law 648 = .ok (.iload_n 3, 1) := by decide +kernel
theorem dL_law_649 : decode cL_law 649 = .ok (.iconst 1, 1) := by decide +kernel
theorem dL_law_650 : decode cL_law 650 = .ok (.iadd, 1) := by decide +kernel
theorem dL_law_651 : decode cL_law 651 = .ok (.iaload, 1) := by decide +kernel
theorem dL_law_652 : decode cL_law 652 = .ok (.aload_n 0, 1) := by decide +kernel
theorem dL_law_653 : decode cL_law 653 = .ok (.iload_n 3, 1) := by decide +kernel
theorem dL_law_654 : decode cL_law 654 = .ok (.iconst 2, 1) := by decide +kernel
theorem dL_law_655 : decode cL_law 655 = .ok (.iadd, 1) := by decide +kernel
theorem dL_law_656 : decode cL_law 656 = .ok (.iaload, 1) := by decide +kernel
theorem dL_law_657 : decode cL_law 657 = .ok (.aload_n 0, 1) := by decide +kernel
theorem dL_law_658 : decode cL_law 658 = .ok (.iload_n 3, 1) := by decide +kernel
theorem dL_law_659 : decode cL_law 659 = .ok (.iconst 3, 1) := by decide +kernel
theorem dL_law_660 : decode cL_law 660 = .ok (.iadd, 1) := by decide +kernel
theorem dL_law_661 : decode cL_law 661 = .ok (.iaload, 1) := by decide +kernel
theorem dL_law_662 : decode cL_law 662 = .ok (.invokevirtual 72, 3) := by decide +kernel
theorem dL_law_665 : decode cL_law 665 = .ok (.aload_n 2, 1) := by decide +kernel
theorem dL_law_666 : decode cL_law 666 = .ok (.aload_n 0, 1) := by decide +kernel
theorem dL_law_667 : decode cL_law 667 = .ok (.iload_n 3, 1) := by decide +kernel
theorem dL_law_668 : decode cL_law 668 = .ok (.iconst 1, 1) := by decide +kernel
theorem dL_law_669 : decode cL_law 669 = .ok (.iadd, 1) := by decide +kernel
theorem dL_law_670 : decode cL_law 670 = .ok (.iaload, 1) := by decide +kernel
theorem dL_law_671 : decode cL_law 671 = .ok (.aload_n 0, 1) := by decide +kernel
theorem dL_law_672 : decode cL_law 672 = .ok (.iload_n 3, 1) := by decide +kernel
theorem dL_law_673 : decode cL_law 673 = .ok (.iconst 2, 1) := by decide +kernel
theorem dL_law_674 : decode cL_law 674 = .ok (.iadd, 1) := by decide +kernel
theorem dL_law_675 : decode cL_law 675 = .ok (.iaload, 1) := by decide +kernel
theorem dL_law_676 : decode cL_law 676 = .ok (.aload_n 0, 1) := by decide +kernel
theorem dL_law_677 : decode cL_law 677 = .ok (.iload_n 3, 1) := by decide +kernel
theorem dL_law_678 : decode cL_law 678 = .ok (.iconst 3, 1) := by decide +kernel
theorem dL_law_679 : decode cL_law 679 = .ok (.iadd, 1) := by decide +kernel
theorem dL_law_680 : decode cL_law 680 = .ok (.iaload, 1) := by decide +kernel
theorem dL_law_681 : decode cL_law 681 = .ok (.invokevirtual 75, 3) := by decide +kernel
theorem dL_law_684 : decode cL_law 684 = .ok (.lcmp, 1) := by decide +kernel
theorem dL_law_685 : decode cL_law 685 = .ok (.ifCond .eq 338, 3) := by decide +kernel
theorem dL_law_688 : decode cL_law 688 = .ok (.iconst 0, 1) := by decide +kernel
theorem dL_law_689 : decode cL_law 689 = .ok (.ireturn, 1) := by decide +kernel
theorem dL_law_690 : decode cL_law 690 = .ok (.aload_n 1, 1) := by decide +kernel
theorem dL_law_691 : decode cL_law 691 = .ok (.aload_n 0, 1) := by decide +kernel
theorem dL_law_692 : decode cL_law 692 = .ok (.iload_n 3, 1) := by decide +kernel
theorem dL_law_693 : decode cL_law 693 = .ok (.iconst 1, 1) := by decide +kernel
theorem dL_law_694 : decode cL_law 694 = .ok (.iadd, 1) := by decide +kernel
theorem dL_law_695 : decode cL_law 695 = .ok (.iaload, 1) := by decide +kernel
theorem dL_law_696 : decode cL_law 696 = .ok (.aload_n 0, 1) := by decide +kernel
theorem dL_law_697 : decode cL_law 697 = .ok (.iload_n 3, 1) := by decide +kernel
theorem dL_law_698 : decode cL_law 698 = .ok (.iconst 2, 1) := by decide +kernel
theorem dL_law_699 : decode cL_law 699 = .ok (.iadd, 1) := by decide +kernel
theorem dL_law_700 : decode cL_law 700 = .ok (.iaload, 1) := by decide +kernel
theorem dL_law_701 : decode cL_law 701 = .ok (.invokevirtual 76, 3) := by decide +kernel
theorem dL_law_704 : decode cL_law 704 = .ok (.aload_n 2, 1) := by decide +kernel
theorem dL_law_705 : decode cL_law 705 = .ok (.aload_n 0, 1) := by decide +kernel
theorem dL_law_706 : decode cL_law 706 = .ok (.iload_n 3, 1) := by decide +kernel
theorem dL_law_707 : decode cL_law 707 = .ok (.iconst 1, 1) := by decide +kernel
theorem dL_law_708 : decode cL_law 708 = .ok (.iadd, 1) := by decide +kernel
theorem dL_law_709 : decode cL_law 709 = .ok (.iaload, 1) := by decide +kernel
theorem dL_law_710 : decode cL_law 710 = .ok (.aload_n 0, 1) := by decide +kernel
theorem dL_law_711 : decode cL_law 711 = .ok (.iload_n 3, 1) := by decide +kernel
theorem dL_law_712 : decode cL_law 712 = .ok (.iconst 2, 1) := by decide +kernel
theorem dL_law_713 : decode cL_law 713 = .ok (.iadd, 1) := by decide +kernel
theorem dL_law_714 : decode cL_law 714 = .ok (.iaload, 1) := by decide +kernel
theorem dL_law_715 : decode cL_law 715 = .ok (.invokevirtual 79, 3) := by decide +kernel
theorem dL_law_718 : decode cL_law 718 = .ok (.if_icmp .eq 305, 3) := by decide +kernel
theorem dL_law_721 : decode cL_law 721 = .ok (.iconst 0, 1) := by decide +kernel
theorem dL_law_722 : decode cL_law 722 = .ok (.ireturn, 1) := by decide +kernel
theorem dL_law_723 : decode cL_law 723 = .ok (.aload_n 1, 1) := by decide +kernel
theorem dL_law_724 : decode cL_law 724 = .ok (.aload_n 0, 1) := by decide +kernel
theorem dL_law_725 : decode cL_law 725 = .ok (.iload_n 3, 1) := by decide +kernel
theorem dL_law_726 : decode cL_law 726 = .ok (.iconst 1, 1) := by decide +kernel
theorem dL_law_727 : decode cL_law 727 = .ok (.iadd, 1) := by decide +kernel
theorem dL_law_728 : decode cL_law 728 = .ok (.iaload, 1) := by decide +kernel
theorem dL_law_729 : decode cL_law 729 = .ok (.aload_n 0, 1) := by decide +kernel
theorem dL_law_730 : decode cL_law 730 = .ok (.iload_n 3, 1) := by decide +kernel
theorem dL_law_731 : decode cL_law 731 = .ok (.iconst 2, 1) := by decide +kernel
theorem dL_law_732 : decode cL_law 732 = .ok (.iadd, 1) := by decide +kernel
theorem dL_law_733 : decode cL_law 733 = .ok (.iaload, 1) := by decide +kernel
theorem dL_law_734 : decode cL_law 734 = .ok (.invokevirtual 80, 3) := by decide +kernel
theorem dL_law_737 : decode cL_law 737 = .ok (.aload_n 2, 1) := by decide +kernel
theorem dL_law_738 : decode cL_law 738 = .ok (.aload_n 0, 1) := by decide +kernel
theorem dL_law_739 : decode cL_law 739 = .ok (.iload_n 3, 1) := by decide +kernel
theorem dL_law_740 : decode cL_law 740 = .ok (.iconst 1, 1) := by decide +kernel
theorem dL_law_741 : decode cL_law 741 = .ok (.iadd, 1) := by decide +kernel
theorem dL_law_742 : decode cL_law 742 = .ok (.iaload, 1) := by decide +kernel
theorem dL_law_743 : decode cL_law 743 = .ok (.aload_n 0, 1) := by decide +kernel
theorem dL_law_744 : decode cL_law 744 = .ok (.iload_n 3, 1) := by decide +kernel
theorem dL_law_745 : decode cL_law 745 = .ok (.iconst 2, 1) := by decide +kernel
theorem dL_law_746 : decode cL_law 746 = .ok (.iadd, 1) := by decide +kernel
theorem dL_law_747 : decode cL_law 747 = .ok (.iaload, 1) := by decide +kernel
theorem dL_law_748 : decode cL_law 748 = .ok (.invokevirtual 83, 3) := by decide +kernel
theorem dL_law_751 : decode cL_law 751 = .ok (.if_icmp .eq 272, 3) := by decide +kernel
theorem dL_law_754 : decode cL_law 754 = .ok (.iconst 0, 1) := by decide +kernel
theorem dL_law_755 : decode cL_law 755 = .ok (.ireturn, 1) := by decide +kernel
theorem dL_law_756 : decode cL_law 756 = .ok (.aload_n 1, 1) := by decide +kernel
theorem dL_law_757 : decode cL_law 757 = .ok (.aload_n 0, 1) := by decide +kernel
theorem dL_law_758 : decode cL_law 758 = .ok (.iload_n 3, 1) := by decide +kernel
theorem dL_law_759 : decode cL_law 759 = .ok (.iconst 1, 1) := by decide +kernel
theorem dL_law_760 : decode cL_law 760 = .ok (.iadd, 1) := by decide +kernel
theorem dL_law_761 : decode cL_law 761 = .ok (.iaload, 1) := by decide +kernel
theorem dL_law_762 : decode cL_law 762 = .ok (.aload_n 0, 1) := by decide +kernel
theorem dL_law_763 : decode cL_law 763 = .ok (.iload_n 3, 1) := by decide +kernel
theorem dL_law_764 : decode cL_law 764 = .ok (.iconst 2, 1) := by decide +kernel
theorem dL_law_765 : decode cL_law 765 = .ok (.iadd, 1) := by decide +kernel
theorem dL_law_766 : decode cL_law 766 = .ok (.iaload, 1) := by decide +kernel
theorem dL_law_767 : decode cL_law 767 = .ok (.ifCond .eq 7, 3) := by decide +kernel
theorem dL_law_770 : decode cL_law 770 = .ok (.iconst 1, 1) := by decide +kernel
theorem dL_law_771 : decode cL_law 771 = .ok (.goto 4, 3) := by decide +kernel
theorem dL_law_774 : decode cL_law 774 = .ok (.iconst 0, 1) := by decide +kernel
theorem dL_law_775 : decode cL_law 775 = .ok (.invokevirtual 84, 3) := by decide +kernel
theorem dL_law_778 : decode cL_law 778 = .ok (.aload_n 2, 1) := by decide +kernel
theorem dL_law_779 : decode cL_law 779 = .ok (.aload_n 0, 1) := by decide +kernel
theorem dL_law_780 : decode cL_law 780 = .ok (.iload_n 3, 1) := by decide +kernel
theorem dL_law_781 : decode cL_law 781 = .ok (.iconst 1, 1) := by decide +kernel
theorem dL_law_782 : decode cL_law 782 = .ok (.iadd, 1) := by decide +kernel
theorem dL_law_783 : decode cL_law 783 = .ok (.iaload, 1) := by decide +kernel
theorem dL_law_784 : decode cL_law 784 = .ok (.aload_n 0, 1) := by decide +kernel
theorem dL_law_785 : decode cL_law 785 = .ok (.iload_n 3, 1) := by decide +kernel
theorem dL_law_786 : decode cL_law 786 = .ok (.iconst 2, 1) := by decide +kernel
theorem dL_law_787 : decode cL_law 787 = .ok (.iadd, 1) := by decide +kernel
theorem dL_law_788 : decode cL_law 788 = .ok (.iaload, 1) := by decide +kernel
theorem dL_law_789 : decode cL_law 789 = .ok (.ifCond .eq 7, 3) := by decide +kernel
theorem dL_law_792 : decode cL_law 792 = .ok (.iconst 1, 1) := by decide +kernel
theorem dL_law_793 : decode cL_law 793 = .ok (.goto 4, 3) := by decide +kernel
theorem dL_law_796 : decode cL_law 796 = .ok (.iconst 0, 1) := by decide +kernel
theorem dL_law_797 : decode cL_law 797 = .ok (.invokevirtual 88, 3) := by decide +kernel
theorem dL_law_800 : decode cL_law 800 = .ok (.if_icmp .eq 223, 3) := by decide +kernel
theorem dL_law_803 : decode cL_law 803 = .ok (.iconst 0, 1) := by decide +kernel
theorem dL_law_804 : decode cL_law 804 = .ok (.ireturn, 1) := by decide +kernel
theorem dL_law_805 : decode cL_law 805 = .ok (.aload_n 1, 1) := by decide +kernel
theorem dL_law_806 : decode cL_law 806 = .ok (.aload_n 0, 1) := by decide +kernel
theorem dL_law_807 : decode cL_law 807 = .ok (.iload_n 3, 1) := by decide +kernel
theorem dL_law_808 : decode cL_law 808 = .ok (.iconst 1, 1) := by decide +kernel
theorem dL_law_809 : decode cL_law 809 = .ok (.iadd, 1) := by decide +kernel
theorem dL_law_810 : decode cL_law 810 = .ok (.iaload, 1) := by decide +kernel
theorem dL_law_811 : decode cL_law 811 = .ok (.invokevirtual 89, 3) := by decide +kernel
theorem dL_law_814 : decode cL_law 814 = .ok (.aload_n 2, 1) := by decide +kernel
theorem dL_law_815 : decode cL_law 815 = .ok (.aload_n 0, 1) := by decide +kernel
theorem dL_law_816 : decode cL_law 816 = .ok (.iload_n 3, 1) := by decide +kernel
theorem dL_law_817 : decode cL_law 817 = .ok (.iconst 1, 1) := by decide +kernel
theorem dL_law_818 : decode cL_law 818 = .ok (.iadd, 1) := by decide +kernel
theorem dL_law_819 : decode cL_law 819 = .ok (.iaload, 1) := by decide +kernel
theorem dL_law_820 : decode cL_law 820 = .ok (.invokevirtual 93, 3) := by decide +kernel
theorem dL_law_823 : decode cL_law 823 = .ok (.lcmp, 1) := by decide +kernel
theorem dL_law_824 : decode cL_law 824 = .ok (.ifCond .eq 199, 3) := by decide +kernel
theorem dL_law_827 : decode cL_law 827 = .ok (.iconst 0, 1) := by decide +kernel
theorem dL_law_828 : decode cL_law 828 = .ok (.ireturn, 1) := by decide +kernel
theorem dL_law_829 : decode cL_law 829 = .ok (.aload_n 1, 1) := by decide +kernel
theorem dL_law_830 : decode cL_law 830 = .ok (.aload_n 0, 1) := by decide +kernel
theorem dL_law_831 : decode cL_law 831 = .ok (.iload_n 3, 1) := by decide +kernel
theorem dL_law_832 : decode cL_law 832 = .ok (.iconst 1, 1) := by decide +kernel
theorem dL_law_833 : decode cL_law 833 = .ok (.iadd, 1) := by decide +kernel
theorem dL_law_834 : decode cL_law 834 = .ok (.iaload, 1) := by decide +kernel
theorem dL_law_835 : decode cL_law 835 = .ok (.aload_n 0, 1) := by decide +kernel
theorem dL_law_836 : decode cL_law 836 = .ok (.iload_n 3, 1) := by decide +kernel
theorem dL_law_837 : decode cL_law 837 = .ok (.iconst 2, 1) := by decide +kernel
theorem dL_law_838 : decode cL_law 838 = .ok (.iadd, 1) := by decide +kernel
theorem dL_law_839 : decode cL_law 839 = .ok (.iaload, 1) := by decide +kernel
theorem dL_law_840 : decode cL_law 840 = .ok (.invokevirtual 94, 3) := by decide +kernel
theorem dL_law_843 : decode cL_law 843 = .ok (.aload_n 2, 1) := by decide +kernel
theorem dL_law_844 : decode cL_law 844 = .ok (.aload_n 0, 1) := by decide +kernel
theorem dL_law_845 : decode cL_law 845 = .ok (.iload_n 3, 1) := by decide +kernel
theorem dL_law_846 : decode cL_law 846 = .ok (.iconst 1, 1) := by decide +kernel
theorem dL_law_847 : decode cL_law 847 = .ok (.iadd, 1) := by decide +kernel
theorem dL_law_848 : decode cL_law 848 = .ok (.iaload, 1) := by decide +kernel
theorem dL_law_849 : decode cL_law 849 = .ok (.aload_n 0, 1) := by decide +kernel
theorem dL_law_850 : decode cL_law 850 = .ok (.iload_n 3, 1) := by decide +kernel
theorem dL_law_851 : decode cL_law 851 = .ok (.iconst 2, 1) := by decide +kernel
theorem dL_law_852 : decode cL_law 852 = .ok (.iadd, 1) := by decide +kernel
theorem dL_law_853 : decode cL_law 853 = .ok (.iaload, 1) := by decide +kernel
theorem dL_law_854 : decode cL_law 854 = .ok (.invokevirtual 97, 3) := by decide +kernel
theorem dL_law_857 : decode cL_law 857 = .ok (.if_icmp .eq 166, 3) := by decide +kernel
theorem dL_law_860 : decode cL_law 860 = .ok (.iconst 0, 1) := by decide +kernel
theorem dL_law_861 : decode cL_law 861 = .ok (.ireturn, 1) := by decide +kernel
theorem dL_law_862 : decode cL_law 862 = .ok (.aload_n 1, 1) := by decide +kernel
theorem dL_law_863 : decode cL_law 863 = .ok (.aload_n 0, 1) := by decide +kernel
theorem dL_law_864 : decode cL_law 864 = .ok (.iload_n 3, 1) := by decide +kernel
theorem dL_law_865 : decode cL_law 865 = .ok (.iconst 1, 1) := by decide +kernel
theorem dL_law_866 : decode cL_law 866 = .ok (.iadd, 1) := by decide +kernel
theorem dL_law_867 : decode cL_law 867 = .ok (.iaload, 1) := by decide +kernel
theorem dL_law_868 : decode cL_law 868 = .ok (.invokevirtual 98, 3) := by decide +kernel
theorem dL_law_871 : decode cL_law 871 = .ok (.aload_n 2, 1) := by decide +kernel
theorem dL_law_872 : decode cL_law 872 = .ok (.aload_n 0, 1) := by decide +kernel
theorem dL_law_873 : decode cL_law 873 = .ok (.iload_n 3, 1) := by decide +kernel
theorem dL_law_874 : decode cL_law 874 = .ok (.iconst 1, 1) := by decide +kernel
theorem dL_law_875 : decode cL_law 875 = .ok (.iadd, 1) := by decide +kernel
theorem dL_law_876 : decode cL_law 876 = .ok (.iaload, 1) := by decide +kernel
theorem dL_law_877 : decode cL_law 877 = .ok (.invokevirtual 101, 3) := by decide +kernel
theorem dL_law_880 : decode cL_law 880 = .ok (.if_icmp .eq 143, 3) := by decide +kernel
theorem dL_law_883 : decode cL_law 883 = .ok (.iconst 0, 1) := by decide +kernel
theorem dL_law_884 : decode cL_law 884 = .ok (.ireturn, 1) := by decide +kernel
theorem dL_law_885 : decode cL_law 885 = .ok (.aload_n 1, 1) := by decide +kernel
theorem dL_law_886 : decode cL_law 886 = .ok (.invokevirtual 102, 3) := by decide +kernel
theorem dL_law_889 : decode cL_law 889 = .ok (.aload_n 2, 1) := by decide +kernel
theorem dL_law_890 : decode cL_law 890 = .ok (.invokevirtual 105, 3) := by decide +kernel
theorem dL_law_893 : decode cL_law 893 = .ok (.if_icmp .eq 130, 3) := by decide +kernel
theorem dL_law_896 : decode cL_law 896 = .ok (.iconst 0, 1) := by decide +kernel
theorem dL_law_897 : decode cL_law 897 = .ok (.ireturn, 1) := by decide +kernel
theorem dL_law_898 : decode cL_law 898 = .ok (.aload_n 1, 1) := by decide +kernel
theorem dL_law_899 : decode cL_law 899 = .ok (.aload_n 0, 1) := by decide +kernel
theorem dL_law_900 : decode cL_law 900 = .ok (.iload_n 3, 1) := by decide +kernel
theorem dL_law_901 : decode cL_law 901 = .ok (.iconst 1, 1) := by decide +kernel
theorem dL_law_902 : decode cL_law 902 = .ok (.iadd, 1) := by decide +kernel
theorem dL_law_903 : decode cL_law 903 = .ok (.iaload, 1) := by decide +kernel
theorem dL_law_904 : decode cL_law 904 = .ok (.aload_n 0, 1) := by decide +kernel
theorem dL_law_905 : decode cL_law 905 = .ok (.iload_n 3, 1) := by decide +kernel
theorem dL_law_906 : decode cL_law 906 = .ok (.iconst 2, 1) := by decide +kernel
theorem dL_law_907 : decode cL_law 907 = .ok (.iadd, 1) := by decide +kernel
theorem dL_law_908 : decode cL_law 908 = .ok (.iaload, 1) := by decide +kernel
theorem dL_law_909 : decode cL_law 909 = .ok (.invokevirtual 106, 3) := by decide +kernel
theorem dL_law_912 : decode cL_law 912 = .ok (.aload_n 2, 1) := by decide +kernel
theorem dL_law_913 : decode cL_law 913 = .ok (.aload_n 0, 1) := by decide +kernel
theorem dL_law_914 : decode cL_law 914 = .ok (.iload_n 3, 1) := by decide +kernel
theorem dL_law_915 : decode cL_law 915 = .ok (.iconst 1, 1) := by decide +kernel
theorem dL_law_916 : decode cL_law 916 = .ok (.iadd, 1) := by decide +kernel
theorem dL_law_917 : decode cL_law 917 = .ok (.iaload, 1) := by decide +kernel
theorem dL_law_918 : decode cL_law 918 = .ok (.aload_n 0, 1) := by decide +kernel
theorem dL_law_919 : decode cL_law 919 = .ok (.iload_n 3, 1) := by decide +kernel
theorem dL_law_920 : decode cL_law 920 = .ok (.iconst 2, 1) := by decide +kernel
theorem dL_law_921 : decode cL_law 921 = .ok (.iadd, 1) := by decide +kernel
theorem dL_law_922 : decode cL_law 922 = .ok (.iaload, 1) := by decide +kernel
theorem dL_law_923 : decode cL_law 923 = .ok (.invokevirtual 109, 3) := by decide +kernel
theorem dL_law_926 : decode cL_law 926 = .ok (.if_icmp .eq 97, 3) := by decide +kernel
theorem dL_law_929 : decode cL_law 929 = .ok (.iconst 0, 1) := by decide +kernel
theorem dL_law_930 : decode cL_law 930 = .ok (.ireturn, 1) := by decide +kernel
theorem dL_law_931 : decode cL_law 931 = .ok (.aload_n 1, 1) := by decide +kernel
theorem dL_law_932 : decode cL_law 932 = .ok (.aload_n 0, 1) := by decide +kernel
theorem dL_law_933 : decode cL_law 933 = .ok (.iload_n 3, 1) := by decide +kernel
theorem dL_law_934 : decode cL_law 934 = .ok (.iconst 1, 1) := by decide +kernel
theorem dL_law_935 : decode cL_law 935 = .ok (.iadd, 1) := by decide +kernel
theorem dL_law_936 : decode cL_law 936 = .ok (.iaload, 1) := by decide +kernel
theorem dL_law_937 : decode cL_law 937 = .ok (.invokevirtual 110, 3) := by decide +kernel
theorem dL_law_940 : decode cL_law 940 = .ok (.aload_n 2, 1) := by decide +kernel
theorem dL_law_941 : decode cL_law 941 = .ok (.aload_n 0, 1) := by decide +kernel
theorem dL_law_942 : decode cL_law 942 = .ok (.iload_n 3, 1) := by decide +kernel
theorem dL_law_943 : decode cL_law 943 = .ok (.iconst 1, 1) := by decide +kernel
theorem dL_law_944 : decode cL_law 944 = .ok (.iadd, 1) := by decide +kernel
theorem dL_law_945 : decode cL_law 945 = .ok (.iaload, 1) := by decide +kernel
theorem dL_law_946 : decode cL_law 946 = .ok (.invokevirtual 113, 3) := by decide +kernel
theorem dL_law_949 : decode cL_law 949 = .ok (.if_icmp .eq 74, 3) := by decide +kernel
theorem dL_law_952 : decode cL_law 952 = .ok (.iconst 0, 1) := by decide +kernel
theorem dL_law_953 : decode cL_law 953 = .ok (.ireturn, 1) := by decide +kernel
theorem dL_law_954 : decode cL_law 954 = .ok (.aload_n 1, 1) := by decide +kernel
theorem dL_law_955 : decode cL_law 955 = .ok (.aload_n 0, 1) := by decide +kernel
theorem dL_law_956 : decode cL_law 956 = .ok (.iload_n 3, 1) := by decide +kernel
theorem dL_law_957 : decode cL_law 957 = .ok (.iconst 1, 1) := by decide +kernel
theorem dL_law_958 : decode cL_law 958 = .ok (.iadd, 1) := by decide +kernel
theorem dL_law_959 : decode cL_law 959 = .ok (.iaload, 1) := by decide +kernel
theorem dL_law_960 : decode cL_law 960 = .ok (.invokevirtual 114, 3) := by decide +kernel
theorem dL_law_963 : decode cL_law 963 = .ok (.aload_n 2, 1) := by decide +kernel
theorem dL_law_964 : decode cL_law 964 = .ok (.aload_n 0, 1) := by decide +kernel
theorem dL_law_965 : decode cL_law 965 = .ok (.iload_n 3, 1) := by decide +kernel
theorem dL_law_966 : decode cL_law 966 = .ok (.iconst 1, 1) := by decide +kernel
theorem dL_law_967 : decode cL_law 967 = .ok (.iadd, 1) := by decide +kernel
theorem dL_law_968 : decode cL_law 968 = .ok (.iaload, 1) := by decide +kernel
theorem dL_law_969 : decode cL_law 969 = .ok (.invokevirtual 117, 3) := by decide +kernel
theorem dL_law_972 : decode cL_law 972 = .ok (.if_icmp .eq 51, 3) := by decide +kernel
theorem dL_law_975 : decode cL_law 975 = .ok (.iconst 0, 1) := by decide +kernel
theorem dL_law_976 : decode cL_law 976 = .ok (.ireturn, 1) := by decide +kernel
theorem dL_law_977 : decode cL_law 977 = .ok (.aload_n 1, 1) := by decide +kernel
theorem dL_law_978 : decode cL_law 978 = .ok (.aload_n 0, 1) := by decide +kernel
theorem dL_law_979 : decode cL_law 979 = .ok (.iload_n 3, 1) := by decide +kernel
theorem dL_law_980 : decode cL_law 980 = .ok (.iconst 1, 1) := by decide +kernel
theorem dL_law_981 : decode cL_law 981 = .ok (.iadd, 1) := by decide +kernel
theorem dL_law_982 : decode cL_law 982 = .ok (.iaload, 1) := by decide +kernel
theorem dL_law_983 : decode cL_law 983 = .ok (.invokevirtual 118, 3) := by decide +kernel
theorem dL_law_986 : decode cL_law 986 = .ok (.aload_n 2, 1) := by decide +kernel
theorem dL_law_987 : decode cL_law 987 = .ok (.aload_n 0, 1) := by decide +kernel
theorem dL_law_988 : decode cL_law 988 = .ok (.iload_n 3, 1) := by decide +kernel
theorem dL_law_989 : decode cL_law 989 = .ok (.iconst 1, 1) := by decide +kernel
theorem dL_law_990 : decode cL_law 990 = .ok (.iadd, 1) := by decide +kernel
theorem dL_law_991 : decode cL_law 991 = .ok (.iaload, 1) := by decide +kernel
theorem dL_law_992 : decode cL_law 992 = .ok (.invokevirtual 121, 3) := by decide +kernel
theorem dL_law_995 : decode cL_law 995 = .ok (.if_icmp .eq 28, 3) := by decide +kernel
theorem dL_law_998 : decode cL_law 998 = .ok (.iconst 0, 1) := by decide +kernel
theorem dL_law_999 : decode cL_law 999 = .ok (.ireturn, 1) := by decide +kernel
theorem dL_law_1000 : decode cL_law 1000 = .ok (.aload_n 1, 1) := by decide +kernel
theorem dL_law_1001 : decode cL_law 1001 = .ok (.aload_n 0, 1) := by decide +kernel
theorem dL_law_1002 : decode cL_law 1002 = .ok (.iload_n 3, 1) := by decide +kernel
theorem dL_law_1003 : decode cL_law 1003 = .ok (.iconst 1, 1) := by decide +kernel
theorem dL_law_1004 : decode cL_law 1004 = .ok (.iadd, 1) := by decide +kernel
theorem dL_law_1005 : decode cL_law 1005 = .ok (.iaload, 1) := by decide +kernel
theorem dL_law_1006 : decode cL_law 1006 = .ok (.invokevirtual 122, 3) := by decide +kernel
theorem dL_law_1009 : decode cL_law 1009 = .ok (.aload_n 2, 1) := by decide +kernel
theorem dL_law_1010 : decode cL_law 1010 = .ok (.aload_n 0, 1) := by decide +kernel
theorem dL_law_1011 : decode cL_law 1011 = .ok (.iload_n 3, 1) := by decide +kernel
theorem dL_law_1012 : decode cL_law 1012 = .ok (.iconst 1, 1) := by decide +kernel
theorem dL_law_1013 : decode cL_law 1013 = .ok (.iadd, 1) := by decide +kernel
theorem dL_law_1014 : decode cL_law 1014 = .ok (.iaload, 1) := by decide +kernel
theorem dL_law_1015 : decode cL_law 1015 = .ok (.invokevirtual 125, 3) := by decide +kernel
theorem dL_law_1018 : decode cL_law 1018 = .ok (.if_icmp .eq 5, 3) := by decide +kernel
theorem dL_law_1021 : decode cL_law 1021 = .ok (.iconst 0, 1) := by decide +kernel
theorem dL_law_1022 : decode cL_law 1022 = .ok (.ireturn, 1) := by decide +kernel
theorem dL_law_1023 : decode cL_law 1023 = .ok (.iinc 3 5, 3) := by decide +kernel
theorem dL_law_1026 : decode cL_law 1026 = .ok (.goto (-1008), 3) := by decide +kernel
theorem dL_law_1029 : decode cL_law 1029 = .ok (.iconst 1, 1) := by decide +kernel
theorem dL_law_1030 : decode cL_law 1030 = .ok (.ireturn, 1) := by decide +kernel
end
section
/-! THE STATIC WORLD: behind the constructors no cell comes and no reference changes: 85 cells, each with its ints and longs -/
abbrev classes : List vw_C := [(RX0, TX0, 4), (RX1, TX1, 6), (RX2, TX2, 2), (RX3, TX3, 3), (RX4, TX4, 3), (RX5, TX5, 2), (RX6, TX6, 2), (RX7, TX7, 3), (RX8, TX8, 3), (RX9, TX9, 11), (RX10, TX10, 25)]
abbrev Cn : Type := (Nat → Int32) × (Nat → Int64)
abbrev Sto : Type := Nat → Cn
abbrev Gl : Type := va_G × (Nat → Nat) × ClassId × ClassId × ClassId × ClassId
abbrev gad (G : Gl) : Nat → Nat := G.2.1
abbrev gI (G : Gl) : ClassId := G.2.2.1
abbrev gJ (G : Gl) : ClassId := G.2.2.2.1
abbrev gR (G : Gl) : ClassId := G.2.2.2.2.1
abbrev gQ (G : Gl) : ClassId := G.2.2.2.2.2
abbrev tysG (G : Gl) : List (ClassId × FieldType) := [(gI G, .int), (gJ G, .long), (gR G, .object "RoundRows$Round"), (gQ G, .array .int)]
def objE (a : Nat → Nat) (c : Nat) (x : Cn) : Nat × List Value := match c with
  | 0 => (9, [.ref (a 12), .ref (a 1), .ref (a 2), .ref (a 3), .ref (a 4), .ref (a 5), .ref (a 6), .ref (a 7), .ref (a 8), .ref (a 9), .ref (a 10)])
  | 1 => (5, [.ref (a 19), .int (x.1 1)])
  | 2 => (0, [.ref (a 20), .ref (a 21), .ref (a 22), .int (x.1 3)])
  | 3 => (0, [.ref (a 23), .ref (a 24), .ref (a 25), .int (x.1 3)])
  | 4 => (8, [.ref (a 31), .int (x.1 1), .int (x.1 2)])
  | 5 => (4, [.ref (a 26), .int (x.1 1), .long (x.2 2)])
  | 6 => (3, [.int (x.1 0), .int (x.1 1), .int (x.1 2)])
  | 7 => (2, [.long (x.2 0), .long (x.2 1)])
  | 8 => (2, [.long (x.2 0), .long (x.2 1)])
  | 9 => (1, [.ref (a 27), .ref (a 28), .ref (a 29), .int (x.1 3), .int (x.1 4), .int (x.1 5)])
  | 10 => (6, [.ref (a 30), .int (x.1 1)])
  | _ => (10, [.ref (a 71), .ref (a 72), .int (x.1 2), .ref (a 73), .ref (a 74), .ref (a 75), .ref (a 76), .int (x.1 7), .ref (a 77), .ref (a 78), .ref (a 79), .ref (a 80), .long (x.2 12), .long (x.2 13), .int (x.1 14), .int (x.1 15), .int (x.1 16), .ref (a 81), .ref (a 82), .ref (a 83), .int (x.1 20), .int (x.1 21), .ref (a 84), .int (x.1 23), .int (x.1 24)])
def lenI (c : Nat) : Nat := match c with
  | 19 => 20
  | 27 => 20
  | 28 => 20
  | 29 => 20
  | 72 => 20
  | 81 => 20
  | 82 => 20
  | 83 => 20
  | 30 => 8
  | 79 => 8
  | 84 => 8
  | 71 => 144
  | 78 => 12
  | _ => 24
def cellE (G : Gl) (c : Nat) (x : Cn) : va_E :=
  if c < 12 then .inr (objE (gad G) c x)
  else if c = 12 then .inl (gQ G, 6, .inr (.inr (.inr (.inr (fun i => if i < 6 then some (gad G (13 + i)) else none)))))
  else if c = 31 then .inl (gR G, 13, .inr (.inr (.inr (.inr (fun i => if i < 13 then some (gad G (32 + i)) else none)))))
  else if 32 ≤ c ∧ c < 45 then .inr (7, [.ref (gad G (c + 13)), .ref (gad G (c + 26)), .int (x.1 2)])
  else if 58 ≤ c ∧ c < 71 then .inl (gJ G, 24, .inr (.inl x.2))
  else if c = 77 then .inl (gJ G, 12, .inr (.inl x.2))
  else .inl (gI G, lenI c, .inl x.1)
def wld (G : Gl) (σ : Sto) : va_W := (List.range 85).map (fun c => (gad G c, cellE G c (σ c)))
def Ad (G : Gl) : Nat → Prop := fun q => ∃ c, c < 85 ∧ q = gad G c
def inj85 (G : Gl) : Prop := ∀ i j, i < 85 → j < 85 → gad G i = gad G j → i = j
def Wd (G : Gl) (σ : Sto) (U : State) : Prop := va_P G.1 classes (wld G σ) U.heap ∧ va_K G.1 classes (tysG G) U ∧ inj85 G
def stc (σ : Sto) (c : Nat) (x : Cn) : Sto := fun j => if j = c then x else σ j
def sti (σ : Sto) (c k : Nat) (v : Int32) : Sto := stc σ c (upd (σ c).1 k v, (σ c).2)
def stl (σ : Sto) (c k : Nat) (v : Int64) : Sto := stc σ c ((σ c).1, vp_updL (σ c).2 k v)
def sta (σ : Sto) (c : Nat) (f : Nat → Int32) : Sto := stc σ c (f, (σ c).2)
def stb (σ : Sto) (c : Nat) (f : Nat → Int64) : Sto := stc σ c ((σ c).1, f)
theorem wld_at {G : Gl} {σ : Sto} {c : Nat} (hc : c < 85) : (wld G σ)[c]? = some (gad G c, cellE G c (σ c)) := by
  unfold wld
  rw [List.getElem?_map, List.getElem?_range hc]
  rfl
theorem wld_len {G : Gl} {σ : Sto} : (wld G σ).length = 85 := by unfold wld; rw [List.length_map, List.length_range]
theorem wld_set {G : Gl} {σ : Sto} {c : Nat} (x : Cn) : (wld G σ).set c (gad G c, cellE G c x) = wld G (stc σ c x) := by
  apply List.ext_getElem?
  intro j
  by_cases hj : j < 85
  · rw [wld_at hj]
    by_cases e : j = c
    · subst e
      rw [List.getElem?_set_self (by rw [wld_len]; exact hj)]
      simp [stc]
    · rw [List.getElem?_set_ne (Ne.symm e), wld_at hj]
      simp [stc, e]
  · rw [List.getElem?_eq_none (by rw [List.length_set, wld_len]; omega), List.getElem?_eq_none (by rw [wld_len]; omega)]
theorem wld_D {G : Gl} (h : inj85 G) (σ : Sto) : va_D (Ad G) (wld G σ) := by
  have key : ∀ (k : Nat) (q : Nat × va_E), (wld G σ)[k]? = some q → k < 85 ∧ q.1 = gad G k := by
    intro k q hq
    have hk : k < 85 := by
      have := (List.getElem?_eq_some_iff.mp hq).1
      rw [wld_len] at this
      exact this
    rw [wld_at hk] at hq
    cases hq
    exact ⟨hk, rfl⟩
  refine ⟨fun i j x y hi hj hxy => ?_, fun k q hq => ?_⟩
  · obtain ⟨a1, a2⟩ := key i x hi
    obtain ⟨b1, b2⟩ := key j y hj
    exact h i j a1 b1 (by rw [← a2, ← b2, hxy])
  · obtain ⟨a1, a2⟩ := key k q hq
    exact ⟨k, a1, a2⟩
/-! the words that stay: all that the tables say of links, codes and fields, also of nest mates -/
def isNest : Cond → Bool
  | .fieldLinkNest _ _ _ _ _ _ => true
  | .methodLinkNest _ _ _ _ => true
  | _ => false
def TT : List Cond := lw_tbl.filter (fun w => goodWord w || isNest w)
theorem mw {w : Cond} (i : Nat) (h : lw_tbl[i]? = some w) (h2 : (goodWord w || isNest w) = true) : w ∈ TT := List.mem_filter.mpr ⟨List.mem_of_getElem? h, h2⟩
theorem TT_in {w : Cond} (h : w ∈ TT) : w ∈ lw_tbl := (List.mem_filter.mp h).1
theorem TT_pay {args : Array Value} {s : State} (hts : ∀ w ∈ TT, w.before args s = true) : ∀ w ∈ TT, ∀ (a' : Array Value) (U : State), s.WarmedH U.vm → w.before a' U = true := by
  intro w hw a' U hW
  have h2 := (List.mem_filter.mp hw).2
  have h1 := hts w hw
  cases hg : goodWord w with
  | true => exact word_at hW (good_of_word hg) h1
  | false =>
    rw [hg] at h2
    cases w <;> first | (exact va_Nw.use rfl (va_Nw.warmF hW (va_Nw.of rfl h1))) | (exact va_Nw.use rfl (va_Nw.warmM hW (va_Nw.of rfl h1))) | (exfalso; simp [isNest] at h2; done)
end
section
/-! THE WALK over the static world: from this store, at this pc, with these locals and this stack, the method comes to its end -/
abbrev Cx : Type := Program × Launch × Env × Room × State × MethodId × Array Value × List Frame × Method × Code × (State → Prop)
abbrev xp (X : Cx) : Program := X.1
abbrev xl (X : Cx) : Launch := X.2.1
abbrev xe (X : Cx) : Env := X.2.2.1
abbrev xR (X : Cx) : Room := X.2.2.2.1
abbrev xs (X : Cx) : State := X.2.2.2.2.1
abbrev xm (X : Cx) : MethodId := X.2.2.2.2.2.1
abbrev xa (X : Cx) : Array Value := X.2.2.2.2.2.2.1
abbrev xb (X : Cx) : List Frame := X.2.2.2.2.2.2.2.1
abbrev xh (X : Cx) : Method := X.2.2.2.2.2.2.2.2.1
abbrev xc (X : Cx) : Code := X.2.2.2.2.2.2.2.2.2.1
abbrev xQ (X : Cx) : State → Prop := X.2.2.2.2.2.2.2.2.2.2
def WS (X : Cx) (G : Gl) (nL : Nat) (σ : Sto) (pc : Nat) (lv : List (Nat × Value)) (st : List Value) : Prop :=
  ∀ (H : Heap) (locs : List Loc) (ls : Array Slot), va_P G.1 classes (wld G σ) H → va_S (Ad G) (xs X).heap H locs → lv_has ls nL lv → W (xp X) (xl X) (xe X) (xR X) (xs X) (xm X) (xa X) (xb X) (xh X) (xc X) H locs 0 0 (xQ X) (F0 (xm X) pc ls st)
def Ok (X : Cx) (G : Gl) (cc : ByteArray) (nL : Nat) (own : String) (F Lo : Nat) : Prop :=
  (xp X).tables.exec = Jvm.exec ∧ (xc X).code = cc ∧ (xc X).maxLocals = nL ∧ (xs X).vm.findClass own = some (xm X).cls ∧ (∀ w ∈ TT, w.before (xa X) (xs X) = true) ∧ va_K G.1 classes (tysG G) (xs X) ∧ inj85 G ∧ (xR X).frames = F ∧ (xR X).locals = Lo ∧ (xh X).locks = false
section RW
variable {X : Cx} {G : Gl} {cc : ByteArray} {nL : Nat} {own : String} {F Lo : Nat} {σ : Sto} {pc : Nat} {lv : List (Nat × Value)} {st : List Value}
theorem r_to {σ' : Sto} {lv' : List (Nat × Value)} (hs : σ = σ') (ks : List Nat) (hl : lv_pick lv ks = lv') (k : WS X G nL σ' pc lv' st) : WS X G nL σ pc lv st := by
  subst hs
  exact fun H locs ls hP hS h => k H locs ls hP hS (lv_sub h ks hl)
theorem r_topi {x y : Int32} (h : x = y) (k : WS X G nL σ pc lv (.int y :: st)) : WS X G nL σ pc lv (.int x :: st) := by subst h; exact k
theorem r_topl {x y : Int64} (h : x = y) (k : WS X G nL σ pc lv (.long y :: st)) : WS X G nL σ pc lv (.long x :: st) := by subst h; exact k
theorem r_top2 {x y : Int32} {v : Value} (h : x = y) (k : WS X G nL σ pc lv (v :: .int y :: st)) : WS X G nL σ pc lv (v :: .int x :: st) := by subst h; exact k

theorem r_iconst (o : Ok X G cc nL own F Lo) {n : Int} {v : Int32} (d : decode cc pc = .ok (.iconst n, 1)) (hv : Int32.ofInt n = v) (k : WS X G nL σ (pc + 1) lv (.int v :: st)) : WS X G nL σ pc lv (st) := fun H locs ls hP hS h => lv_iconst o.1 o.2.1 d hv (k H locs ls hP hS h)
theorem r_bipush (o : Ok X G cc nL own F Lo) {n : Int} {v : Int32} (d : decode cc pc = .ok (.bipush n, 2)) (hv : (Int8.ofInt n).toInt32 = v) (k : WS X G nL σ (pc + 2) lv (.int v :: st)) : WS X G nL σ pc lv (st) := fun H locs ls hP hS h => lv_bipush o.1 o.2.1 d hv (k H locs ls hP hS h)
theorem r_sipush (o : Ok X G cc nL own F Lo) {n : Int} {v : Int32} (d : decode cc pc = .ok (.sipush n, 3)) (hv : (Int16.ofInt n).toInt32 = v) (k : WS X G nL σ (pc + 3) lv (.int v :: st)) : WS X G nL σ pc lv (st) := fun H locs ls hP hS h => lv_sipush o.1 o.2.1 d hv (k H locs ls hP hS h)
theorem r_lconst (o : Ok X G cc nL own F Lo) {n : Fin 2} {v : Int64} (d : decode cc pc = .ok (.lconst n, 1)) (hv : Int64.ofNat (n : Nat) = v) (k : WS X G nL σ (pc + 1) lv (.long v :: st)) : WS X G nL σ pc lv (st) := fun H locs ls hP hS h => lv_lconst o.1 o.2.1 d hv (k H locs ls hP hS h)
theorem r_iload_n (o : Ok X G cc nL own F Lo) {k : Fin 4} {x : Int32} (d : decode cc pc = .ok (.iload_n k, 1)) (j : Nat) (hj : lv[j]? = some ((k : Nat), .int x)) (kk : WS X G nL σ (pc + 1) lv (.int x :: st)) : WS X G nL σ pc lv st := fun H locs ls hP hS h => lv_iload_n o.1 o.2.1 d rfl (lv_at h j hj) (kk H locs ls hP hS h)
theorem r_iload (o : Ok X G cc nL own F Lo) {i : Nat} {x : Int32} (d : decode cc pc = .ok (.iload i, 2)) (j : Nat) (hj : lv[j]? = some (i, .int x)) (kk : WS X G nL σ (pc + 2) lv (.int x :: st)) : WS X G nL σ pc lv st := fun H locs ls hP hS h => lv_iload o.1 o.2.1 d (lv_at h j hj) (kk H locs ls hP hS h)
theorem r_lload_n (o : Ok X G cc nL own F Lo) {k : Fin 4} {x : Int64} (d : decode cc pc = .ok (.lload_n k, 1)) (j : Nat) (hj : lv[j]? = some ((k : Nat), .long x)) (kk : WS X G nL σ (pc + 1) lv (.long x :: st)) : WS X G nL σ pc lv st := fun H locs ls hP hS h => lv_lload_n o.1 o.2.1 d rfl (lv_at h j hj) (kk H locs ls hP hS h)
theorem r_lload (o : Ok X G cc nL own F Lo) {i : Nat} {x : Int64} (d : decode cc pc = .ok (.lload i, 2)) (j : Nat) (hj : lv[j]? = some (i, .long x)) (kk : WS X G nL σ (pc + 2) lv (.long x :: st)) : WS X G nL σ pc lv st := fun H locs ls hP hS h => lv_lload o.1 o.2.1 d (lv_at h j hj) (kk H locs ls hP hS h)
theorem r_aload_n (o : Ok X G cc nL own F Lo) {k : Fin 4} {x : Nat} (d : decode cc pc = .ok (.aload_n k, 1)) (j : Nat) (hj : lv[j]? = some ((k : Nat), .ref x)) (kk : WS X G nL σ (pc + 1) lv (.ref x :: st)) : WS X G nL σ pc lv st := fun H locs ls hP hS h => lv_aload_n o.1 o.2.1 d rfl (lv_at h j hj) (kk H locs ls hP hS h)
theorem r_aload (o : Ok X G cc nL own F Lo) {i : Nat} {x : Nat} (d : decode cc pc = .ok (.aload i, 2)) (j : Nat) (hj : lv[j]? = some (i, .ref x)) (kk : WS X G nL σ (pc + 2) lv (.ref x :: st)) : WS X G nL σ pc lv st := fun H locs ls hP hS h => lv_aload o.1 o.2.1 d (lv_at h j hj) (kk H locs ls hP hS h)
theorem r_istore_n (o : Ok X G cc nL own F Lo) {k : Fin 4} {x : Int32} {lv' : List (Nat × Value)} (d : decode cc pc = .ok (.istore_n k, 1)) (hn : (k : Nat) < nL) (hl : ((k : Nat), Value.int x) :: lv.filter (fun q => !(q.1 == (k : Nat)) && !(q.1 + 1 == (k : Nat) && q.2.category == 2)) = lv') (kk : WS X G nL σ (pc + 1) lv' st) : WS X G nL σ pc lv (.int x :: st) := fun H locs ls hP hS h => lv_istore_n o.1 o.2.1 d rfl h hn hl (fun ls' h' => kk H locs ls' hP hS h')
theorem r_istore (o : Ok X G cc nL own F Lo) {i : Nat} {x : Int32} {lv' : List (Nat × Value)} (d : decode cc pc = .ok (.istore i, 2)) (hn : i < nL) (hl : (i, Value.int x) :: lv.filter (fun q => !(q.1 == i) && !(q.1 + 1 == i && q.2.category == 2)) = lv') (kk : WS X G nL σ (pc + 2) lv' st) : WS X G nL σ pc lv (.int x :: st) := fun H locs ls hP hS h => lv_istore o.1 o.2.1 d h hn hl (fun ls' h' => kk H locs ls' hP hS h')
theorem r_astore_n (o : Ok X G cc nL own F Lo) {k : Fin 4} {x : Nat} {lv' : List (Nat × Value)} (d : decode cc pc = .ok (.astore_n k, 1)) (hn : (k : Nat) < nL) (hl : ((k : Nat), Value.ref x) :: lv.filter (fun q => !(q.1 == (k : Nat)) && !(q.1 + 1 == (k : Nat) && q.2.category == 2)) = lv') (kk : WS X G nL σ (pc + 1) lv' st) : WS X G nL σ pc lv (.ref x :: st) := fun H locs ls hP hS h => lv_astore_n o.1 o.2.1 d rfl h hn hl (fun ls' h' => kk H locs ls' hP hS h')
theorem r_astore (o : Ok X G cc nL own F Lo) {i : Nat} {x : Nat} {lv' : List (Nat × Value)} (d : decode cc pc = .ok (.astore i, 2)) (hn : i < nL) (hl : (i, Value.ref x) :: lv.filter (fun q => !(q.1 == i) && !(q.1 + 1 == i && q.2.category == 2)) = lv') (kk : WS X G nL σ (pc + 2) lv' st) : WS X G nL σ pc lv (.ref x :: st) := fun H locs ls hP hS h => lv_astore o.1 o.2.1 d h hn hl (fun ls' h' => kk H locs ls' hP hS h')
theorem r_lstore_n (o : Ok X G cc nL own F Lo) {k : Fin 4} {x : Int64} {lv' : List (Nat × Value)} (d : decode cc pc = .ok (.lstore_n k, 1)) (hn : (k : Nat) + 1 < nL) (hl : ((k : Nat), Value.long x) :: lv.filter (fun q => !(q.1 == (k : Nat)) && (!(q.1 == (k : Nat) + 1) && !(q.1 + 1 == (k : Nat) && q.2.category == 2))) = lv') (kk : WS X G nL σ (pc + 1) lv' st) : WS X G nL σ pc lv (.long x :: st) := fun H locs ls hP hS h => lv_lstore_n o.1 o.2.1 d rfl h hn hl (fun ls' h' => kk H locs ls' hP hS h')
theorem r_lstore (o : Ok X G cc nL own F Lo) {i : Nat} {x : Int64} {lv' : List (Nat × Value)} (d : decode cc pc = .ok (.lstore i, 2)) (hn : i + 1 < nL) (hl : (i, Value.long x) :: lv.filter (fun q => !(q.1 == i) && (!(q.1 == i + 1) && !(q.1 + 1 == i && q.2.category == 2))) = lv') (kk : WS X G nL σ (pc + 2) lv' st) : WS X G nL σ pc lv (.long x :: st) := fun H locs ls hP hS h => lv_lstore o.1 o.2.1 d h hn hl (fun ls' h' => kk H locs ls' hP hS h')
theorem r_iinc (o : Ok X G cc nL own F Lo) {i : Nat} {n : Int} {x v : Int32} {lv' : List (Nat × Value)} (d : decode cc pc = .ok (.iinc i n, 3)) (j : Nat) (hj : lv[j]? = some (i, .int x)) (hv : x + Int32.ofInt n = v) (hn : i < nL) (hl : (i, Value.int v) :: lv.filter (fun q => !(q.1 == i) && !(q.1 + 1 == i && q.2.category == 2)) = lv') (kk : WS X G nL σ (pc + 3) lv' st) : WS X G nL σ pc lv st := fun H locs ls hP hS h => lv_iinc o.1 o.2.1 d h hj hv hn hl (fun ls' h' => kk H locs ls' hP hS h')
theorem r_iadd (o : Ok X G cc nL own F Lo) {x y : Int32} (d : decode cc pc = .ok (.iadd, 1)) (k : WS X G nL σ (pc + 1) lv (.int (x + y) :: st)) : WS X G nL σ pc lv (.int y :: .int x :: st) := fun H locs ls hP hS h => lv_iadd o.1 o.2.1 d (k H locs ls hP hS h)
theorem r_isub (o : Ok X G cc nL own F Lo) {x y : Int32} (d : decode cc pc = .ok (.isub, 1)) (k : WS X G nL σ (pc + 1) lv (.int (x - y) :: st)) : WS X G nL σ pc lv (.int y :: .int x :: st) := fun H locs ls hP hS h => lv_isub o.1 o.2.1 d (k H locs ls hP hS h)
theorem r_imul (o : Ok X G cc nL own F Lo) {x y : Int32} (d : decode cc pc = .ok (.imul, 1)) (k : WS X G nL σ (pc + 1) lv (.int (x * y) :: st)) : WS X G nL σ pc lv (.int y :: .int x :: st) := fun H locs ls hP hS h => lv_imul o.1 o.2.1 d (k H locs ls hP hS h)
theorem r_iand (o : Ok X G cc nL own F Lo) {x y : Int32} (d : decode cc pc = .ok (.iand, 1)) (k : WS X G nL σ (pc + 1) lv (.int (x &&& y) :: st)) : WS X G nL σ pc lv (.int y :: .int x :: st) := fun H locs ls hP hS h => lv_iand o.1 o.2.1 d (k H locs ls hP hS h)
theorem r_ior (o : Ok X G cc nL own F Lo) {x y : Int32} (d : decode cc pc = .ok (.ior, 1)) (k : WS X G nL σ (pc + 1) lv (.int (x ||| y) :: st)) : WS X G nL σ pc lv (.int y :: .int x :: st) := fun H locs ls hP hS h => lv_ior o.1 o.2.1 d (k H locs ls hP hS h)
theorem r_ixor (o : Ok X G cc nL own F Lo) {x y : Int32} (d : decode cc pc = .ok (.ixor, 1)) (k : WS X G nL σ (pc + 1) lv (.int (x ^^^ y) :: st)) : WS X G nL σ pc lv (.int y :: .int x :: st) := fun H locs ls hP hS h => lv_ixor o.1 o.2.1 d (k H locs ls hP hS h)
theorem r_ishl (o : Ok X G cc nL own F Lo) {x y : Int32} (d : decode cc pc = .ok (.ishl, 1)) (k : WS X G nL σ (pc + 1) lv (.int (x <<< (y &&& 31)) :: st)) : WS X G nL σ pc lv (.int y :: .int x :: st) := fun H locs ls hP hS h => lv_ishl o.1 o.2.1 d (k H locs ls hP hS h)
theorem r_ishr (o : Ok X G cc nL own F Lo) {x y : Int32} (d : decode cc pc = .ok (.ishr, 1)) (k : WS X G nL σ (pc + 1) lv (.int (x >>> (y &&& 31)) :: st)) : WS X G nL σ pc lv (.int y :: .int x :: st) := fun H locs ls hP hS h => lv_ishr o.1 o.2.1 d (k H locs ls hP hS h)
theorem r_idiv (o : Ok X G cc nL own F Lo) {x y : Int32} (d : decode cc pc = .ok (.idiv, 1)) (hne : ¬ y = 0) (k : WS X G nL σ (pc + 1) lv (.int (x / y) :: st)) : WS X G nL σ pc lv (.int y :: .int x :: st) := fun H locs ls hP hS h => lv_idiv o.1 o.2.1 d hne (k H locs ls hP hS h)
theorem r_irem (o : Ok X G cc nL own F Lo) {x y : Int32} (d : decode cc pc = .ok (.irem, 1)) (hne : ¬ y = 0) (k : WS X G nL σ (pc + 1) lv (.int (x - x / y * y) :: st)) : WS X G nL σ pc lv (.int y :: .int x :: st) := fun H locs ls hP hS h => lv_irem o.1 o.2.1 d hne (k H locs ls hP hS h)
theorem r_ineg (o : Ok X G cc nL own F Lo) {x : Int32} (d : decode cc pc = .ok (.ineg, 1)) (k : WS X G nL σ (pc + 1) lv (.int (-x) :: st)) : WS X G nL σ pc lv (.int x :: st) := fun H locs ls hP hS h => lv_ineg o.1 o.2.1 d (k H locs ls hP hS h)
theorem r_ladd (o : Ok X G cc nL own F Lo) {x y : Int64} (d : decode cc pc = .ok (.ladd, 1)) (k : WS X G nL σ (pc + 1) lv (.long (x + y) :: st)) : WS X G nL σ pc lv (.long y :: .long x :: st) := fun H locs ls hP hS h => lv_ladd o.1 o.2.1 d (k H locs ls hP hS h)
theorem r_lsub (o : Ok X G cc nL own F Lo) {x y : Int64} (d : decode cc pc = .ok (.lsub, 1)) (k : WS X G nL σ (pc + 1) lv (.long (x - y) :: st)) : WS X G nL σ pc lv (.long y :: .long x :: st) := fun H locs ls hP hS h => lv_lsub o.1 o.2.1 d (k H locs ls hP hS h)
theorem r_lmul (o : Ok X G cc nL own F Lo) {x y : Int64} (d : decode cc pc = .ok (.lmul, 1)) (k : WS X G nL σ (pc + 1) lv (.long (x * y) :: st)) : WS X G nL σ pc lv (.long y :: .long x :: st) := fun H locs ls hP hS h => lv_lmul o.1 o.2.1 d (k H locs ls hP hS h)
theorem r_ldiv (o : Ok X G cc nL own F Lo) {x y : Int64} (d : decode cc pc = .ok (.ldiv, 1)) (hne : ¬ y = 0) (k : WS X G nL σ (pc + 1) lv (.long (x / y) :: st)) : WS X G nL σ pc lv (.long y :: .long x :: st) := fun H locs ls hP hS h => lv_ldiv o.1 o.2.1 d hne (k H locs ls hP hS h)
theorem r_lrem (o : Ok X G cc nL own F Lo) {x y : Int64} (d : decode cc pc = .ok (.lrem, 1)) (hne : ¬ y = 0) (k : WS X G nL σ (pc + 1) lv (.long (x - x / y * y) :: st)) : WS X G nL σ pc lv (.long y :: .long x :: st) := fun H locs ls hP hS h => lv_lrem o.1 o.2.1 d hne (k H locs ls hP hS h)
theorem r_lneg (o : Ok X G cc nL own F Lo) {x : Int64} (d : decode cc pc = .ok (.lneg, 1)) (k : WS X G nL σ (pc + 1) lv (.long (-x) :: st)) : WS X G nL σ pc lv (.long x :: st) := fun H locs ls hP hS h => lv_lneg o.1 o.2.1 d (k H locs ls hP hS h)
theorem r_i2l (o : Ok X G cc nL own F Lo) {x : Int32} {v : Int64} (d : decode cc pc = .ok (.i2l, 1)) (hv : x.toInt64 = v) (k : WS X G nL σ (pc + 1) lv (.long v :: st)) : WS X G nL σ pc lv (.int x :: st) := fun H locs ls hP hS h => lv_i2l o.1 o.2.1 d hv (k H locs ls hP hS h)
theorem r_l2i (o : Ok X G cc nL own F Lo) {x : Int64} {v : Int32} (d : decode cc pc = .ok (.l2i, 1)) (hv : x.toInt32 = v) (k : WS X G nL σ (pc + 1) lv (.int v :: st)) : WS X G nL σ pc lv (.long x :: st) := fun H locs ls hP hS h => lv_l2i o.1 o.2.1 d hv (k H locs ls hP hS h)
theorem r_iushr (o : Ok X G cc nL own F Lo) {x y v : Int32} (d : decode cc pc = .ok (.iushr, 1)) (hv : (x.toUInt32 >>> (y.toUInt32 &&& Int32.toUInt32 31)).toInt32 = v) (k : WS X G nL σ (pc + 1) lv (.int v :: st)) : WS X G nL σ pc lv (.int y :: .int x :: st) := fun H locs ls hP hS h => lv_iushr o.1 o.2.1 d hv (k H locs ls hP hS h)
theorem r_lshl (o : Ok X G cc nL own F Lo) {x v : Int64} {y : Int32} (d : decode cc pc = .ok (.lshl, 1)) (hv : x <<< (y.toInt64 &&& 63) = v) (k : WS X G nL σ (pc + 1) lv (.long v :: st)) : WS X G nL σ pc lv (.int y :: .long x :: st) := fun H locs ls hP hS h => lv_lshl o.1 o.2.1 d hv (k H locs ls hP hS h)
theorem r_dup (o : Ok X G cc nL own F Lo) {va : Value} (d : decode cc pc = .ok (.dup, 1)) (hva : va.category = 1) (k : WS X G nL σ (pc + 1) lv (va :: va :: st)) : WS X G nL σ pc lv (va :: st) := fun H locs ls hP hS h => lv_dup o.1 o.2.1 d hva (k H locs ls hP hS h)
theorem r_dup2_11 (o : Ok X G cc nL own F Lo) {va vb : Value} (d : decode cc pc = .ok (.dup2, 1)) (hva : va.category = 1) (hvb : vb.category = 1) (k : WS X G nL σ (pc + 1) lv (va :: vb :: va :: vb :: st)) : WS X G nL σ pc lv (va :: vb :: st) := fun H locs ls hP hS h => lv_dup2_11 o.1 o.2.1 d hva hvb (k H locs ls hP hS h)
theorem r_lcmp (o : Ok X G cc nL own F Lo) {x y : Int64} (d : decode cc pc = .ok (.lcmp, 1)) (k : WS X G nL σ (pc + 1) lv (.int (lg_cmp x y) :: st)) : WS X G nL σ pc lv (.long y :: .long x :: st) := fun H locs ls hP hS h => W.lcmp o.1 o.2.1 d (k H locs ls hP hS h)
theorem r_if_eq (o : Ok X G cc nL own F Lo) {x : Int32} {off : Int} {tgt : Nat} (d : decode cc pc = .ok (.ifCond .eq off, 3)) (ht : (pc : Int) + off = (tgt : Int)) (kt : x = 0 → WS X G nL σ tgt lv st) (kf : ¬ x = 0 → WS X G nL σ (pc + 3) lv st) : WS X G nL σ pc lv (.int x :: st) := fun H locs ls hP hS h => lv_if_eq o.1 o.2.1 d ht (fun z => kt z H locs ls hP hS h) (fun z => kf z H locs ls hP hS h)
theorem r_icmp_eq (o : Ok X G cc nL own F Lo) {x y : Int32} {off : Int} {tgt : Nat} (d : decode cc pc = .ok (.if_icmp .eq off, 3)) (ht : (pc : Int) + off = (tgt : Int)) (kt : x = y → WS X G nL σ tgt lv st) (kf : ¬ x = y → WS X G nL σ (pc + 3) lv st) : WS X G nL σ pc lv (.int y :: .int x :: st) := fun H locs ls hP hS h => lv_icmp_eq o.1 o.2.1 d ht (fun z => kt z H locs ls hP hS h) (fun z => kf z H locs ls hP hS h)
theorem r_if_ne (o : Ok X G cc nL own F Lo) {x : Int32} {off : Int} {tgt : Nat} (d : decode cc pc = .ok (.ifCond .ne off, 3)) (ht : (pc : Int) + off = (tgt : Int)) (kt : ¬ x = 0 → WS X G nL σ tgt lv st) (kf : x = 0 → WS X G nL σ (pc + 3) lv st) : WS X G nL σ pc lv (.int x :: st) := fun H locs ls hP hS h => lv_if_ne o.1 o.2.1 d ht (fun z => kt z H locs ls hP hS h) (fun z => kf z H locs ls hP hS h)
theorem r_icmp_ne (o : Ok X G cc nL own F Lo) {x y : Int32} {off : Int} {tgt : Nat} (d : decode cc pc = .ok (.if_icmp .ne off, 3)) (ht : (pc : Int) + off = (tgt : Int)) (kt : ¬ x = y → WS X G nL σ tgt lv st) (kf : x = y → WS X G nL σ (pc + 3) lv st) : WS X G nL σ pc lv (.int y :: .int x :: st) := fun H locs ls hP hS h => lv_icmp_ne o.1 o.2.1 d ht (fun z => kt z H locs ls hP hS h) (fun z => kf z H locs ls hP hS h)
theorem r_if_lt (o : Ok X G cc nL own F Lo) {x : Int32} {off : Int} {tgt : Nat} (d : decode cc pc = .ok (.ifCond .lt off, 3)) (ht : (pc : Int) + off = (tgt : Int)) (kt : x < 0 → WS X G nL σ tgt lv st) (kf : ¬ x < 0 → WS X G nL σ (pc + 3) lv st) : WS X G nL σ pc lv (.int x :: st) := fun H locs ls hP hS h => lv_if_lt o.1 o.2.1 d ht (fun z => kt z H locs ls hP hS h) (fun z => kf z H locs ls hP hS h)
theorem r_icmp_lt (o : Ok X G cc nL own F Lo) {x y : Int32} {off : Int} {tgt : Nat} (d : decode cc pc = .ok (.if_icmp .lt off, 3)) (ht : (pc : Int) + off = (tgt : Int)) (kt : x < y → WS X G nL σ tgt lv st) (kf : ¬ x < y → WS X G nL σ (pc + 3) lv st) : WS X G nL σ pc lv (.int y :: .int x :: st) := fun H locs ls hP hS h => lv_icmp_lt o.1 o.2.1 d ht (fun z => kt z H locs ls hP hS h) (fun z => kf z H locs ls hP hS h)
theorem r_if_ge (o : Ok X G cc nL own F Lo) {x : Int32} {off : Int} {tgt : Nat} (d : decode cc pc = .ok (.ifCond .ge off, 3)) (ht : (pc : Int) + off = (tgt : Int)) (kt : 0 ≤ x → WS X G nL σ tgt lv st) (kf : ¬ 0 ≤ x → WS X G nL σ (pc + 3) lv st) : WS X G nL σ pc lv (.int x :: st) := fun H locs ls hP hS h => lv_if_ge o.1 o.2.1 d ht (fun z => kt z H locs ls hP hS h) (fun z => kf z H locs ls hP hS h)
theorem r_icmp_ge (o : Ok X G cc nL own F Lo) {x y : Int32} {off : Int} {tgt : Nat} (d : decode cc pc = .ok (.if_icmp .ge off, 3)) (ht : (pc : Int) + off = (tgt : Int)) (kt : y ≤ x → WS X G nL σ tgt lv st) (kf : ¬ y ≤ x → WS X G nL σ (pc + 3) lv st) : WS X G nL σ pc lv (.int y :: .int x :: st) := fun H locs ls hP hS h => lv_icmp_ge o.1 o.2.1 d ht (fun z => kt z H locs ls hP hS h) (fun z => kf z H locs ls hP hS h)
theorem r_if_gt (o : Ok X G cc nL own F Lo) {x : Int32} {off : Int} {tgt : Nat} (d : decode cc pc = .ok (.ifCond .gt off, 3)) (ht : (pc : Int) + off = (tgt : Int)) (kt : 0 < x → WS X G nL σ tgt lv st) (kf : ¬ 0 < x → WS X G nL σ (pc + 3) lv st) : WS X G nL σ pc lv (.int x :: st) := fun H locs ls hP hS h => lv_if_gt o.1 o.2.1 d ht (fun z => kt z H locs ls hP hS h) (fun z => kf z H locs ls hP hS h)
theorem r_icmp_gt (o : Ok X G cc nL own F Lo) {x y : Int32} {off : Int} {tgt : Nat} (d : decode cc pc = .ok (.if_icmp .gt off, 3)) (ht : (pc : Int) + off = (tgt : Int)) (kt : y < x → WS X G nL σ tgt lv st) (kf : ¬ y < x → WS X G nL σ (pc + 3) lv st) : WS X G nL σ pc lv (.int y :: .int x :: st) := fun H locs ls hP hS h => lv_icmp_gt o.1 o.2.1 d ht (fun z => kt z H locs ls hP hS h) (fun z => kf z H locs ls hP hS h)
theorem r_if_le (o : Ok X G cc nL own F Lo) {x : Int32} {off : Int} {tgt : Nat} (d : decode cc pc = .ok (.ifCond .le off, 3)) (ht : (pc : Int) + off = (tgt : Int)) (kt : x ≤ 0 → WS X G nL σ tgt lv st) (kf : ¬ x ≤ 0 → WS X G nL σ (pc + 3) lv st) : WS X G nL σ pc lv (.int x :: st) := fun H locs ls hP hS h => lv_if_le o.1 o.2.1 d ht (fun z => kt z H locs ls hP hS h) (fun z => kf z H locs ls hP hS h)
theorem r_icmp_le (o : Ok X G cc nL own F Lo) {x y : Int32} {off : Int} {tgt : Nat} (d : decode cc pc = .ok (.if_icmp .le off, 3)) (ht : (pc : Int) + off = (tgt : Int)) (kt : x ≤ y → WS X G nL σ tgt lv st) (kf : ¬ x ≤ y → WS X G nL σ (pc + 3) lv st) : WS X G nL σ pc lv (.int y :: .int x :: st) := fun H locs ls hP hS h => lv_icmp_le o.1 o.2.1 d ht (fun z => kt z H locs ls hP hS h) (fun z => kf z H locs ls hP hS h)
theorem r_goto (o : Ok X G cc nL own F Lo) {off : Int} {tgt : Nat} (d : decode cc pc = .ok (.goto off, 3)) (ht : (pc : Int) + off = (tgt : Int)) (k : WS X G nL σ tgt lv st) : WS X G nL σ pc lv st := fun H locs ls hP hS h => lv_goto o.1 o.2.1 d ht (k H locs ls hP hS h)
theorem r_tableIn (o : Ok X G cc nL own F Lo) {dflt lo hi : Int} {offs : Array Int} {len : Nat} {x : Int32} {off : Int} {tgt : Nat} (d : decode cc pc = .ok (.tableswitch dflt lo hi offs, len)) (h1 : ¬ x.toInt < lo) (h2 : ¬ hi < x.toInt) (ho : offs[(x.toInt - lo).toNat]? = some off) (ht : (pc : Int) + off = (tgt : Int)) (k : WS X G nL σ tgt lv st) : WS X G nL σ pc lv (.int x :: st) := fun H locs ls hP hS h => lv_tableIn o.1 o.2.1 d h1 h2 ho ht (k H locs ls hP hS h)
theorem r_tableOut (o : Ok X G cc nL own F Lo) {dflt lo hi : Int} {offs : Array Int} {len : Nat} {x : Int32} {tgt : Nat} (d : decode cc pc = .ok (.tableswitch dflt lo hi offs, len)) (hh : x.toInt < lo ∨ hi < x.toInt) (ht : (pc : Int) + dflt = (tgt : Int)) (k : WS X G nL σ tgt lv st) : WS X G nL σ pc lv (.int x :: st) := fun H locs ls hP hS h => lv_tableOut o.1 o.2.1 d hh ht (k H locs ls hP hS h)
theorem r_lookup (o : Ok X G cc nL own F Lo) {dflt : Int} {ps : Array (Int × Int)} {len : Nat} {x : Int32} {off : Int} {tgt : Nat} (d : decode cc pc = .ok (.lookupswitch dflt ps, len)) (hp : (ps.toList.zip (ps.toList.drop 1)).all (fun (a, next) => a.1 < next.1) = true) (ho : Op.lookupswitch.offset ps.toList dflt x.toInt = off) (ht : (pc : Int) + off = (tgt : Int)) (k : WS X G nL σ tgt lv st) : WS X G nL σ pc lv (.int x :: st) := fun H locs ls hP hS h => lv_lookup o.1 o.2.1 d hp ho ht (k H locs ls hP hS h)
theorem r_ldc (o : Ok X G cc nL own F Lo) {index : Nat} {v : Int32} (hw : Cond.constant own index v ∈ TT) (d : decode cc pc = .ok (.ldc index, 2)) (k : WS X G nL σ (pc + 2) lv (.int v :: st)) : WS X G nL σ pc lv st := fun H locs ls hP hS h => W.ldc (g := F0 (xm X) pc ls st) o.1 o.2.1 o.2.2.2.1 (o.2.2.2.2.1 _ hw) rfl d (k H locs ls hP hS h)
theorem r_ldc_w (o : Ok X G cc nL own F Lo) {index : Nat} {v : Int32} (hw : Cond.constant own index v ∈ TT) (d : decode cc pc = .ok (.ldc_w index, 3)) (k : WS X G nL σ (pc + 3) lv (.int v :: st)) : WS X G nL σ pc lv st := fun H locs ls hP hS h => lv_ldcw o.1 o.2.1 o.2.2.2.1 (o.2.2.2.2.1 _ hw) d (k H locs ls hP hS h)
theorem r_ldc2_w (o : Ok X G cc nL own F Lo) {index : Nat} {v : Int64} (hw : Cond.constantLong own index v ∈ TT) (d : decode cc pc = .ok (.ldc2_w index, 3)) (k : WS X G nL σ (pc + 3) lv (.long v :: st)) : WS X G nL σ pc lv st := fun H locs ls hP hS h => W.ldc2 (g := F0 (xm X) pc ls st) o.1 o.2.1 o.2.2.2.1 (o.2.2.2.2.1 _ hw) rfl d (k H locs ls hP hS h)
theorem r_get (o : Ok X G cc nL own F Lo) {ref C : String} {T : u_T} {N ci index c : Nat} {fs : List Value} {v : Value} (hi : ∀ w ∈ u_ws C T N, w ∈ TT) (hc : c < 85) (he : cellE G c (σ c) = .inr (ci, fs)) (hcl : classes[ci]? = some (C, T, N)) (k : Nat) (hk : k < N) (hr : (T k).1 = ref) (hw : Cond.fieldLink own index ref (T k).2.1 (T k).2.2.1 ∈ TT) (hv : fs[k]? = some v) (d : decode cc pc = .ok (.getfield index, 3)) (kk : WS X G nL σ (pc + 3) lv (v :: st)) : WS X G nL σ pc lv (.ref (gad G c) :: st) := fun H locs ls hP hS h =>
  va_get o.1 o.2.1 o.2.2.2.2.1 hi o.2.2.2.1 o.2.2.2.2.2.1 hP c (by rw [wld_at hc, he]) hcl k hk (o.2.2.2.2.1 _ hw) (fun x hx => by rw [← hr]; exact hx) hv d (kk H locs ls hP hS h)
theorem r_getN (o : Ok X G cc nL own F Lo) {ref C host : String} {T : u_T} {N ci index c : Nat} {fs : List Value} {v : Value} (hi : ∀ w ∈ u_ws C T N, w ∈ TT) (hc : c < 85) (he : cellE G c (σ c) = .inr (ci, fs)) (hcl : classes[ci]? = some (C, T, N)) (k : Nat) (hk : k < N) (hr : (T k).1 = ref) (hw : Cond.fieldLinkNest own index ref (T k).2.1 (T k).2.2.1 host ∈ TT) (hv : fs[k]? = some v) (d : decode cc pc = .ok (.getfield index, 3)) (kk : WS X G nL σ (pc + 3) lv (v :: st)) : WS X G nL σ pc lv (.ref (gad G c) :: st) := fun H locs ls hP hS h =>
  va_getN o.1 o.2.1 o.2.2.2.2.1 hi o.2.2.2.1 o.2.2.2.2.2.1 hP c (by rw [wld_at hc, he]) hcl k hk (o.2.2.2.2.1 _ hw) (fun x hx => by rw [← hr]; exact hx) hv d (kk H locs ls hP hS h)
theorem r_puti (o : Ok X G cc nL own F Lo) {ref C : String} {T : u_T} {N ci index c : Nat} {fs : List Value} {v : Int32} (hi : ∀ w ∈ u_ws C T N, w ∈ TT) (ty0 : Nat → FieldType) (hty : ∀ k, k < N → parseFieldDescriptor (T k).2.2.1 = some (ty0 k)) (hnm : ∀ a, a < N → ∀ b, b < N → a ≠ b → (T a).2.1 ≠ (T b).2.1) (hc : c < 85) (he : cellE G c (σ c) = .inr (ci, fs)) (hcl : classes[ci]? = some (C, T, N)) (k : Nat) (hk : k < N) (hr : (T k).1 = ref) (hw : Cond.fieldLink own index ref (T k).2.1 (T k).2.2.1 ∈ TT) (hf : (T k).2.2.2 = false) (ht0 : ty0 k = .int) (hl : k < fs.length) (hs : cellE G c (upd (σ c).1 k v, (σ c).2) = .inr (ci, fs.set k (.int v))) (d : decode cc pc = .ok (.putfield index, 3)) (kk : WS X G nL (sti σ c k v) (pc + 3) lv st) : WS X G nL σ pc lv (.int v :: .ref (gad G c) :: st) := fun H locs ls hP hS h =>
  va_put (ty := .int) o.1 o.2.1 o.2.2.2.2.1 hi ty0 hty hnm o.2.2.2.1 o.2.2.2.2.2.1 hP (wld_D o.2.2.2.2.2.2.1 σ) hS c (by rw [wld_at hc, he]) hcl k hk (o.2.2.2.2.1 _ hw) (fun x hx => by rw [← hr]; exact hx) hf (by rw [hty k hk, ht0]) rfl rfl hl d (fun H1 locs1 hP1 _ hS1 => kk H1 locs1 ls (by
    rw [← hs, wld_set] at hP1
    exact hP1) hS1 h)
theorem r_putl (o : Ok X G cc nL own F Lo) {ref C : String} {T : u_T} {N ci index c : Nat} {fs : List Value} {v : Int64} (hi : ∀ w ∈ u_ws C T N, w ∈ TT) (ty0 : Nat → FieldType) (hty : ∀ k, k < N → parseFieldDescriptor (T k).2.2.1 = some (ty0 k)) (hnm : ∀ a, a < N → ∀ b, b < N → a ≠ b → (T a).2.1 ≠ (T b).2.1) (hc : c < 85) (he : cellE G c (σ c) = .inr (ci, fs)) (hcl : classes[ci]? = some (C, T, N)) (k : Nat) (hk : k < N) (hr : (T k).1 = ref) (hw : Cond.fieldLink own index ref (T k).2.1 (T k).2.2.1 ∈ TT) (hf : (T k).2.2.2 = false) (ht0 : ty0 k = .long) (hl : k < fs.length) (hs : cellE G c ((σ c).1, vp_updL (σ c).2 k v) = .inr (ci, fs.set k (.long v))) (d : decode cc pc = .ok (.putfield index, 3)) (kk : WS X G nL (stl σ c k v) (pc + 3) lv st) : WS X G nL σ pc lv (.long v :: .ref (gad G c) :: st) := fun H locs ls hP hS h =>
  va_put (ty := .long) o.1 o.2.1 o.2.2.2.2.1 hi ty0 hty hnm o.2.2.2.1 o.2.2.2.2.2.1 hP (wld_D o.2.2.2.2.2.2.1 σ) hS c (by rw [wld_at hc, he]) hcl k hk (o.2.2.2.2.1 _ hw) (fun x hx => by rw [← hr]; exact hx) hf (by rw [hty k hk, ht0]) rfl rfl hl d (fun H1 locs1 hP1 _ hS1 => kk H1 locs1 ls (by
    rw [← hs, wld_set] at hP1
    exact hP1) hS1 h)
theorem r_putNi (o : Ok X G cc nL own F Lo) {ref C : String} {host : String} {T : u_T} {N ci index c : Nat} {fs : List Value} {v : Int32} (hi : ∀ w ∈ u_ws C T N, w ∈ TT) (ty0 : Nat → FieldType) (hty : ∀ k, k < N → parseFieldDescriptor (T k).2.2.1 = some (ty0 k)) (hnm : ∀ a, a < N → ∀ b, b < N → a ≠ b → (T a).2.1 ≠ (T b).2.1) (hc : c < 85) (he : cellE G c (σ c) = .inr (ci, fs)) (hcl : classes[ci]? = some (C, T, N)) (k : Nat) (hk : k < N) (hr : (T k).1 = ref) (hw : Cond.fieldLinkNest own index ref (T k).2.1 (T k).2.2.1 host ∈ TT) (hf : (T k).2.2.2 = false) (ht0 : ty0 k = .int) (hl : k < fs.length) (hs : cellE G c (upd (σ c).1 k v, (σ c).2) = .inr (ci, fs.set k (.int v))) (d : decode cc pc = .ok (.putfield index, 3)) (kk : WS X G nL (sti σ c k v) (pc + 3) lv st) : WS X G nL σ pc lv (.int v :: .ref (gad G c) :: st) := fun H locs ls hP hS h =>
  va_putN (ty := .int) o.1 o.2.1 o.2.2.2.2.1 hi ty0 hty hnm o.2.2.2.1 o.2.2.2.2.2.1 hP (wld_D o.2.2.2.2.2.2.1 σ) hS c (by rw [wld_at hc, he]) hcl k hk (o.2.2.2.2.1 _ hw) (fun x hx => by rw [← hr]; exact hx) hf (by rw [hty k hk, ht0]) rfl rfl hl d (fun H1 locs1 hP1 _ hS1 => kk H1 locs1 ls (by
    rw [← hs, wld_set] at hP1
    exact hP1) hS1 h)
theorem r_putNl (o : Ok X G cc nL own F Lo) {ref C : String} {host : String} {T : u_T} {N ci index c : Nat} {fs : List Value} {v : Int64} (hi : ∀ w ∈ u_ws C T N, w ∈ TT) (ty0 : Nat → FieldType) (hty : ∀ k, k < N → parseFieldDescriptor (T k).2.2.1 = some (ty0 k)) (hnm : ∀ a, a < N → ∀ b, b < N → a ≠ b → (T a).2.1 ≠ (T b).2.1) (hc : c < 85) (he : cellE G c (σ c) = .inr (ci, fs)) (hcl : classes[ci]? = some (C, T, N)) (k : Nat) (hk : k < N) (hr : (T k).1 = ref) (hw : Cond.fieldLinkNest own index ref (T k).2.1 (T k).2.2.1 host ∈ TT) (hf : (T k).2.2.2 = false) (ht0 : ty0 k = .long) (hl : k < fs.length) (hs : cellE G c ((σ c).1, vp_updL (σ c).2 k v) = .inr (ci, fs.set k (.long v))) (d : decode cc pc = .ok (.putfield index, 3)) (kk : WS X G nL (stl σ c k v) (pc + 3) lv st) : WS X G nL σ pc lv (.long v :: .ref (gad G c) :: st) := fun H locs ls hP hS h =>
  va_putN (ty := .long) o.1 o.2.1 o.2.2.2.2.1 hi ty0 hty hnm o.2.2.2.1 o.2.2.2.2.2.1 hP (wld_D o.2.2.2.2.2.2.1 σ) hS c (by rw [wld_at hc, he]) hcl k hk (o.2.2.2.2.1 _ hw) (fun x hx => by rw [← hr]; exact hx) hf (by rw [hty k hk, ht0]) rfl rfl hl d (fun H1 locs1 hP1 _ hS1 => kk H1 locs1 ls (by
    rw [← hs, wld_set] at hP1
    exact hP1) hS1 h)
theorem r_iald (o : Ok X G cc nL own F Lo) {c n : Nat} (hc : c < 85) (he : ∀ x, cellE G c x = .inl (gI G, n, .inl x.1)) {i : Int32} (j : Nat) (hj : i = nI j) (hn : j < n) (hb : n < 2 ^ 31) (d : decode cc pc = .ok (.iaload, 1)) (k : WS X G nL σ (pc + 1) lv (.int ((σ c).1 j) :: st)) : WS X G nL σ pc lv (.int i :: .ref (gad G c) :: st) := fun H locs ls hP hS h => by
  refine va_iald o.1 o.2.1 o.2.2.2.2.2.1 hP c 0 (by rw [wld_at hc, he]) rfl (by rw [hj]; exact vp_in_nI hn hb) d ?_
  rw [hj, nI_clamp (by omega)]
  exact k H locs ls hP hS h
theorem r_lald (o : Ok X G cc nL own F Lo) {c n : Nat} (hc : c < 85) (he : ∀ x, cellE G c x = .inl (gJ G, n, .inr (.inl x.2))) {i : Int32} (j : Nat) (hj : i = nI j) (hn : j < n) (hb : n < 2 ^ 31) (d : decode cc pc = .ok (.laload, 1)) (k : WS X G nL σ (pc + 1) lv (.long ((σ c).2 j) :: st)) : WS X G nL σ pc lv (.int i :: .ref (gad G c) :: st) := fun H locs ls hP hS h => by
  refine va_lald o.1 o.2.1 o.2.2.2.2.2.1 hP c 1 (by rw [wld_at hc, he]) rfl (by rw [hj]; exact vp_in_nI hn hb) d ?_
  rw [hj, nI_clamp (by omega)]
  exact k H locs ls hP hS h
theorem r_iast (o : Ok X G cc nL own F Lo) {c n : Nat} (hc : c < 85) (he : ∀ x, cellE G c x = .inl (gI G, n, .inl x.1)) {i v : Int32} (j : Nat) (hj : i = nI j) (hn : j < n) (hb : n < 2 ^ 31) (d : decode cc pc = .ok (.iastore, 1)) (k : WS X G nL (sti σ c j v) (pc + 1) lv st) : WS X G nL σ pc lv (.int v :: .int i :: .ref (gad G c) :: st) := fun H locs ls hP hS h => by
  refine va_iast o.1 o.2.1 o.2.2.2.2.2.1 hP (wld_D o.2.2.2.2.2.2.1 σ) hS c 0 (by rw [wld_at hc, he]) rfl (by rw [hj]; exact vp_in_nI hn hb) d (fun H1 locs1 hP1 _ hS1 => k H1 locs1 ls ?_ hS1 h)
  rw [hj, nI_clamp (by omega), show (Sum.inl (gI G, n, Sum.inl (upd (σ c).1 j v)) : va_E) = cellE G c (upd (σ c).1 j v, (σ c).2) from (he (upd (σ c).1 j v, (σ c).2)).symm, wld_set] at hP1
  exact hP1
theorem r_last (o : Ok X G cc nL own F Lo) {c n : Nat} (hc : c < 85) (he : ∀ x, cellE G c x = .inl (gJ G, n, .inr (.inl x.2))) {i : Int32} {v : Int64} (j : Nat) (hj : i = nI j) (hn : j < n) (hb : n < 2 ^ 31) (d : decode cc pc = .ok (.lastore, 1)) (k : WS X G nL (stl σ c j v) (pc + 1) lv st) : WS X G nL σ pc lv (.long v :: .int i :: .ref (gad G c) :: st) := fun H locs ls hP hS h => by
  refine va_last o.1 o.2.1 o.2.2.2.2.2.1 hP (wld_D o.2.2.2.2.2.2.1 σ) hS c 1 (by rw [wld_at hc, he]) rfl (by rw [hj]; exact vp_in_nI hn hb) d (fun H1 locs1 hP1 _ hS1 => k H1 locs1 ls ?_ hS1 h)
  rw [hj, nI_clamp (by omega), show (Sum.inl (gJ G, n, Sum.inr (Sum.inl (vp_updL (σ c).2 j v))) : va_E) = cellE G c ((σ c).1, vp_updL (σ c).2 j v) from (he ((σ c).1, vp_updL (σ c).2 j v)).symm, wld_set] at hP1
  exact hP1
theorem r_rows (o : Ok X G cc nL own F Lo) {i : Int32} (j : Nat) (hj : i = nI j) (hn : j < 6) (d : decode cc pc = .ok (.aaload, 1)) (k : WS X G nL σ (pc + 1) lv (.ref (gad G (13 + j)) :: st)) : WS X G nL σ pc lv (.int i :: .ref (gad G 12) :: st) := fun H locs ls hP hS h => by
  have ha : (wld G σ)[12]? = some (gad G 12, .inl (gQ G, 6, .inr (.inr (.inr (.inr (fun i => if i < 6 then some (gad G (13 + i)) else none)))))) := by rw [wld_at (by decide)]; rfl
  have hcl : i.toNatClampNeg = j := by rw [hj, nI_clamp (by omega)]
  have hin : vp_in i 6 := by rw [hj]; exact vp_in_nI hn (by omega)
  refine W.aald (v := .ref (gad G (13 + j))) (ty := .array .int) o.1 o.2.1 (hP 12 _ ha) ((o.2.2.2.2.2.1.2 3 _ rfl).1 6 (fun j => va_rf ((fun i => if i < 6 then some (gad G (13 + i)) else none) j))) rfl (fun q => by cases q) (by show ¬ (i < 0 ∨ (arrV _ _ _).slots.size ≤ _); rw [arrV_size]; exact hin) (by show (arrV _ _ _).slots[_]? = _; rw [hcl, arrV_read _ _ hn]; simp [hn, va_rf]) rfl rfl d (k H locs ls hP hS h)
theorem r_rnds (o : Ok X G cc nL own F Lo) {i : Int32} (j : Nat) (hj : i = nI j) (hn : j < 13) (d : decode cc pc = .ok (.aaload, 1)) (k : WS X G nL σ (pc + 1) lv (.ref (gad G (32 + j)) :: st)) : WS X G nL σ pc lv (.int i :: .ref (gad G 31) :: st) := fun H locs ls hP hS h => by
  have ha : (wld G σ)[31]? = some (gad G 31, .inl (gR G, 13, .inr (.inr (.inr (.inr (fun i => if i < 13 then some (gad G (32 + i)) else none)))))) := by rw [wld_at (by decide)]; rfl
  have hcl : i.toNatClampNeg = j := by rw [hj, nI_clamp (by omega)]
  have hin : vp_in i 13 := by rw [hj]; exact vp_in_nI hn (by omega)
  refine W.aald (v := .ref (gad G (32 + j))) (ty := .object "RoundRows$Round") o.1 o.2.1 (hP 31 _ ha) ((o.2.2.2.2.2.1.2 2 _ rfl).1 13 (fun j => va_rf ((fun i => if i < 13 then some (gad G (32 + i)) else none) j))) rfl (fun q => by cases q) (by show ¬ (i < 0 ∨ (arrV _ _ _).slots.size ≤ _); rw [arrV_size]; exact hin) (by show (arrV _ _ _).slots[_]? = _; rw [hcl, arrV_read _ _ hn]; simp [hn, va_rf]) rfl rfl d (k H locs ls hP hS h)
end RW
end
section
/-! CONTRACTS over the static world, and calls -/
abbrev rmO (F Lo : Nat) : Room := { frames := F, cells := 0, slots := 0, locals := Lo }
def okM (y : MethodName) (cb : ByteArray) (mL : Nat) (ret : Option FieldType) (n : Nat) : Prop := Cond.code y cb mL ret ∈ TT ∧ Cond.initialized y.cls ∈ TT ∧ (y.cls ≠ "java/lang/invoke/MethodHandle" ∧ y.cls ≠ "java/lang/invoke/VarHandle" ∧ (parseMethodDescriptor y.desc).map (fun d => d.parameters.length) = some n) ∧ True
def CtI (l : Launch) (G : Gl) (y : MethodName) (cb : ByteArray) (mL : Nat) (ret : Option FieldType) (F Lo : Nat) (av : List Value) (σ : Sto) (post : Int32 → Sto → Prop) : Prop :=
  Met l y (.code y cb mL ret :: TT) (rmO F Lo) (va_Pc av (Wd G σ)) (va_Qi post (Wd G) (Ad G)) 0 0 (Ad G)
def RtI (X : Cx) (G : Gl) (ret : Option FieldType) (post : Int32 → Sto → Prop) : Prop := xQ X = MQ (xb X) (va_Qi post (Wd G) (Ad G)) (xa X) (xs X) 0 0 (Ad G) ∧ (xh X).sig.returnType = ret
theorem CtI.of {l : Launch} {G : Gl} {y : MethodName} {cb : ByteArray} {mL : Nat} {ret : Option FieldType} {F Lo : Nat} {av : List Value} {σ : Sto} {post : Int32 → Sto → Prop} (hy : plainName y.cls = true) (hn : (lg_sl av).length ≤ mL)
    (body : ∀ X : Cx, Ok X G cb mL y.cls F Lo → RtI X G ret post → WS X G mL σ 0 (lv_args 0 av) []) : CtI l G y cb mL ret F Lo av σ post := by
  refine Met.ofW (cc := cb) (maxL := mL) (ret := ret) hy rfl ?_
  intro p e s m args below meth c s₁ B hml hv
  obtain ⟨rfl, hP, hK, hI⟩ := hv
  have hts := atoms_spec (ws := Cond.code y cb mL ret :: TT) B.pre
  have hl := lv_entry av (n := mL) hn
  rw [lg_entry_eq]
  exact body (p, l, e, rmO F Lo, s, m, av.toArray, below, meth, c, _) ⟨B.exec, B.bytes, hml, findClass_of_methodNamed B.named, fun w h => hts w (List.mem_cons_of_mem _ h), hK, hI, rfl, rfl, B.notSynchronized⟩ ⟨rfl, B.returns⟩ s.heap [] _ hP va_S.rf hl
def CtL (l : Launch) (G : Gl) (y : MethodName) (cb : ByteArray) (mL : Nat) (ret : Option FieldType) (F Lo : Nat) (av : List Value) (σ : Sto) (post : Int64 → Sto → Prop) : Prop :=
  Met l y (.code y cb mL ret :: TT) (rmO F Lo) (va_Pc av (Wd G σ)) (va_Ql post (Wd G) (Ad G)) 0 0 (Ad G)
def RtL (X : Cx) (G : Gl) (ret : Option FieldType) (post : Int64 → Sto → Prop) : Prop := xQ X = MQ (xb X) (va_Ql post (Wd G) (Ad G)) (xa X) (xs X) 0 0 (Ad G) ∧ (xh X).sig.returnType = ret
theorem CtL.of {l : Launch} {G : Gl} {y : MethodName} {cb : ByteArray} {mL : Nat} {ret : Option FieldType} {F Lo : Nat} {av : List Value} {σ : Sto} {post : Int64 → Sto → Prop} (hy : plainName y.cls = true) (hn : (lg_sl av).length ≤ mL)
    (body : ∀ X : Cx, Ok X G cb mL y.cls F Lo → RtL X G ret post → WS X G mL σ 0 (lv_args 0 av) []) : CtL l G y cb mL ret F Lo av σ post := by
  refine Met.ofW (cc := cb) (maxL := mL) (ret := ret) hy rfl ?_
  intro p e s m args below meth c s₁ B hml hv
  obtain ⟨rfl, hP, hK, hI⟩ := hv
  have hts := atoms_spec (ws := Cond.code y cb mL ret :: TT) B.pre
  have hl := lv_entry av (n := mL) hn
  rw [lg_entry_eq]
  exact body (p, l, e, rmO F Lo, s, m, av.toArray, below, meth, c, _) ⟨B.exec, B.bytes, hml, findClass_of_methodNamed B.named, fun w h => hts w (List.mem_cons_of_mem _ h), hK, hI, rfl, rfl, B.notSynchronized⟩ ⟨rfl, B.returns⟩ s.heap [] _ hP va_S.rf hl
def CtV (l : Launch) (G : Gl) (y : MethodName) (cb : ByteArray) (mL : Nat) (ret : Option FieldType) (F Lo : Nat) (av : List Value) (σ : Sto) (post : Sto → Prop) : Prop :=
  Met l y (.code y cb mL ret :: TT) (rmO F Lo) (va_Pc av (Wd G σ)) (va_Qv post (Wd G) (Ad G)) 0 0 (Ad G)
def RtV (X : Cx) (G : Gl) (ret : Option FieldType) (post : Sto → Prop) : Prop := xQ X = MQ (xb X) (va_Qv post (Wd G) (Ad G)) (xa X) (xs X) 0 0 (Ad G) ∧ (xh X).sig.returnType = ret
theorem CtV.of {l : Launch} {G : Gl} {y : MethodName} {cb : ByteArray} {mL : Nat} {ret : Option FieldType} {F Lo : Nat} {av : List Value} {σ : Sto} {post : Sto → Prop} (hy : plainName y.cls = true) (hn : (lg_sl av).length ≤ mL)
    (body : ∀ X : Cx, Ok X G cb mL y.cls F Lo → RtV X G ret post → WS X G mL σ 0 (lv_args 0 av) []) : CtV l G y cb mL ret F Lo av σ post := by
  refine Met.ofW (cc := cb) (maxL := mL) (ret := ret) hy rfl ?_
  intro p e s m args below meth c s₁ B hml hv
  obtain ⟨rfl, hP, hK, hI⟩ := hv
  have hts := atoms_spec (ws := Cond.code y cb mL ret :: TT) B.pre
  have hl := lv_entry av (n := mL) hn
  rw [lg_entry_eq]
  exact body (p, l, e, rmO F Lo, s, m, av.toArray, below, meth, c, _) ⟨B.exec, B.bytes, hml, findClass_of_methodNamed B.named, fun w h => hts w (List.mem_cons_of_mem _ h), hK, hI, rfl, rfl, B.notSynchronized⟩ ⟨rfl, B.returns⟩ s.heap [] _ hP va_S.rf hl
theorem Wd_blind {G : Gl} {σ : Sto} {av : List Value} : FrameBlind (va_Pc av (Wd G σ)) := fun a U g mk q => by
  obtain ⟨q0, q1, q2, q3⟩ := q
  exact ⟨q0, q1, va_K.moved (u := U) (U := U.calling g mk a) (Vm.Alike.refl U.vm) q2, q3⟩
section RC
variable {X : Cx} {G : Gl} {cc : ByteArray} {nL : Nat} {own : String} {F Lo : Nat} {σ : Sto} {pc : Nat} {lv : List (Nat × Value)} {st st' : List Value}
theorem r_ireturn (o : Ok X G cc nL own F Lo) {post : Int32 → Sto → Prop} (q : RtI X G (some .int) post) {v : Int32} (d : decode cc pc = .ok (.ireturn, 1)) (h : post v σ) : WS X G nL σ pc lv [.int v] := fun H locs ls hP hS _ => by
  rw [q.1]
  exact W.iret o.1 o.2.1 q.2 (fun t ht hW => ⟨⟨v, σ, rfl, h, by rw [ht]; exact hP, va_K.moved hW.alike o.2.2.2.2.2.1, o.2.2.2.2.2.2.1⟩, hS.F ht⟩) hS.2.2 d o.2.2.2.2.2.2.2.2.2
theorem r_zreturn (o : Ok X G cc nL own F Lo) {post : Int32 → Sto → Prop} (q : RtI X G (some .boolean) post) {v : Int32} (hn : narrow .boolean (.int v) = .int v) (d : decode cc pc = .ok (.ireturn, 1)) (h : post v σ) : WS X G nL σ pc lv [.int v] := fun H locs ls hP hS _ => by
  rw [q.1]
  exact W.zret o.1 o.2.1 q.2 hn (fun t ht hW => ⟨⟨v, σ, rfl, h, by rw [ht]; exact hP, va_K.moved hW.alike o.2.2.2.2.2.1, o.2.2.2.2.2.2.1⟩, hS.F ht⟩) hS.2.2 d o.2.2.2.2.2.2.2.2.2
theorem r_lreturn (o : Ok X G cc nL own F Lo) {post : Int64 → Sto → Prop} (q : RtL X G (some .long) post) {v : Int64} (d : decode cc pc = .ok (.lreturn, 1)) (h : post v σ) : WS X G nL σ pc lv [.long v] := fun H locs ls hP hS _ => by
  rw [q.1]
  exact W.lret o.1 o.2.1 q.2 (fun t ht hW => ⟨⟨v, σ, rfl, h, by rw [ht]; exact hP, va_K.moved hW.alike o.2.2.2.2.2.1, o.2.2.2.2.2.2.1⟩, hS.F ht⟩) hS.2.2 d o.2.2.2.2.2.2.2.2.2
theorem r_return (o : Ok X G cc nL own F Lo) {post : Sto → Prop} (q : RtV X G none post) (d : decode cc pc = .ok (.return_, 1)) (h : post σ) : WS X G nL σ pc lv [] := fun H locs ls hP hS _ => by
  rw [q.1]
  exact W.vret o.1 o.2.1 q.2 (fun t ht hW => ⟨⟨σ, rfl, h, by rw [ht]; exact hP, va_K.moved hW.alike o.2.2.2.2.2.1, o.2.2.2.2.2.2.1⟩, hS.F ht⟩) hS.2.2 d o.2.2.2.2.2.2.2.2.2
theorem okM.sig {y : MethodName} {cb : ByteArray} {mL : Nat} {ret : Option FieldType} {n : Nat} (om : okM y cb mL ret n) : ∀ sig, parseMethodDescriptor y.desc = some sig → n = sig.parameters.length := fun sig h => by
  have h2 := om.2.2.1.2.2
  rw [h] at h2
  exact (Option.some.inj h2).symm
theorem okM.pay (o : Ok X G cc nL own F Lo) {y : MethodName} {cb : ByteArray} {mL : Nat} {ret : Option FieldType} {n : Nat} (om : okM y cb mL ret n) : ∀ w ∈ (Cond.code y cb mL ret :: TT), ∀ (a' : Array Value) (U : State), (xs X).WarmedH U.vm → w.before a' U = true := fun w hw a' U hW => by
  rcases List.mem_cons.mp hw with e | h
  · subst e; exact TT_pay o.2.2.2.2.1 _ om.1 a' U hW
  · exact TT_pay o.2.2.2.2.1 w h a' U hW
theorem okM.cb (o : Ok X G cc nL own F Lo) {y : MethodName} {cb : ByteArray} {mL idx : Nat} {ret : Option FieldType} {n F' Lo' : Nat} (om : okM y cb mL ret n) (hl : Cond.methodLink own idx y ∈ TT) (hR : F' + 1 ≤ F ∧ 8 + (mL + 11) + Lo' ≤ Lo) : CallB (xR X) (xs X) (xa X) own idx y cb mL ret (Cond.code y cb mL ret :: TT) (rmO F' Lo') 0 0 n :=
  ⟨rfl, rfl, by rw [o.2.2.2.2.2.2.2.1]; exact hR.1, by rw [o.2.2.2.2.2.2.2.2.1]; exact hR.2, om.pay o, List.mem_cons_self, o.2.2.2.2.1 _ om.1, o.2.2.2.2.1 _ om.2.1, ⟨om.2.2.1.1, om.2.2.1.2.1⟩, om.sig, o.2.2.2.2.1 _ hl⟩
theorem okM.cn (o : Ok X G cc nL own F Lo) {y : MethodName} {cb : ByteArray} {mL idx : Nat} {host : String} {ret : Option FieldType} {n F' Lo' : Nat} (om : okM y cb mL ret n) (hl : Cond.methodLinkNest own idx y host ∈ TT) (hR : F' + 1 ≤ F ∧ 8 + (mL + 11) + Lo' ≤ Lo) : va_CN (xR X) (xs X) (xa X) own idx y host cb mL ret (Cond.code y cb mL ret :: TT) (rmO F' Lo') 0 0 n :=
  ⟨⟨rfl, rfl, by rw [o.2.2.2.2.2.2.2.1]; exact hR.1, by rw [o.2.2.2.2.2.2.2.2.1]; exact hR.2, om.pay o, List.mem_cons_self⟩, o.2.2.2.2.1 _ om.1, o.2.2.2.2.1 _ om.2.1, ⟨om.2.2.1.1, om.2.2.1.2.1⟩, om.sig, o.2.2.2.2.1 _ hl⟩
theorem Ok.fix (o : Ok X G cc nL own F Lo) : CallFix (xp X) (xm X) (xc X) cc nL (xs X) (xa X) TT own := ⟨o.1, o.2.1, o.2.2.1, o.2.2.2.1, o.2.2.2.2.1⟩
theorem Wd_pre (o : Ok X G cc nL own F Lo) {H : Heap} {av : List Value} (hP : va_P G.1 classes (wld G σ) H) : ∀ U : State, U.heap = H → (xs X).WarmedH U.vm → va_Pc av (Wd G σ) av.toArray U := fun U hU hW => ⟨rfl, by rw [hU]; exact hP, va_K.moved hW.alike o.2.2.2.2.2.1, o.2.2.2.2.2.2.1⟩
theorem r_callVI (o : Ok X G cc nL own F Lo) {y : MethodName} {cb : ByteArray} {mL idx n F' Lo' : Nat} {ret : Option FieldType} {As : List Value} {post : Int32 → Sto → Prop} {c ci : Nat} {fs : List Value} {q : vw_C} (ct : CtI (xl X) G y cb mL ret F' Lo' (.ref (gad G c) :: As) σ post) (om : okM y cb mL ret n) (hin : Cond.instanceMethod y ∈ TT) (hse : Cond.selects y.cls y y ∈ TT) (hlk : Cond.methodLink own idx y ∈ TT) (hc : c < 85) (he : cellE G c (σ c) = .inr (ci, fs)) (hcl : classes[ci]? = some q) (hq : q.1 = y.cls) (hR : F' + 1 ≤ F ∧ 8 + (mL + 11) + Lo' ≤ Lo) (hlen : As.length = n) (hst : st' = As.reverse ++ .ref (gad G c) :: st) (hW : (st.map fun v => v.category).sum ≤ 8) (d : decode cc pc = .ok (.invokevirtual idx, 3))
    (kk : ∀ (r : Int32) (σ' : Sto), post r σ' → WS X G nL σ' (pc + 3) lv (.int r :: st)) : WS X G nL σ pc lv st' := fun H locs ls hP hS h => by
  refine va_calli (pc := pc) (ls := ls) (st0 := st') (va_runV (C := y.cls) (As := As) (rest := st) (ret := ret) (bytes := cb) (maxL := mL) (n := n) o.fix ct ⟨om.cb o hlk hR, o.2.2.2.2.1 _ hin, o.2.2.2.2.1 _ hse⟩ ⟨Wd_blind, by rw [← hq]; exact va_recv o.2.2.2.2.2.1 hP hcl (q0 := c) (fs := fs) (by rw [wld_at hc, he]), Wd_pre o hP⟩ rfl hlen h.1 hst (lv_room hW) d ⟨Nat.zero_le _, Nat.zero_le _⟩) hS (fun q _ h => h) (fun q h => h) (fun r u t H1 locs1 ht hvm hw hB hz1 hk1 hS1 => ?_)
  obtain ⟨hP1, -, -⟩ := hB
  rw [ht] at hP1
  exact kk r u hw H1 locs1 ls hP1 hS1 h
theorem r_callSI (o : Ok X G cc nL own F Lo) {y : MethodName} {cb : ByteArray} {mL idx n F' Lo' : Nat} {ret : Option FieldType} {As : List Value} {post : Int32 → Sto → Prop} (ct : CtI (xl X) G y cb mL ret F' Lo' (As) σ post) (om : okM y cb mL ret n) (hin : Cond.static y ∈ TT) (hlk : Cond.methodLink own idx y ∈ TT) (hR : F' + 1 ≤ F ∧ 8 + (mL + 11) + Lo' ≤ Lo) (hlen : As.length = n) (hst : st' = As.reverse ++ st) (hW : (st.map fun v => v.category).sum ≤ 8) (d : decode cc pc = .ok (.invokestatic idx, 3))
    (kk : ∀ (r : Int32) (σ' : Sto), post r σ' → WS X G nL σ' (pc + 3) lv (.int r :: st)) : WS X G nL σ pc lv st' := fun H locs ls hP hS h => by
  refine va_calli (pc := pc) (ls := ls) (st0 := st') (va_runS (As := As) (rest := st) (ret := ret) (bytes := cb) (maxL := mL) (n := n) o.fix ct ⟨om.cb o hlk hR, o.2.2.2.2.1 _ hin⟩ ⟨Wd_blind, Wd_pre o hP⟩ rfl hlen h.1 hst (lv_room hW) d ⟨Nat.zero_le _, Nat.zero_le _⟩) hS (fun q _ h => h) (fun q h => h) (fun r u t H1 locs1 ht hvm hw hB hz1 hk1 hS1 => ?_)
  obtain ⟨hP1, -, -⟩ := hB
  rw [ht] at hP1
  exact kk r u hw H1 locs1 ls hP1 hS1 h
theorem r_callNI (o : Ok X G cc nL own F Lo) {y : MethodName} {cb : ByteArray} {mL idx n F' Lo' : Nat} {ret : Option FieldType} {As : List Value} {post : Int32 → Sto → Prop} {host : String} (ct : CtI (xl X) G y cb mL ret F' Lo' (As) σ post) (om : okM y cb mL ret n) (hin : Cond.static y ∈ TT) (hlk : Cond.methodLinkNest own idx y host ∈ TT) (hR : F' + 1 ≤ F ∧ 8 + (mL + 11) + Lo' ≤ Lo) (hlen : As.length = n) (hst : st' = As.reverse ++ st) (hW : (st.map fun v => v.category).sum ≤ 8) (d : decode cc pc = .ok (.invokestatic idx, 3))
    (kk : ∀ (r : Int32) (σ' : Sto), post r σ' → WS X G nL σ' (pc + 3) lv (.int r :: st)) : WS X G nL σ pc lv st' := fun H locs ls hP hS h => by
  refine va_calli (pc := pc) (ls := ls) (st0 := st') (va_runSN (As := As) (rest := st) (ret := ret) (bytes := cb) (maxL := mL) (n := n) o.fix ct ⟨om.cn o hlk hR, o.2.2.2.2.1 _ hin, trivial⟩ ⟨Wd_blind, Wd_pre o hP⟩ rfl hlen h.1 hst (lv_room hW) d ⟨Nat.zero_le _, Nat.zero_le _⟩) hS (fun q _ h => h) (fun q h => h) (fun r u t H1 locs1 ht hvm hw hB hz1 hk1 hS1 => ?_)
  obtain ⟨hP1, -, -⟩ := hB
  rw [ht] at hP1
  exact kk r u hw H1 locs1 ls hP1 hS1 h
theorem r_callVL (o : Ok X G cc nL own F Lo) {y : MethodName} {cb : ByteArray} {mL idx n F' Lo' : Nat} {ret : Option FieldType} {As : List Value} {post : Int64 → Sto → Prop} {c ci : Nat} {fs : List Value} {q : vw_C} (ct : CtL (xl X) G y cb mL ret F' Lo' (.ref (gad G c) :: As) σ post) (om : okM y cb mL ret n) (hin : Cond.instanceMethod y ∈ TT) (hse : Cond.selects y.cls y y ∈ TT) (hlk : Cond.methodLink own idx y ∈ TT) (hc : c < 85) (he : cellE G c (σ c) = .inr (ci, fs)) (hcl : classes[ci]? = some q) (hq : q.1 = y.cls) (hR : F' + 1 ≤ F ∧ 8 + (mL + 11) + Lo' ≤ Lo) (hlen : As.length = n) (hst : st' = As.reverse ++ .ref (gad G c) :: st) (hW : (st.map fun v => v.category).sum ≤ 8) (d : decode cc pc = .ok (.invokevirtual idx, 3))
    (kk : ∀ (r : Int64) (σ' : Sto), post r σ' → WS X G nL σ' (pc + 3) lv (.long r :: st)) : WS X G nL σ pc lv st' := fun H locs ls hP hS h => by
  refine va_calll (pc := pc) (ls := ls) (st0 := st') (va_runV (C := y.cls) (As := As) (rest := st) (ret := ret) (bytes := cb) (maxL := mL) (n := n) o.fix ct ⟨om.cb o hlk hR, o.2.2.2.2.1 _ hin, o.2.2.2.2.1 _ hse⟩ ⟨Wd_blind, by rw [← hq]; exact va_recv o.2.2.2.2.2.1 hP hcl (q0 := c) (fs := fs) (by rw [wld_at hc, he]), Wd_pre o hP⟩ rfl hlen h.1 hst (lv_room hW) d ⟨Nat.zero_le _, Nat.zero_le _⟩) hS (fun q _ h => h) (fun q h => h) (fun r u t H1 locs1 ht hvm hw hB hz1 hk1 hS1 => ?_)
  obtain ⟨hP1, -, -⟩ := hB
  rw [ht] at hP1
  exact kk r u hw H1 locs1 ls hP1 hS1 h
theorem r_callSL (o : Ok X G cc nL own F Lo) {y : MethodName} {cb : ByteArray} {mL idx n F' Lo' : Nat} {ret : Option FieldType} {As : List Value} {post : Int64 → Sto → Prop} (ct : CtL (xl X) G y cb mL ret F' Lo' (As) σ post) (om : okM y cb mL ret n) (hin : Cond.static y ∈ TT) (hlk : Cond.methodLink own idx y ∈ TT) (hR : F' + 1 ≤ F ∧ 8 + (mL + 11) + Lo' ≤ Lo) (hlen : As.length = n) (hst : st' = As.reverse ++ st) (hW : (st.map fun v => v.category).sum ≤ 8) (d : decode cc pc = .ok (.invokestatic idx, 3))
    (kk : ∀ (r : Int64) (σ' : Sto), post r σ' → WS X G nL σ' (pc + 3) lv (.long r :: st)) : WS X G nL σ pc lv st' := fun H locs ls hP hS h => by
  refine va_calll (pc := pc) (ls := ls) (st0 := st') (va_runS (As := As) (rest := st) (ret := ret) (bytes := cb) (maxL := mL) (n := n) o.fix ct ⟨om.cb o hlk hR, o.2.2.2.2.1 _ hin⟩ ⟨Wd_blind, Wd_pre o hP⟩ rfl hlen h.1 hst (lv_room hW) d ⟨Nat.zero_le _, Nat.zero_le _⟩) hS (fun q _ h => h) (fun q h => h) (fun r u t H1 locs1 ht hvm hw hB hz1 hk1 hS1 => ?_)
  obtain ⟨hP1, -, -⟩ := hB
  rw [ht] at hP1
  exact kk r u hw H1 locs1 ls hP1 hS1 h
theorem r_callNL (o : Ok X G cc nL own F Lo) {y : MethodName} {cb : ByteArray} {mL idx n F' Lo' : Nat} {ret : Option FieldType} {As : List Value} {post : Int64 → Sto → Prop} {host : String} (ct : CtL (xl X) G y cb mL ret F' Lo' (As) σ post) (om : okM y cb mL ret n) (hin : Cond.static y ∈ TT) (hlk : Cond.methodLinkNest own idx y host ∈ TT) (hR : F' + 1 ≤ F ∧ 8 + (mL + 11) + Lo' ≤ Lo) (hlen : As.length = n) (hst : st' = As.reverse ++ st) (hW : (st.map fun v => v.category).sum ≤ 8) (d : decode cc pc = .ok (.invokestatic idx, 3))
    (kk : ∀ (r : Int64) (σ' : Sto), post r σ' → WS X G nL σ' (pc + 3) lv (.long r :: st)) : WS X G nL σ pc lv st' := fun H locs ls hP hS h => by
  refine va_calll (pc := pc) (ls := ls) (st0 := st') (va_runSN (As := As) (rest := st) (ret := ret) (bytes := cb) (maxL := mL) (n := n) o.fix ct ⟨om.cn o hlk hR, o.2.2.2.2.1 _ hin, trivial⟩ ⟨Wd_blind, Wd_pre o hP⟩ rfl hlen h.1 hst (lv_room hW) d ⟨Nat.zero_le _, Nat.zero_le _⟩) hS (fun q _ h => h) (fun q h => h) (fun r u t H1 locs1 ht hvm hw hB hz1 hk1 hS1 => ?_)
  obtain ⟨hP1, -, -⟩ := hB
  rw [ht] at hP1
  exact kk r u hw H1 locs1 ls hP1 hS1 h
theorem r_callVV (o : Ok X G cc nL own F Lo) {y : MethodName} {cb : ByteArray} {mL idx n F' Lo' : Nat} {ret : Option FieldType} {As : List Value} {post : Sto → Prop} {c ci : Nat} {fs : List Value} {q : vw_C} (ct : CtV (xl X) G y cb mL ret F' Lo' (.ref (gad G c) :: As) σ post) (om : okM y cb mL ret n) (hin : Cond.instanceMethod y ∈ TT) (hse : Cond.selects y.cls y y ∈ TT) (hlk : Cond.methodLink own idx y ∈ TT) (hc : c < 85) (he : cellE G c (σ c) = .inr (ci, fs)) (hcl : classes[ci]? = some q) (hq : q.1 = y.cls) (hR : F' + 1 ≤ F ∧ 8 + (mL + 11) + Lo' ≤ Lo) (hlen : As.length = n) (hst : st' = As.reverse ++ .ref (gad G c) :: st) (hW : (st.map fun v => v.category).sum ≤ 8) (d : decode cc pc = .ok (.invokevirtual idx, 3))
    (kk : ∀ (σ' : Sto), post σ' → WS X G nL σ' (pc + 3) lv (st)) : WS X G nL σ pc lv st' := fun H locs ls hP hS h => by
  refine va_callv (pc := pc) (ls := ls) (st0 := st') (va_runV (C := y.cls) (As := As) (rest := st) (ret := ret) (bytes := cb) (maxL := mL) (n := n) o.fix ct ⟨om.cb o hlk hR, o.2.2.2.2.1 _ hin, o.2.2.2.2.1 _ hse⟩ ⟨Wd_blind, by rw [← hq]; exact va_recv o.2.2.2.2.2.1 hP hcl (q0 := c) (fs := fs) (by rw [wld_at hc, he]), Wd_pre o hP⟩ rfl hlen h.1 hst (lv_room hW) d ⟨Nat.zero_le _, Nat.zero_le _⟩) hS (fun q _ h => h) (fun q h => h) (fun u t H1 locs1 ht hvm hw hB hz1 hk1 hS1 => ?_)
  obtain ⟨hP1, -, -⟩ := hB
  rw [ht] at hP1
  exact kk u hw H1 locs1 ls hP1 hS1 h
theorem r_callSV (o : Ok X G cc nL own F Lo) {y : MethodName} {cb : ByteArray} {mL idx n F' Lo' : Nat} {ret : Option FieldType} {As : List Value} {post : Sto → Prop} (ct : CtV (xl X) G y cb mL ret F' Lo' (As) σ post) (om : okM y cb mL ret n) (hin : Cond.static y ∈ TT) (hlk : Cond.methodLink own idx y ∈ TT) (hR : F' + 1 ≤ F ∧ 8 + (mL + 11) + Lo' ≤ Lo) (hlen : As.length = n) (hst : st' = As.reverse ++ st) (hW : (st.map fun v => v.category).sum ≤ 8) (d : decode cc pc = .ok (.invokestatic idx, 3))
    (kk : ∀ (σ' : Sto), post σ' → WS X G nL σ' (pc + 3) lv (st)) : WS X G nL σ pc lv st' := fun H locs ls hP hS h => by
  refine va_callv (pc := pc) (ls := ls) (st0 := st') (va_runS (As := As) (rest := st) (ret := ret) (bytes := cb) (maxL := mL) (n := n) o.fix ct ⟨om.cb o hlk hR, o.2.2.2.2.1 _ hin⟩ ⟨Wd_blind, Wd_pre o hP⟩ rfl hlen h.1 hst (lv_room hW) d ⟨Nat.zero_le _, Nat.zero_le _⟩) hS (fun q _ h => h) (fun q h => h) (fun u t H1 locs1 ht hvm hw hB hz1 hk1 hS1 => ?_)
  obtain ⟨hP1, -, -⟩ := hB
  rw [ht] at hP1
  exact kk u hw H1 locs1 ls hP1 hS1 h
theorem r_callNV (o : Ok X G cc nL own F Lo) {y : MethodName} {cb : ByteArray} {mL idx n F' Lo' : Nat} {ret : Option FieldType} {As : List Value} {post : Sto → Prop} {host : String} (ct : CtV (xl X) G y cb mL ret F' Lo' (As) σ post) (om : okM y cb mL ret n) (hin : Cond.static y ∈ TT) (hlk : Cond.methodLinkNest own idx y host ∈ TT) (hR : F' + 1 ≤ F ∧ 8 + (mL + 11) + Lo' ≤ Lo) (hlen : As.length = n) (hst : st' = As.reverse ++ st) (hW : (st.map fun v => v.category).sum ≤ 8) (d : decode cc pc = .ok (.invokestatic idx, 3))
    (kk : ∀ (σ' : Sto), post σ' → WS X G nL σ' (pc + 3) lv (st)) : WS X G nL σ pc lv st' := fun H locs ls hP hS h => by
  refine va_callv (pc := pc) (ls := ls) (st0 := st') (va_runSN (As := As) (rest := st) (ret := ret) (bytes := cb) (maxL := mL) (n := n) o.fix ct ⟨om.cn o hlk hR, o.2.2.2.2.1 _ hin, trivial⟩ ⟨Wd_blind, Wd_pre o hP⟩ rfl hlen h.1 hst (lv_room hW) d ⟨Nat.zero_le _, Nat.zero_le _⟩) hS (fun q _ h => h) (fun q h => h) (fun u t H1 locs1 ht hvm hw hB hz1 hk1 hS1 => ?_)
  obtain ⟨hP1, -, -⟩ := hB
  rw [ht] at hP1
  exact kk u hw H1 locs1 ls hP1 hS1 h
theorem r_max (o : Ok X G cc nL own F Lo) {idx : Nat} (hlk : Cond.methodLink own idx Lib.Math.max.name ∈ TT) (hs : Cond.static Lib.Math.max.name ∈ TT) (hi : Cond.initialized "java/lang/Math" ∈ TT) (hcd : Cond.code Lib.Math.max.name Lib.Math.max.code 2 (some .int) ∈ TT) (hF : 1 ≤ F) (hL : (st.map fun v => v.category).sum + 13 ≤ Lo) {x y : Int32} (d : decode cc pc = .ok (.invokestatic idx, 3)) (kk : WS X G nL σ (pc + 3) lv (.int (if x < y then y else x) :: st)) : WS X G nL σ pc lv (.int y :: .int x :: st) := fun H locs ls hP hS h =>
  va_mmax o.1 o.2.1 (by rw [o.2.2.1]; exact h.1.symm) o.2.2.2.1 (o.2.2.2.2.1 _ hlk) (o.2.2.2.2.1 _ hs) (o.2.2.2.2.1 _ hi) (o.2.2.2.2.1 _ hcd) (by rw [o.2.2.2.2.2.2.2.1]; exact hF) (by rw [o.2.2.2.2.2.2.2.2.1]; exact hL) (Nat.zero_le _) (Nat.zero_le _) d (kk H locs ls hP hS h)
theorem r_min (o : Ok X G cc nL own F Lo) {idx : Nat} (hlk : Cond.methodLink own idx Lib.Math.min.name ∈ TT) (hs : Cond.static Lib.Math.min.name ∈ TT) (hi : Cond.initialized "java/lang/Math" ∈ TT) (hcd : Cond.code Lib.Math.min.name Lib.Math.min.code 2 (some .int) ∈ TT) (hF : 1 ≤ F) (hL : (st.map fun v => v.category).sum + 13 ≤ Lo) {x y : Int32} (d : decode cc pc = .ok (.invokestatic idx, 3)) (kk : WS X G nL σ (pc + 3) lv (.int (if y < x then y else x) :: st)) : WS X G nL σ pc lv (.int y :: .int x :: st) := fun H locs ls hP hS h =>
  va_mmin o.1 o.2.1 (by rw [o.2.2.1]; exact h.1.symm) o.2.2.2.1 (o.2.2.2.2.1 _ hlk) (o.2.2.2.2.1 _ hs) (o.2.2.2.2.1 _ hi) (o.2.2.2.2.1 _ hcd) (by rw [o.2.2.2.2.2.2.2.1]; exact hF) (by rw [o.2.2.2.2.2.2.2.2.1]; exact hL) (Nat.zero_le _) (Nat.zero_le _) d (kk H locs ls hP hS h)
end RC
end
section
theorem mw_0 : (Jvm.Cond.selects "RoundRows$Pad" ({ cls := "RoundRows$Pad", name := "canStand", desc := "(II)Z" } : Jvm.MethodName) ({ cls := "RoundRows$Pad", name := "canStand", desc := "(II)Z" } : Jvm.MethodName)) ∈ TT := mw 0 (by decide +kernel) (by decide +kernel)
theorem mw_1 : (Jvm.Cond.selects "RoundRows$Pad" ({ cls := "RoundRows$Pad", name := "digitAt", desc := "(I)I" } : Jvm.MethodName) ({ cls := "RoundRows$Pad", name := "digitAt", desc := "(I)I" } : Jvm.MethodName)) ∈ TT := mw 1 (by decide +kernel) (by decide +kernel)
theorem mw_2 : (Jvm.Cond.selects "RoundRows$Pad" ({ cls := "RoundRows$Pad", name := "canStandInYear", desc := "(III)Z" } : Jvm.MethodName) ({ cls := "RoundRows$Pad", name := "canStandInYear", desc := "(III)Z" } : Jvm.MethodName)) ∈ TT := mw 2 (by decide +kernel) (by decide +kernel)
theorem mw_3 : (Jvm.Cond.selects "RoundRows$Pad" ({ cls := "RoundRows$Pad", name := "twoDigitsAt", desc := "(I)I" } : Jvm.MethodName) ({ cls := "RoundRows$Pad", name := "twoDigitsAt", desc := "(I)I" } : Jvm.MethodName)) ∈ TT := mw 3 (by decide +kernel) (by decide +kernel)
theorem mw_4 : (Jvm.Cond.selects "RoundRows" ({ cls := "RoundRows", name := "refusalOf", desc := "(ZZ)I" } : Jvm.MethodName) ({ cls := "RoundRows", name := "refusalOf", desc := "(ZZ)I" } : Jvm.MethodName)) ∈ TT := mw 4 (by decide +kernel) (by decide +kernel)
theorem mw_5 : (Jvm.Cond.selects "RoundRows$Pad" ({ cls := "RoundRows$Pad", name := "workOne", desc := "(I[I)V" } : Jvm.MethodName) ({ cls := "RoundRows$Pad", name := "workOne", desc := "(I[I)V" } : Jvm.MethodName)) ∈ TT := mw 5 (by decide +kernel) (by decide +kernel)
theorem mw_6 : (Jvm.Cond.selects "RoundRows" ({ cls := "RoundRows", name := "putShare", desc := "(II)V" } : Jvm.MethodName) ({ cls := "RoundRows", name := "putShare", desc := "(II)V" } : Jvm.MethodName)) ∈ TT := mw 6 (by decide +kernel) (by decide +kernel)
theorem mw_7 : (Jvm.Cond.selects "RoundRows" ({ cls := "RoundRows", name := "takeRounds", desc := "(IIII)V" } : Jvm.MethodName) ({ cls := "RoundRows", name := "takeRounds", desc := "(IIII)V" } : Jvm.MethodName)) ∈ TT := mw 7 (by decide +kernel) (by decide +kernel)
theorem mw_8 : (Jvm.Cond.selects "RoundRows" ({ cls := "RoundRows", name := "oddsOfGreatest", desc := "(IIII)J" } : Jvm.MethodName) ({ cls := "RoundRows", name := "oddsOfGreatest", desc := "(IIII)J" } : Jvm.MethodName)) ∈ TT := mw 8 (by decide +kernel) (by decide +kernel)
theorem mw_9 : (Jvm.Cond.selects "RoundRows" ({ cls := "RoundRows", name := "countOrders", desc := "()V" } : Jvm.MethodName) ({ cls := "RoundRows", name := "countOrders", desc := "()V" } : Jvm.MethodName)) ∈ TT := mw 9 (by decide +kernel) (by decide +kernel)
theorem mw_10 : (Jvm.Cond.selects "RoundRows$Orders" ({ cls := "RoundRows$Orders", name := "swap", desc := "(II)V" } : Jvm.MethodName) ({ cls := "RoundRows$Orders", name := "swap", desc := "(II)V" } : Jvm.MethodName)) ∈ TT := mw 10 (by decide +kernel) (by decide +kernel)
theorem mw_11 : (Jvm.Cond.selects "RoundRows" ({ cls := "RoundRows", name := "takeTwo", desc := "(II)V" } : Jvm.MethodName) ({ cls := "RoundRows", name := "takeTwo", desc := "(II)V" } : Jvm.MethodName)) ∈ TT := mw 11 (by decide +kernel) (by decide +kernel)
theorem mw_12 : (Jvm.Cond.selects "RoundRows" ({ cls := "RoundRows", name := "putTogether", desc := "(ILRoundRows$Fraction;)V" } : Jvm.MethodName) ({ cls := "RoundRows", name := "putTogether", desc := "(ILRoundRows$Fraction;)V" } : Jvm.MethodName)) ∈ TT := mw 12 (by decide +kernel) (by decide +kernel)
theorem mw_13 : (Jvm.Cond.selects "RoundRows" ({ cls := "RoundRows", name := "lookLater", desc := "(II)V" } : Jvm.MethodName) ({ cls := "RoundRows", name := "lookLater", desc := "(II)V" } : Jvm.MethodName)) ∈ TT := mw 13 (by decide +kernel) (by decide +kernel)
theorem mw_14 : (Jvm.Cond.selects "RoundRows$Later" ({ cls := "RoundRows$Later", name := "lookAt", desc := "(LRoundRows$Dealt;I)V" } : Jvm.MethodName) ({ cls := "RoundRows$Later", name := "lookAt", desc := "(LRoundRows$Dealt;I)V" } : Jvm.MethodName)) ∈ TT := mw 14 (by decide +kernel) (by decide +kernel)
theorem mw_15 : (Jvm.Cond.selects "RoundRows$Later" ({ cls := "RoundRows$Later", name := "sideOfHeap", desc := "(LRoundRows$Dealt;IJ)I" } : Jvm.MethodName) ({ cls := "RoundRows$Later", name := "sideOfHeap", desc := "(LRoundRows$Dealt;IJ)I" } : Jvm.MethodName)) ∈ TT := mw 15 (by decide +kernel) (by decide +kernel)
theorem mw_16 : (Jvm.Cond.selects "RoundRowsModel" ({ cls := "RoundRowsModel", name := "mayStand", desc := "(II)Z" } : Jvm.MethodName) ({ cls := "RoundRowsModel", name := "mayStand", desc := "(II)Z" } : Jvm.MethodName)) ∈ TT := mw 16 (by decide +kernel) (by decide +kernel)
theorem mw_17 : (Jvm.Cond.selects "RoundRowsModel" ({ cls := "RoundRowsModel", name := "two", desc := "(I)I" } : Jvm.MethodName) ({ cls := "RoundRowsModel", name := "two", desc := "(I)I" } : Jvm.MethodName)) ∈ TT := mw 17 (by decide +kernel) (by decide +kernel)
theorem mw_18 : (Jvm.Cond.selects "RoundRowsModel" ({ cls := "RoundRowsModel", name := "deal", desc := "(I)V" } : Jvm.MethodName) ({ cls := "RoundRowsModel", name := "deal", desc := "(I)V" } : Jvm.MethodName)) ∈ TT := mw 18 (by decide +kernel) (by decide +kernel)
theorem mw_19 : (Jvm.Cond.selects "RoundRowsModel" ({ cls := "RoundRowsModel", name := "becomes", desc := "(II)I" } : Jvm.MethodName) ({ cls := "RoundRowsModel", name := "becomes", desc := "(II)I" } : Jvm.MethodName)) ∈ TT := mw 19 (by decide +kernel) (by decide +kernel)
theorem mw_20 : (Jvm.Cond.selects "RoundRowsModel" ({ cls := "RoundRowsModel", name := "wasAt", desc := "(I)I" } : Jvm.MethodName) ({ cls := "RoundRowsModel", name := "wasAt", desc := "(I)I" } : Jvm.MethodName)) ∈ TT := mw 20 (by decide +kernel) (by decide +kernel)
theorem mw_21 : (Jvm.Cond.selects "RoundRowsModel" ({ cls := "RoundRowsModel", name := "layNumbers", desc := "(I)V" } : Jvm.MethodName) ({ cls := "RoundRowsModel", name := "layNumbers", desc := "(I)V" } : Jvm.MethodName)) ∈ TT := mw 21 (by decide +kernel) (by decide +kernel)
theorem mw_22 : (Jvm.Cond.selects "RoundRowsModel" ({ cls := "RoundRowsModel", name := "lowerOf", desc := "()J" } : Jvm.MethodName) ({ cls := "RoundRowsModel", name := "lowerOf", desc := "()J" } : Jvm.MethodName)) ∈ TT := mw 22 (by decide +kernel) (by decide +kernel)
theorem mw_23 : (Jvm.Cond.selects "RoundRowsModel" ({ cls := "RoundRowsModel", name := "sumOf", desc := "()J" } : Jvm.MethodName) ({ cls := "RoundRowsModel", name := "sumOf", desc := "()J" } : Jvm.MethodName)) ∈ TT := mw 23 (by decide +kernel) (by decide +kernel)
theorem mw_24 : (Jvm.Cond.selects "RoundRowsModel" ({ cls := "RoundRowsModel", name := "upperOf", desc := "(I)J" } : Jvm.MethodName) ({ cls := "RoundRowsModel", name := "upperOf", desc := "(I)J" } : Jvm.MethodName)) ∈ TT := mw 24 (by decide +kernel) (by decide +kernel)
theorem mw_25 : (Jvm.Cond.selects "RoundRowsModel" ({ cls := "RoundRowsModel", name := "layHeaps", desc := "(I)V" } : Jvm.MethodName) ({ cls := "RoundRowsModel", name := "layHeaps", desc := "(I)V" } : Jvm.MethodName)) ∈ TT := mw 25 (by decide +kernel) (by decide +kernel)
theorem mw_26 : (Jvm.Cond.selects "RoundRowsModel" ({ cls := "RoundRowsModel", name := "oddsOf", desc := "(III)J" } : Jvm.MethodName) ({ cls := "RoundRowsModel", name := "oddsOf", desc := "(III)J" } : Jvm.MethodName)) ∈ TT := mw 26 (by decide +kernel) (by decide +kernel)
theorem mw_27 : (Jvm.Cond.selects "RoundRowsModel" ({ cls := "RoundRowsModel", name := "greatestOf", desc := "(II)J" } : Jvm.MethodName) ({ cls := "RoundRowsModel", name := "greatestOf", desc := "(II)J" } : Jvm.MethodName)) ∈ TT := mw 27 (by decide +kernel) (by decide +kernel)
theorem mw_28 : (Jvm.Cond.selects "RoundRowsModel" ({ cls := "RoundRowsModel", name := "exchange", desc := "(II)V" } : Jvm.MethodName) ({ cls := "RoundRowsModel", name := "exchange", desc := "(II)V" } : Jvm.MethodName)) ∈ TT := mw 28 (by decide +kernel) (by decide +kernel)
theorem mw_29 : (Jvm.Cond.selects "RoundRowsModel" ({ cls := "RoundRowsModel", name := "dealBoth", desc := "(II)V" } : Jvm.MethodName) ({ cls := "RoundRowsModel", name := "dealBoth", desc := "(II)V" } : Jvm.MethodName)) ∈ TT := mw 29 (by decide +kernel) (by decide +kernel)
theorem mw_30 : (Jvm.Cond.selects "RoundRowsModel" ({ cls := "RoundRowsModel", name := "findTogether", desc := "(I)V" } : Jvm.MethodName) ({ cls := "RoundRowsModel", name := "findTogether", desc := "(I)V" } : Jvm.MethodName)) ∈ TT := mw 30 (by decide +kernel) (by decide +kernel)
theorem mw_31 : (Jvm.Cond.selects "RoundRowsModel" ({ cls := "RoundRowsModel", name := "findHeld", desc := "(II)V" } : Jvm.MethodName) ({ cls := "RoundRowsModel", name := "findHeld", desc := "(II)V" } : Jvm.MethodName)) ∈ TT := mw 31 (by decide +kernel) (by decide +kernel)
theorem mw_32 : (Jvm.Cond.selects "RoundRowsModel" ({ cls := "RoundRowsModel", name := "isTrial", desc := "(I)Z" } : Jvm.MethodName) ({ cls := "RoundRowsModel", name := "isTrial", desc := "(I)Z" } : Jvm.MethodName)) ∈ TT := mw 32 (by decide +kernel) (by decide +kernel)
theorem mw_33 : (Jvm.Cond.selects "RoundRowsModel" ({ cls := "RoundRowsModel", name := "clubBy", desc := "(I)I" } : Jvm.MethodName) ({ cls := "RoundRowsModel", name := "clubBy", desc := "(I)I" } : Jvm.MethodName)) ∈ TT := mw 33 (by decide +kernel) (by decide +kernel)
theorem mw_34 : (Jvm.Cond.selects "RoundRowsModel" ({ cls := "RoundRowsModel", name := "goodBy", desc := "(I)I" } : Jvm.MethodName) ({ cls := "RoundRowsModel", name := "goodBy", desc := "(I)I" } : Jvm.MethodName)) ∈ TT := mw 34 (by decide +kernel) (by decide +kernel)
theorem mw_35 : (Jvm.Cond.initialized "RoundRowsLaw") ∈ TT := mw 35 (by decide +kernel) (by decide +kernel)
theorem mw_36 : (Jvm.Cond.initialized "RoundRows") ∈ TT := mw 36 (by decide +kernel) (by decide +kernel)
theorem mw_37 : (Jvm.Cond.initialized "RoundRows$Pad") ∈ TT := mw 37 (by decide +kernel) (by decide +kernel)
theorem mw_38 : (Jvm.Cond.initialized "RoundRows$Dealt") ∈ TT := mw 38 (by decide +kernel) (by decide +kernel)
theorem mw_39 : (Jvm.Cond.initialized "RoundRows$Rounds") ∈ TT := mw 39 (by decide +kernel) (by decide +kernel)
theorem mw_40 : (Jvm.Cond.initialized "RoundRows$Round") ∈ TT := mw 40 (by decide +kernel) (by decide +kernel)
theorem mw_41 : (Jvm.Cond.initialized "RoundRows$Orders") ∈ TT := mw 41 (by decide +kernel) (by decide +kernel)
theorem mw_42 : (Jvm.Cond.initialized "RoundRows$Later") ∈ TT := mw 42 (by decide +kernel) (by decide +kernel)
theorem mw_43 : (Jvm.Cond.initialized "RoundRows$Fraction") ∈ TT := mw 43 (by decide +kernel) (by decide +kernel)
theorem mw_44 : (Jvm.Cond.initialized "RoundRows$Drawer") ∈ TT := mw 44 (by decide +kernel) (by decide +kernel)
theorem mw_45 : (Jvm.Cond.initialized "RoundRows$Readers") ∈ TT := mw 45 (by decide +kernel) (by decide +kernel)
theorem mw_46 : (Jvm.Cond.initialized "RoundRowsModel") ∈ TT := mw 46 (by decide +kernel) (by decide +kernel)
theorem mw_47 : (Jvm.Cond.initialized "java/lang/Math") ∈ TT := mw 47 (by decide +kernel) (by decide +kernel)
theorem mw_48 : (Jvm.Cond.initialized "java/lang/Integer") ∈ TT := mw 48 (by decide +kernel) (by decide +kernel)
theorem mw_49 : (Jvm.Cond.initialized "java/lang/Long") ∈ TT := mw 49 (by decide +kernel) (by decide +kernel)
theorem mw_52 : (Jvm.Cond.methodLink "RoundRowsLaw" (9 : Nat) ({ cls := "RoundRows", name := "<init>", desc := "()V" } : Jvm.MethodName)) ∈ TT := mw 52 (by decide +kernel) (by decide +kernel)
theorem mw_53 : (Jvm.Cond.instanceMethod ({ cls := "RoundRows", name := "<init>", desc := "()V" } : Jvm.MethodName)) ∈ TT := mw 53 (by decide +kernel) (by decide +kernel)
theorem mw_54 : (Jvm.Cond.code ({ cls := "RoundRows", name := "<init>", desc := "()V" } : Jvm.MethodName) prog_1_method_1_code (3 : Nat) (Option.none : Option Jvm.ClassFile.FieldType)) ∈ TT := mw 54 (by decide +kernel) (by decide +kernel)
theorem mw_55 : (Jvm.Cond.methodLink "RoundRows" (3 : Nat) ({ cls := "java/lang/Object", name := "<init>", desc := "()V" } : Jvm.MethodName)) ∈ TT := mw 55 (by decide +kernel) (by decide +kernel)
theorem mw_56 : (Jvm.Cond.instanceMethod ({ cls := "java/lang/Object", name := "<init>", desc := "()V" } : Jvm.MethodName)) ∈ TT := mw 56 (by decide +kernel) (by decide +kernel)
theorem mw_57 : (Jvm.Cond.code ({ cls := "java/lang/Object", name := "<init>", desc := "()V" } : Jvm.MethodName) object_method_1_code (1 : Nat) (Option.none : Option Jvm.ClassFile.FieldType)) ∈ TT := mw 57 (by decide +kernel) (by decide +kernel)
theorem mw_62 : (Jvm.Cond.methodLinkNest "RoundRows" (16 : Nat) ({ cls := "RoundRows$Pad", name := "<init>", desc := "()V" } : Jvm.MethodName) "RoundRows") ∈ TT := mw 62 (by decide +kernel) (by decide +kernel)
theorem mw_63 : (Jvm.Cond.instanceMethod ({ cls := "RoundRows$Pad", name := "<init>", desc := "()V" } : Jvm.MethodName)) ∈ TT := mw 63 (by decide +kernel) (by decide +kernel)
theorem mw_64 : (Jvm.Cond.code ({ cls := "RoundRows$Pad", name := "<init>", desc := "()V" } : Jvm.MethodName) prog_7_method_1_code (1 : Nat) (Option.none : Option Jvm.ClassFile.FieldType)) ∈ TT := mw 64 (by decide +kernel) (by decide +kernel)
theorem mw_65 : (Jvm.Cond.methodLink "RoundRows$Pad" (3 : Nat) ({ cls := "java/lang/Object", name := "<init>", desc := "()V" } : Jvm.MethodName)) ∈ TT := mw 65 (by decide +kernel) (by decide +kernel)
theorem mw_66 : (Jvm.Cond.fieldLink "RoundRows$Pad" (9 : Nat) "RoundRows$Pad" "signs" "[I") ∈ TT := mw 66 (by decide +kernel) (by decide +kernel)
theorem mw_67 : (Jvm.Cond.fieldLink "RoundRows$Pad" (15 : Nat) "RoundRows$Pad" "count" "I") ∈ TT := mw 67 (by decide +kernel) (by decide +kernel)
theorem mw_68 : (Jvm.Cond.fieldLinkNest "RoundRows" (101 : Nat) "RoundRows$Pad" "count" "I" "RoundRows") ∈ TT := mw 68 (by decide +kernel) (by decide +kernel)
theorem mw_77 : (Jvm.Cond.methodLinkNest "RoundRows" (23 : Nat) ({ cls := "RoundRows$Dealt", name := "<init>", desc := "()V" } : Jvm.MethodName) "RoundRows") ∈ TT := mw 77 (by decide +kernel) (by decide +kernel)
theorem mw_78 : (Jvm.Cond.instanceMethod ({ cls := "RoundRows$Dealt", name := "<init>", desc := "()V" } : Jvm.MethodName)) ∈ TT := mw 78 (by decide +kernel) (by decide +kernel)
theorem mw_79 : (Jvm.Cond.code ({ cls := "RoundRows$Dealt", name := "<init>", desc := "()V" } : Jvm.MethodName) prog_2_method_1_code (1 : Nat) (Option.none : Option Jvm.ClassFile.FieldType)) ∈ TT := mw 79 (by decide +kernel) (by decide +kernel)
theorem mw_80 : (Jvm.Cond.methodLink "RoundRows$Dealt" (3 : Nat) ({ cls := "java/lang/Object", name := "<init>", desc := "()V" } : Jvm.MethodName)) ∈ TT := mw 80 (by decide +kernel) (by decide +kernel)
theorem mw_81 : (Jvm.Cond.fieldLink "RoundRows$Dealt" (9 : Nat) "RoundRows$Dealt" "byYear" "[I") ∈ TT := mw 81 (by decide +kernel) (by decide +kernel)
theorem mw_82 : (Jvm.Cond.fieldLinkNest "RoundRows$Later" (27 : Nat) "RoundRows$Dealt" "byYear" "[I" "RoundRows") ∈ TT := mw 82 (by decide +kernel) (by decide +kernel)
theorem mw_83 : (Jvm.Cond.fieldLinkNest "RoundRows" (120 : Nat) "RoundRows$Dealt" "byYear" "[I" "RoundRows") ∈ TT := mw 83 (by decide +kernel) (by decide +kernel)
theorem mw_84 : (Jvm.Cond.fieldLink "RoundRows$Dealt" (15 : Nat) "RoundRows$Dealt" "numbers" "[I") ∈ TT := mw 84 (by decide +kernel) (by decide +kernel)
theorem mw_85 : (Jvm.Cond.fieldLinkNest "RoundRows$Orders" (26 : Nat) "RoundRows$Dealt" "numbers" "[I" "RoundRows") ∈ TT := mw 85 (by decide +kernel) (by decide +kernel)
theorem mw_86 : (Jvm.Cond.fieldLinkNest "RoundRows$Later" (58 : Nat) "RoundRows$Dealt" "numbers" "[I" "RoundRows") ∈ TT := mw 86 (by decide +kernel) (by decide +kernel)
theorem mw_87 : (Jvm.Cond.fieldLinkNest "RoundRows" (149 : Nat) "RoundRows$Dealt" "numbers" "[I" "RoundRows") ∈ TT := mw 87 (by decide +kernel) (by decide +kernel)
theorem mw_88 : (Jvm.Cond.fieldLink "RoundRows$Dealt" (18 : Nat) "RoundRows$Dealt" "years" "[I") ∈ TT := mw 88 (by decide +kernel) (by decide +kernel)
theorem mw_89 : (Jvm.Cond.fieldLinkNest "RoundRows$Round" (26 : Nat) "RoundRows$Dealt" "years" "[I" "RoundRows") ∈ TT := mw 89 (by decide +kernel) (by decide +kernel)
theorem mw_90 : (Jvm.Cond.fieldLinkNest "RoundRows$Later" (55 : Nat) "RoundRows$Dealt" "years" "[I" "RoundRows") ∈ TT := mw 90 (by decide +kernel) (by decide +kernel)
theorem mw_91 : (Jvm.Cond.fieldLink "RoundRows$Dealt" (21 : Nat) "RoundRows$Dealt" "n" "I") ∈ TT := mw 91 (by decide +kernel) (by decide +kernel)
theorem mw_92 : (Jvm.Cond.fieldLinkNest "RoundRows$Orders" (23 : Nat) "RoundRows$Dealt" "n" "I" "RoundRows") ∈ TT := mw 92 (by decide +kernel) (by decide +kernel)
theorem mw_93 : (Jvm.Cond.fieldLinkNest "RoundRows$Round" (23 : Nat) "RoundRows$Dealt" "n" "I" "RoundRows") ∈ TT := mw 93 (by decide +kernel) (by decide +kernel)
theorem mw_94 : (Jvm.Cond.fieldLinkNest "RoundRows$Later" (42 : Nat) "RoundRows$Dealt" "n" "I" "RoundRows") ∈ TT := mw 94 (by decide +kernel) (by decide +kernel)
theorem mw_95 : (Jvm.Cond.fieldLinkNest "RoundRows" (290 : Nat) "RoundRows$Dealt" "n" "I" "RoundRows") ∈ TT := mw 95 (by decide +kernel) (by decide +kernel)
theorem mw_107 : (Jvm.Cond.methodLink "RoundRows" (33 : Nat) ({ cls := "RoundRows$Rounds", name := "<init>", desc := "()V" } : Jvm.MethodName)) ∈ TT := mw 107 (by decide +kernel) (by decide +kernel)
theorem mw_108 : (Jvm.Cond.instanceMethod ({ cls := "RoundRows$Rounds", name := "<init>", desc := "()V" } : Jvm.MethodName)) ∈ TT := mw 108 (by decide +kernel) (by decide +kernel)
theorem mw_109 : (Jvm.Cond.code ({ cls := "RoundRows$Rounds", name := "<init>", desc := "()V" } : Jvm.MethodName) prog_10_method_1_code (2 : Nat) (Option.none : Option Jvm.ClassFile.FieldType)) ∈ TT := mw 109 (by decide +kernel) (by decide +kernel)
theorem mw_110 : (Jvm.Cond.methodLink "RoundRows$Rounds" (3 : Nat) ({ cls := "java/lang/Object", name := "<init>", desc := "()V" } : Jvm.MethodName)) ∈ TT := mw 110 (by decide +kernel) (by decide +kernel)
theorem mw_114 : (Jvm.Cond.methodLinkNest "RoundRows$Rounds" (24 : Nat) ({ cls := "RoundRows$Round", name := "<init>", desc := "()V" } : Jvm.MethodName) "RoundRows") ∈ TT := mw 114 (by decide +kernel) (by decide +kernel)
theorem mw_115 : (Jvm.Cond.instanceMethod ({ cls := "RoundRows$Round", name := "<init>", desc := "()V" } : Jvm.MethodName)) ∈ TT := mw 115 (by decide +kernel) (by decide +kernel)
theorem mw_116 : (Jvm.Cond.code ({ cls := "RoundRows$Round", name := "<init>", desc := "()V" } : Jvm.MethodName) prog_9_method_1_code (1 : Nat) (Option.none : Option Jvm.ClassFile.FieldType)) ∈ TT := mw 116 (by decide +kernel) (by decide +kernel)
theorem mw_117 : (Jvm.Cond.methodLink "RoundRows$Round" (3 : Nat) ({ cls := "java/lang/Object", name := "<init>", desc := "()V" } : Jvm.MethodName)) ∈ TT := mw 117 (by decide +kernel) (by decide +kernel)
theorem mw_118 : (Jvm.Cond.fieldLink "RoundRows$Round" (9 : Nat) "RoundRows$Round" "places" "[I") ∈ TT := mw 118 (by decide +kernel) (by decide +kernel)
theorem mw_119 : (Jvm.Cond.fieldLink "RoundRows$Round" (15 : Nat) "RoundRows$Round" "weights" "[J") ∈ TT := mw 119 (by decide +kernel) (by decide +kernel)
theorem mw_120 : (Jvm.Cond.fieldLink "RoundRows$Round" (19 : Nat) "RoundRows$Round" "n" "I") ∈ TT := mw 120 (by decide +kernel) (by decide +kernel)
theorem mw_129 : (Jvm.Cond.fieldLink "RoundRows$Rounds" (11 : Nat) "RoundRows$Rounds" "ofLength" "[LRoundRows$Round;") ∈ TT := mw 129 (by decide +kernel) (by decide +kernel)
theorem mw_130 : (Jvm.Cond.fieldLink "RoundRows$Rounds" (17 : Nat) "RoundRows$Rounds" "from" "I") ∈ TT := mw 130 (by decide +kernel) (by decide +kernel)
theorem mw_131 : (Jvm.Cond.fieldLink "RoundRows$Rounds" (21 : Nat) "RoundRows$Rounds" "to" "I") ∈ TT := mw 131 (by decide +kernel) (by decide +kernel)
theorem mw_141 : (Jvm.Cond.methodLinkNest "RoundRows" (40 : Nat) ({ cls := "RoundRows$Orders", name := "<init>", desc := "()V" } : Jvm.MethodName) "RoundRows") ∈ TT := mw 141 (by decide +kernel) (by decide +kernel)
theorem mw_142 : (Jvm.Cond.instanceMethod ({ cls := "RoundRows$Orders", name := "<init>", desc := "()V" } : Jvm.MethodName)) ∈ TT := mw 142 (by decide +kernel) (by decide +kernel)
theorem mw_143 : (Jvm.Cond.code ({ cls := "RoundRows$Orders", name := "<init>", desc := "()V" } : Jvm.MethodName) prog_6_method_1_code (1 : Nat) (Option.none : Option Jvm.ClassFile.FieldType)) ∈ TT := mw 143 (by decide +kernel) (by decide +kernel)
theorem mw_144 : (Jvm.Cond.methodLink "RoundRows$Orders" (3 : Nat) ({ cls := "java/lang/Object", name := "<init>", desc := "()V" } : Jvm.MethodName)) ∈ TT := mw 144 (by decide +kernel) (by decide +kernel)
theorem mw_145 : (Jvm.Cond.fieldLink "RoundRows$Orders" (9 : Nat) "RoundRows$Orders" "numbers" "[I") ∈ TT := mw 145 (by decide +kernel) (by decide +kernel)
theorem mw_146 : (Jvm.Cond.fieldLinkNest "RoundRows" (163 : Nat) "RoundRows$Orders" "numbers" "[I" "RoundRows") ∈ TT := mw 146 (by decide +kernel) (by decide +kernel)
theorem mw_147 : (Jvm.Cond.fieldLink "RoundRows$Orders" (15 : Nat) "RoundRows$Orders" "n" "I") ∈ TT := mw 147 (by decide +kernel) (by decide +kernel)
theorem mw_148 : (Jvm.Cond.fieldLink "RoundRows$Orders" (19 : Nat) "RoundRows$Orders" "seed" "J") ∈ TT := mw 148 (by decide +kernel) (by decide +kernel)
theorem mw_158 : (Jvm.Cond.methodLinkNest "RoundRows" (47 : Nat) ({ cls := "RoundRows$Later", name := "<init>", desc := "()V" } : Jvm.MethodName) "RoundRows") ∈ TT := mw 158 (by decide +kernel) (by decide +kernel)
theorem mw_159 : (Jvm.Cond.instanceMethod ({ cls := "RoundRows$Later", name := "<init>", desc := "()V" } : Jvm.MethodName)) ∈ TT := mw 159 (by decide +kernel) (by decide +kernel)
theorem mw_160 : (Jvm.Cond.code ({ cls := "RoundRows$Later", name := "<init>", desc := "()V" } : Jvm.MethodName) prog_5_method_1_code (1 : Nat) (Option.none : Option Jvm.ClassFile.FieldType)) ∈ TT := mw 160 (by decide +kernel) (by decide +kernel)
theorem mw_161 : (Jvm.Cond.methodLink "RoundRows$Later" (3 : Nat) ({ cls := "java/lang/Object", name := "<init>", desc := "()V" } : Jvm.MethodName)) ∈ TT := mw 161 (by decide +kernel) (by decide +kernel)
theorem mw_162 : (Jvm.Cond.fieldLink "RoundRows$Later" (9 : Nat) "RoundRows$Later" "length" "I") ∈ TT := mw 162 (by decide +kernel) (by decide +kernel)
theorem mw_163 : (Jvm.Cond.fieldLinkNest "RoundRows" (195 : Nat) "RoundRows$Later" "length" "I" "RoundRows") ∈ TT := mw 163 (by decide +kernel) (by decide +kernel)
theorem mw_164 : (Jvm.Cond.fieldLink "RoundRows$Later" (15 : Nat) "RoundRows$Later" "held" "I") ∈ TT := mw 164 (by decide +kernel) (by decide +kernel)
theorem mw_165 : (Jvm.Cond.fieldLinkNest "RoundRows" (198 : Nat) "RoundRows$Later" "held" "I" "RoundRows") ∈ TT := mw 165 (by decide +kernel) (by decide +kernel)
theorem mw_166 : (Jvm.Cond.fieldLink "RoundRows$Later" (18 : Nat) "RoundRows$Later" "counted" "I") ∈ TT := mw 166 (by decide +kernel) (by decide +kernel)
theorem mw_167 : (Jvm.Cond.fieldLinkNest "RoundRows" (201 : Nat) "RoundRows$Later" "counted" "I" "RoundRows") ∈ TT := mw 167 (by decide +kernel) (by decide +kernel)
theorem mw_177 : (Jvm.Cond.methodLinkNest "RoundRows" (54 : Nat) ({ cls := "RoundRows$Fraction", name := "<init>", desc := "()V" } : Jvm.MethodName) "RoundRows") ∈ TT := mw 177 (by decide +kernel) (by decide +kernel)
theorem mw_178 : (Jvm.Cond.instanceMethod ({ cls := "RoundRows$Fraction", name := "<init>", desc := "()V" } : Jvm.MethodName)) ∈ TT := mw 178 (by decide +kernel) (by decide +kernel)
theorem mw_179 : (Jvm.Cond.code ({ cls := "RoundRows$Fraction", name := "<init>", desc := "()V" } : Jvm.MethodName) prog_4_method_1_code (1 : Nat) (Option.none : Option Jvm.ClassFile.FieldType)) ∈ TT := mw 179 (by decide +kernel) (by decide +kernel)
theorem mw_180 : (Jvm.Cond.methodLink "RoundRows$Fraction" (3 : Nat) ({ cls := "java/lang/Object", name := "<init>", desc := "()V" } : Jvm.MethodName)) ∈ TT := mw 180 (by decide +kernel) (by decide +kernel)
theorem mw_181 : (Jvm.Cond.fieldLink "RoundRows$Fraction" (9 : Nat) "RoundRows$Fraction" "upper" "J") ∈ TT := mw 181 (by decide +kernel) (by decide +kernel)
theorem mw_182 : (Jvm.Cond.fieldLink "RoundRows$Fraction" (15 : Nat) "RoundRows$Fraction" "lower" "J") ∈ TT := mw 182 (by decide +kernel) (by decide +kernel)
theorem mw_190 : (Jvm.Cond.methodLinkNest "RoundRows" (64 : Nat) ({ cls := "RoundRows$Drawer", name := "<init>", desc := "()V" } : Jvm.MethodName) "RoundRows") ∈ TT := mw 190 (by decide +kernel) (by decide +kernel)
theorem mw_191 : (Jvm.Cond.instanceMethod ({ cls := "RoundRows$Drawer", name := "<init>", desc := "()V" } : Jvm.MethodName)) ∈ TT := mw 191 (by decide +kernel) (by decide +kernel)
theorem mw_192 : (Jvm.Cond.code ({ cls := "RoundRows$Drawer", name := "<init>", desc := "()V" } : Jvm.MethodName) prog_3_method_1_code (1 : Nat) (Option.none : Option Jvm.ClassFile.FieldType)) ∈ TT := mw 192 (by decide +kernel) (by decide +kernel)
theorem mw_193 : (Jvm.Cond.methodLink "RoundRows$Drawer" (3 : Nat) ({ cls := "java/lang/Object", name := "<init>", desc := "()V" } : Jvm.MethodName)) ∈ TT := mw 193 (by decide +kernel) (by decide +kernel)
theorem mw_194 : (Jvm.Cond.fieldLink "RoundRows$Drawer" (9 : Nat) "RoundRows$Drawer" "rowOf" "[I") ∈ TT := mw 194 (by decide +kernel) (by decide +kernel)
theorem mw_195 : (Jvm.Cond.fieldLinkNest "RoundRows" (219 : Nat) "RoundRows$Drawer" "rowOf" "[I" "RoundRows") ∈ TT := mw 195 (by decide +kernel) (by decide +kernel)
theorem mw_196 : (Jvm.Cond.fieldLink "RoundRows$Drawer" (15 : Nat) "RoundRows$Drawer" "lengthOf" "[I") ∈ TT := mw 196 (by decide +kernel) (by decide +kernel)
theorem mw_197 : (Jvm.Cond.fieldLinkNest "RoundRows" (222 : Nat) "RoundRows$Drawer" "lengthOf" "[I" "RoundRows") ∈ TT := mw 197 (by decide +kernel) (by decide +kernel)
theorem mw_198 : (Jvm.Cond.fieldLink "RoundRows$Drawer" (18 : Nat) "RoundRows$Drawer" "percentOf" "[I") ∈ TT := mw 198 (by decide +kernel) (by decide +kernel)
theorem mw_199 : (Jvm.Cond.fieldLinkNest "RoundRows" (225 : Nat) "RoundRows$Drawer" "percentOf" "[I" "RoundRows") ∈ TT := mw 199 (by decide +kernel) (by decide +kernel)
theorem mw_200 : (Jvm.Cond.fieldLink "RoundRows$Drawer" (21 : Nat) "RoundRows$Drawer" "count" "I") ∈ TT := mw 200 (by decide +kernel) (by decide +kernel)
theorem mw_201 : (Jvm.Cond.fieldLinkNest "RoundRows" (215 : Nat) "RoundRows$Drawer" "count" "I" "RoundRows") ∈ TT := mw 201 (by decide +kernel) (by decide +kernel)
theorem mw_202 : (Jvm.Cond.fieldLink "RoundRows$Drawer" (25 : Nat) "RoundRows$Drawer" "printed" "I") ∈ TT := mw 202 (by decide +kernel) (by decide +kernel)
theorem mw_203 : (Jvm.Cond.fieldLinkNest "RoundRows$Readers" (34 : Nat) "RoundRows$Drawer" "printed" "I" "RoundRows") ∈ TT := mw 203 (by decide +kernel) (by decide +kernel)
theorem mw_204 : (Jvm.Cond.fieldLinkNest "RoundRows" (235 : Nat) "RoundRows$Drawer" "printed" "I" "RoundRows") ∈ TT := mw 204 (by decide +kernel) (by decide +kernel)
theorem mw_205 : (Jvm.Cond.fieldLink "RoundRows$Drawer" (28 : Nat) "RoundRows$Drawer" "trueOnes" "I") ∈ TT := mw 205 (by decide +kernel) (by decide +kernel)
theorem mw_206 : (Jvm.Cond.fieldLinkNest "RoundRows" (267 : Nat) "RoundRows$Drawer" "trueOnes" "I" "RoundRows") ∈ TT := mw 206 (by decide +kernel) (by decide +kernel)
theorem mw_222 : (Jvm.Cond.methodLinkNest "RoundRows" (71 : Nat) ({ cls := "RoundRows$Readers", name := "<init>", desc := "()V" } : Jvm.MethodName) "RoundRows") ∈ TT := mw 222 (by decide +kernel) (by decide +kernel)
theorem mw_223 : (Jvm.Cond.instanceMethod ({ cls := "RoundRows$Readers", name := "<init>", desc := "()V" } : Jvm.MethodName)) ∈ TT := mw 223 (by decide +kernel) (by decide +kernel)
theorem mw_224 : (Jvm.Cond.code ({ cls := "RoundRows$Readers", name := "<init>", desc := "()V" } : Jvm.MethodName) prog_8_method_1_code (1 : Nat) (Option.none : Option Jvm.ClassFile.FieldType)) ∈ TT := mw 224 (by decide +kernel) (by decide +kernel)
theorem mw_225 : (Jvm.Cond.methodLink "RoundRows$Readers" (3 : Nat) ({ cls := "java/lang/Object", name := "<init>", desc := "()V" } : Jvm.MethodName)) ∈ TT := mw 225 (by decide +kernel) (by decide +kernel)
theorem mw_226 : (Jvm.Cond.fieldLink "RoundRows$Readers" (9 : Nat) "RoundRows$Readers" "readBy" "[I") ∈ TT := mw 226 (by decide +kernel) (by decide +kernel)
theorem mw_227 : (Jvm.Cond.fieldLinkNest "RoundRows" (244 : Nat) "RoundRows$Readers" "readBy" "[I" "RoundRows") ∈ TT := mw 227 (by decide +kernel) (by decide +kernel)
theorem mw_228 : (Jvm.Cond.fieldLink "RoundRows$Readers" (15 : Nat) "RoundRows$Readers" "bar" "I") ∈ TT := mw 228 (by decide +kernel) (by decide +kernel)
theorem mw_229 : (Jvm.Cond.fieldLinkNest "RoundRows" (247 : Nat) "RoundRows$Readers" "bar" "I" "RoundRows") ∈ TT := mw 229 (by decide +kernel) (by decide +kernel)
theorem mw_235 : (Jvm.Cond.constant "RoundRows" (76 : Nat) (-1000000 : Int32)) ∈ TT := mw 235 (by decide +kernel) (by decide +kernel)
theorem mw_236 : (Jvm.Cond.fieldLink "RoundRows" (11 : Nat) "RoundRows" "rows" "[[I") ∈ TT := mw 236 (by decide +kernel) (by decide +kernel)
theorem mw_237 : (Jvm.Cond.fieldLink "RoundRows" (17 : Nat) "RoundRows" "pad" "LRoundRows$Pad;") ∈ TT := mw 237 (by decide +kernel) (by decide +kernel)
theorem mw_238 : (Jvm.Cond.fieldLink "RoundRows" (24 : Nat) "RoundRows" "dealtRow" "LRoundRows$Dealt;") ∈ TT := mw 238 (by decide +kernel) (by decide +kernel)
theorem mw_239 : (Jvm.Cond.fieldLink "RoundRows" (28 : Nat) "RoundRows" "otherRow" "LRoundRows$Dealt;") ∈ TT := mw 239 (by decide +kernel) (by decide +kernel)
theorem mw_240 : (Jvm.Cond.fieldLink "RoundRows" (34 : Nat) "RoundRows" "rounds" "LRoundRows$Rounds;") ∈ TT := mw 240 (by decide +kernel) (by decide +kernel)
theorem mw_241 : (Jvm.Cond.fieldLink "RoundRows" (41 : Nat) "RoundRows" "orders" "LRoundRows$Orders;") ∈ TT := mw 241 (by decide +kernel) (by decide +kernel)
theorem mw_242 : (Jvm.Cond.fieldLink "RoundRows" (48 : Nat) "RoundRows" "later" "LRoundRows$Later;") ∈ TT := mw 242 (by decide +kernel) (by decide +kernel)
theorem mw_243 : (Jvm.Cond.fieldLink "RoundRows" (55 : Nat) "RoundRows" "fraction" "LRoundRows$Fraction;") ∈ TT := mw 243 (by decide +kernel) (by decide +kernel)
theorem mw_244 : (Jvm.Cond.fieldLink "RoundRows" (59 : Nat) "RoundRows" "otherFraction" "LRoundRows$Fraction;") ∈ TT := mw 244 (by decide +kernel) (by decide +kernel)
theorem mw_245 : (Jvm.Cond.fieldLink "RoundRows" (65 : Nat) "RoundRows" "drawer" "LRoundRows$Drawer;") ∈ TT := mw 245 (by decide +kernel) (by decide +kernel)
theorem mw_246 : (Jvm.Cond.fieldLink "RoundRows" (72 : Nat) "RoundRows" "readers" "LRoundRows$Readers;") ∈ TT := mw 246 (by decide +kernel) (by decide +kernel)
theorem mw_270 : (Jvm.Cond.methodLink "RoundRowsLaw" (13 : Nat) ({ cls := "RoundRows", name := "year", desc := "(III)I" } : Jvm.MethodName)) ∈ TT := mw 270 (by decide +kernel) (by decide +kernel)
theorem mw_271 : (Jvm.Cond.instanceMethod ({ cls := "RoundRows", name := "year", desc := "(III)I" } : Jvm.MethodName)) ∈ TT := mw 271 (by decide +kernel) (by decide +kernel)
theorem mw_272 : (Jvm.Cond.selects "RoundRows" ({ cls := "RoundRows", name := "year", desc := "(III)I" } : Jvm.MethodName) ({ cls := "RoundRows", name := "year", desc := "(III)I" } : Jvm.MethodName)) ∈ TT := mw 272 (by decide +kernel) (by decide +kernel)
theorem mw_273 : (Jvm.Cond.code ({ cls := "RoundRows", name := "year", desc := "(III)I" } : Jvm.MethodName) prog_1_method_2_code (5 : Nat) (Option.some Jvm.ClassFile.FieldType.int)) ∈ TT := mw 273 (by decide +kernel) (by decide +kernel)
theorem mw_274 : (Jvm.Cond.methodLink "RoundRows" (77 : Nat) ({ cls := "RoundRows", name := "isRow", desc := "(I)Z" } : Jvm.MethodName)) ∈ TT := mw 274 (by decide +kernel) (by decide +kernel)
theorem mw_275 : (Jvm.Cond.static ({ cls := "RoundRows", name := "isRow", desc := "(I)Z" } : Jvm.MethodName)) ∈ TT := mw 275 (by decide +kernel) (by decide +kernel)
theorem mw_276 : (Jvm.Cond.code ({ cls := "RoundRows", name := "isRow", desc := "(I)Z" } : Jvm.MethodName) prog_1_method_29_code (1 : Nat) (Option.some Jvm.ClassFile.FieldType.boolean)) ∈ TT := mw 276 (by decide +kernel) (by decide +kernel)
theorem mw_277 : (Jvm.Cond.methodLink "RoundRows" (89 : Nat) ({ cls := "RoundRows", name := "isWithin", desc := "(III)Z" } : Jvm.MethodName)) ∈ TT := mw 277 (by decide +kernel) (by decide +kernel)
theorem mw_278 : (Jvm.Cond.static ({ cls := "RoundRows", name := "isWithin", desc := "(III)Z" } : Jvm.MethodName)) ∈ TT := mw 278 (by decide +kernel) (by decide +kernel)
theorem mw_279 : (Jvm.Cond.code ({ cls := "RoundRows", name := "isWithin", desc := "(III)Z" } : Jvm.MethodName) prog_1_method_28_code (3 : Nat) (Option.some Jvm.ClassFile.FieldType.boolean)) ∈ TT := mw 279 (by decide +kernel) (by decide +kernel)
theorem mw_280 : (Jvm.Cond.constant "RoundRows" (81 : Nat) (-1000001 : Int32)) ∈ TT := mw 280 (by decide +kernel) (by decide +kernel)
theorem mw_281 : (Jvm.Cond.methodLink "RoundRows" (82 : Nat) ({ cls := "RoundRows", name := "isYear", desc := "(I)Z" } : Jvm.MethodName)) ∈ TT := mw 281 (by decide +kernel) (by decide +kernel)
theorem mw_282 : (Jvm.Cond.static ({ cls := "RoundRows", name := "isYear", desc := "(I)Z" } : Jvm.MethodName)) ∈ TT := mw 282 (by decide +kernel) (by decide +kernel)
theorem mw_283 : (Jvm.Cond.code ({ cls := "RoundRows", name := "isYear", desc := "(I)Z" } : Jvm.MethodName) prog_1_method_30_code (1 : Nat) (Option.some Jvm.ClassFile.FieldType.boolean)) ∈ TT := mw 283 (by decide +kernel) (by decide +kernel)
theorem mw_284 : (Jvm.Cond.methodLink "RoundRows" (85 : Nat) ({ cls := "RoundRows", name := "isNumberOrNone", desc := "(I)Z" } : Jvm.MethodName)) ∈ TT := mw 284 (by decide +kernel) (by decide +kernel)
theorem mw_285 : (Jvm.Cond.static ({ cls := "RoundRows", name := "isNumberOrNone", desc := "(I)Z" } : Jvm.MethodName)) ∈ TT := mw 285 (by decide +kernel) (by decide +kernel)
theorem mw_286 : (Jvm.Cond.code ({ cls := "RoundRows", name := "isNumberOrNone", desc := "(I)Z" } : Jvm.MethodName) prog_1_method_34_code (1 : Nat) (Option.some Jvm.ClassFile.FieldType.boolean)) ∈ TT := mw 286 (by decide +kernel) (by decide +kernel)
theorem mw_287 : (Jvm.Cond.constant "RoundRows" (88 : Nat) (-1000002 : Int32)) ∈ TT := mw 287 (by decide +kernel) (by decide +kernel)
theorem mw_288 : (Jvm.Cond.methodLink "RoundRowsLaw" (18 : Nat) ({ cls := "RoundRows", name := "say", desc := "(I)I" } : Jvm.MethodName)) ∈ TT := mw 288 (by decide +kernel) (by decide +kernel)
theorem mw_289 : (Jvm.Cond.instanceMethod ({ cls := "RoundRows", name := "say", desc := "(I)I" } : Jvm.MethodName)) ∈ TT := mw 289 (by decide +kernel) (by decide +kernel)
theorem mw_290 : (Jvm.Cond.selects "RoundRows" ({ cls := "RoundRows", name := "say", desc := "(I)I" } : Jvm.MethodName) ({ cls := "RoundRows", name := "say", desc := "(I)I" } : Jvm.MethodName)) ∈ TT := mw 290 (by decide +kernel) (by decide +kernel)
theorem mw_291 : (Jvm.Cond.code ({ cls := "RoundRows", name := "say", desc := "(I)I" } : Jvm.MethodName) prog_1_method_3_code (2 : Nat) (Option.some Jvm.ClassFile.FieldType.int)) ∈ TT := mw 291 (by decide +kernel) (by decide +kernel)
theorem mw_292 : (Jvm.Cond.methodLink "RoundRows" (93 : Nat) ({ cls := "RoundRows$Pad", name := "isFull", desc := "()Z" } : Jvm.MethodName)) ∈ TT := mw 292 (by decide +kernel) (by decide +kernel)
theorem mw_293 : (Jvm.Cond.instanceMethod ({ cls := "RoundRows$Pad", name := "isFull", desc := "()Z" } : Jvm.MethodName)) ∈ TT := mw 293 (by decide +kernel) (by decide +kernel)
theorem mw_294 : (Jvm.Cond.selects "RoundRows$Pad" ({ cls := "RoundRows$Pad", name := "isFull", desc := "()Z" } : Jvm.MethodName) ({ cls := "RoundRows$Pad", name := "isFull", desc := "()Z" } : Jvm.MethodName)) ∈ TT := mw 294 (by decide +kernel) (by decide +kernel)
theorem mw_295 : (Jvm.Cond.code ({ cls := "RoundRows$Pad", name := "isFull", desc := "()Z" } : Jvm.MethodName) prog_7_method_2_code (1 : Nat) (Option.some Jvm.ClassFile.FieldType.boolean)) ∈ TT := mw 295 (by decide +kernel) (by decide +kernel)
theorem mw_296 : (Jvm.Cond.methodLink "RoundRows" (97 : Nat) ({ cls := "RoundRows$Pad", name := "add", desc := "(I)V" } : Jvm.MethodName)) ∈ TT := mw 296 (by decide +kernel) (by decide +kernel)
theorem mw_297 : (Jvm.Cond.instanceMethod ({ cls := "RoundRows$Pad", name := "add", desc := "(I)V" } : Jvm.MethodName)) ∈ TT := mw 297 (by decide +kernel) (by decide +kernel)
theorem mw_298 : (Jvm.Cond.selects "RoundRows$Pad" ({ cls := "RoundRows$Pad", name := "add", desc := "(I)V" } : Jvm.MethodName) ({ cls := "RoundRows$Pad", name := "add", desc := "(I)V" } : Jvm.MethodName)) ∈ TT := mw 298 (by decide +kernel) (by decide +kernel)
theorem mw_299 : (Jvm.Cond.code ({ cls := "RoundRows$Pad", name := "add", desc := "(I)V" } : Jvm.MethodName) prog_7_method_3_code (2 : Nat) (Option.none : Option Jvm.ClassFile.FieldType)) ∈ TT := mw 299 (by decide +kernel) (by decide +kernel)
theorem mw_300 : (Jvm.Cond.methodLink "RoundRows$Pad" (19 : Nat) ({ cls := "RoundRows$Pad", name := "isFull", desc := "()Z" } : Jvm.MethodName)) ∈ TT := mw 300 (by decide +kernel) (by decide +kernel)
theorem mw_301 : (Jvm.Cond.methodLink "RoundRowsLaw" (23 : Nat) ({ cls := "RoundRows", name := "wipe", desc := "()I" } : Jvm.MethodName)) ∈ TT := mw 301 (by decide +kernel) (by decide +kernel)
theorem mw_302 : (Jvm.Cond.instanceMethod ({ cls := "RoundRows", name := "wipe", desc := "()I" } : Jvm.MethodName)) ∈ TT := mw 302 (by decide +kernel) (by decide +kernel)
theorem mw_303 : (Jvm.Cond.selects "RoundRows" ({ cls := "RoundRows", name := "wipe", desc := "()I" } : Jvm.MethodName) ({ cls := "RoundRows", name := "wipe", desc := "()I" } : Jvm.MethodName)) ∈ TT := mw 303 (by decide +kernel) (by decide +kernel)
theorem mw_304 : (Jvm.Cond.code ({ cls := "RoundRows", name := "wipe", desc := "()I" } : Jvm.MethodName) prog_1_method_4_code (2 : Nat) (Option.some Jvm.ClassFile.FieldType.int)) ∈ TT := mw 304 (by decide +kernel) (by decide +kernel)
theorem mw_305 : (Jvm.Cond.methodLink "RoundRows" (105 : Nat) ({ cls := "RoundRows$Pad", name := "clear", desc := "()V" } : Jvm.MethodName)) ∈ TT := mw 305 (by decide +kernel) (by decide +kernel)
theorem mw_306 : (Jvm.Cond.instanceMethod ({ cls := "RoundRows$Pad", name := "clear", desc := "()V" } : Jvm.MethodName)) ∈ TT := mw 306 (by decide +kernel) (by decide +kernel)
theorem mw_307 : (Jvm.Cond.selects "RoundRows$Pad" ({ cls := "RoundRows$Pad", name := "clear", desc := "()V" } : Jvm.MethodName) ({ cls := "RoundRows$Pad", name := "clear", desc := "()V" } : Jvm.MethodName)) ∈ TT := mw 307 (by decide +kernel) (by decide +kernel)
theorem mw_308 : (Jvm.Cond.code ({ cls := "RoundRows$Pad", name := "clear", desc := "()V" } : Jvm.MethodName) prog_7_method_4_code (1 : Nat) (Option.none : Option Jvm.ClassFile.FieldType)) ∈ TT := mw 308 (by decide +kernel) (by decide +kernel)
theorem mw_309 : (Jvm.Cond.methodLink "RoundRowsLaw" (28 : Nat) ({ cls := "RoundRows", name := "fault", desc := "()I" } : Jvm.MethodName)) ∈ TT := mw 309 (by decide +kernel) (by decide +kernel)
theorem mw_310 : (Jvm.Cond.instanceMethod ({ cls := "RoundRows", name := "fault", desc := "()I" } : Jvm.MethodName)) ∈ TT := mw 310 (by decide +kernel) (by decide +kernel)
theorem mw_311 : (Jvm.Cond.selects "RoundRows" ({ cls := "RoundRows", name := "fault", desc := "()I" } : Jvm.MethodName) ({ cls := "RoundRows", name := "fault", desc := "()I" } : Jvm.MethodName)) ∈ TT := mw 311 (by decide +kernel) (by decide +kernel)
theorem mw_312 : (Jvm.Cond.code ({ cls := "RoundRows", name := "fault", desc := "()I" } : Jvm.MethodName) prog_1_method_5_code (1 : Nat) (Option.some Jvm.ClassFile.FieldType.int)) ∈ TT := mw 312 (by decide +kernel) (by decide +kernel)
theorem mw_313 : (Jvm.Cond.methodLink "RoundRows" (108 : Nat) ({ cls := "RoundRows$Pad", name := "firstFault", desc := "()I" } : Jvm.MethodName)) ∈ TT := mw 313 (by decide +kernel) (by decide +kernel)
theorem mw_314 : (Jvm.Cond.instanceMethod ({ cls := "RoundRows$Pad", name := "firstFault", desc := "()I" } : Jvm.MethodName)) ∈ TT := mw 314 (by decide +kernel) (by decide +kernel)
theorem mw_315 : (Jvm.Cond.selects "RoundRows$Pad" ({ cls := "RoundRows$Pad", name := "firstFault", desc := "()I" } : Jvm.MethodName) ({ cls := "RoundRows$Pad", name := "firstFault", desc := "()I" } : Jvm.MethodName)) ∈ TT := mw 315 (by decide +kernel) (by decide +kernel)
theorem mw_316 : (Jvm.Cond.code ({ cls := "RoundRows$Pad", name := "firstFault", desc := "()I" } : Jvm.MethodName) prog_7_method_5_code (4 : Nat) (Option.some Jvm.ClassFile.FieldType.int)) ∈ TT := mw 316 (by decide +kernel) (by decide +kernel)
theorem mw_317 : (Jvm.Cond.methodLink "RoundRows$Pad" (23 : Nat) ({ cls := "RoundRows$Pad", name := "digitsBehind", desc := "(I)I" } : Jvm.MethodName)) ∈ TT := mw 317 (by decide +kernel) (by decide +kernel)
theorem mw_318 : (Jvm.Cond.static ({ cls := "RoundRows$Pad", name := "digitsBehind", desc := "(I)I" } : Jvm.MethodName)) ∈ TT := mw 318 (by decide +kernel) (by decide +kernel)
theorem mw_319 : (Jvm.Cond.code ({ cls := "RoundRows$Pad", name := "digitsBehind", desc := "(I)I" } : Jvm.MethodName) prog_7_method_8_code (1 : Nat) (Option.some Jvm.ClassFile.FieldType.int)) ∈ TT := mw 319 (by decide +kernel) (by decide +kernel)
theorem mw_320 : (Jvm.Cond.methodLink "RoundRows$Pad" (27 : Nat) ({ cls := "RoundRows$Pad", name := "canStand", desc := "(II)Z" } : Jvm.MethodName)) ∈ TT := mw 320 (by decide +kernel) (by decide +kernel)
theorem mw_322 : (Jvm.Cond.instanceMethod ({ cls := "RoundRows$Pad", name := "canStand", desc := "(II)Z" } : Jvm.MethodName)) ∈ TT := mw 322 (by decide +kernel) (by decide +kernel)
theorem mw_323 : (Jvm.Cond.code ({ cls := "RoundRows$Pad", name := "canStand", desc := "(II)Z" } : Jvm.MethodName) prog_7_method_11_code (4 : Nat) (Option.some Jvm.ClassFile.FieldType.boolean)) ∈ TT := mw 323 (by decide +kernel) (by decide +kernel)
theorem mw_324 : (Jvm.Cond.methodLink "RoundRows$Pad" (41 : Nat) ({ cls := "RoundRows$Pad", name := "digitAt", desc := "(I)I" } : Jvm.MethodName)) ∈ TT := mw 324 (by decide +kernel) (by decide +kernel)
theorem mw_326 : (Jvm.Cond.instanceMethod ({ cls := "RoundRows$Pad", name := "digitAt", desc := "(I)I" } : Jvm.MethodName)) ∈ TT := mw 326 (by decide +kernel) (by decide +kernel)
theorem mw_327 : (Jvm.Cond.code ({ cls := "RoundRows$Pad", name := "digitAt", desc := "(I)I" } : Jvm.MethodName) prog_7_method_9_code (2 : Nat) (Option.some Jvm.ClassFile.FieldType.int)) ∈ TT := mw 327 (by decide +kernel) (by decide +kernel)
theorem mw_328 : (Jvm.Cond.methodLinkNest "RoundRows$Pad" (65 : Nat) ({ cls := "RoundRows", name := "isWithin", desc := "(III)Z" } : Jvm.MethodName) "RoundRows") ∈ TT := mw 328 (by decide +kernel) (by decide +kernel)
theorem mw_329 : (Jvm.Cond.methodLink "RoundRows$Pad" (69 : Nat) ({ cls := "RoundRows$Pad", name := "canStandInYear", desc := "(III)Z" } : Jvm.MethodName)) ∈ TT := mw 329 (by decide +kernel) (by decide +kernel)
theorem mw_331 : (Jvm.Cond.instanceMethod ({ cls := "RoundRows$Pad", name := "canStandInYear", desc := "(III)Z" } : Jvm.MethodName)) ∈ TT := mw 331 (by decide +kernel) (by decide +kernel)
theorem mw_332 : (Jvm.Cond.code ({ cls := "RoundRows$Pad", name := "canStandInYear", desc := "(III)Z" } : Jvm.MethodName) prog_7_method_12_code (5 : Nat) (Option.some Jvm.ClassFile.FieldType.boolean)) ∈ TT := mw 332 (by decide +kernel) (by decide +kernel)
theorem mw_333 : (Jvm.Cond.methodLink "RoundRows$Pad" (51 : Nat) ({ cls := "RoundRows$Pad", name := "twoDigitsAt", desc := "(I)I" } : Jvm.MethodName)) ∈ TT := mw 333 (by decide +kernel) (by decide +kernel)
theorem mw_335 : (Jvm.Cond.instanceMethod ({ cls := "RoundRows$Pad", name := "twoDigitsAt", desc := "(I)I" } : Jvm.MethodName)) ∈ TT := mw 335 (by decide +kernel) (by decide +kernel)
theorem mw_336 : (Jvm.Cond.code ({ cls := "RoundRows$Pad", name := "twoDigitsAt", desc := "(I)I" } : Jvm.MethodName) prog_7_method_10_code (2 : Nat) (Option.some Jvm.ClassFile.FieldType.int)) ∈ TT := mw 336 (by decide +kernel) (by decide +kernel)
theorem mw_337 : (Jvm.Cond.methodLink "RoundRowsLaw" (32 : Nat) ({ cls := "RoundRows", name := "dealt", desc := "(II)I" } : Jvm.MethodName)) ∈ TT := mw 337 (by decide +kernel) (by decide +kernel)
theorem mw_338 : (Jvm.Cond.instanceMethod ({ cls := "RoundRows", name := "dealt", desc := "(II)I" } : Jvm.MethodName)) ∈ TT := mw 338 (by decide +kernel) (by decide +kernel)
theorem mw_339 : (Jvm.Cond.selects "RoundRows" ({ cls := "RoundRows", name := "dealt", desc := "(II)I" } : Jvm.MethodName) ({ cls := "RoundRows", name := "dealt", desc := "(II)I" } : Jvm.MethodName)) ∈ TT := mw 339 (by decide +kernel) (by decide +kernel)
theorem mw_340 : (Jvm.Cond.code ({ cls := "RoundRows", name := "dealt", desc := "(II)I" } : Jvm.MethodName) prog_1_method_6_code (4 : Nat) (Option.some Jvm.ClassFile.FieldType.int)) ∈ TT := mw 340 (by decide +kernel) (by decide +kernel)
theorem mw_341 : (Jvm.Cond.methodLink "RoundRows" (112 : Nat) ({ cls := "RoundRows", name := "refusalOf", desc := "(ZZ)I" } : Jvm.MethodName)) ∈ TT := mw 341 (by decide +kernel) (by decide +kernel)
theorem mw_343 : (Jvm.Cond.instanceMethod ({ cls := "RoundRows", name := "refusalOf", desc := "(ZZ)I" } : Jvm.MethodName)) ∈ TT := mw 343 (by decide +kernel) (by decide +kernel)
theorem mw_344 : (Jvm.Cond.code ({ cls := "RoundRows", name := "refusalOf", desc := "(ZZ)I" } : Jvm.MethodName) prog_1_method_35_code (3 : Nat) (Option.some Jvm.ClassFile.FieldType.int)) ∈ TT := mw 344 (by decide +kernel) (by decide +kernel)
theorem mw_345 : (Jvm.Cond.methodLink "RoundRows" (116 : Nat) ({ cls := "RoundRows$Dealt", name := "take", desc := "([ILRoundRows$Pad;)V" } : Jvm.MethodName)) ∈ TT := mw 345 (by decide +kernel) (by decide +kernel)
theorem mw_346 : (Jvm.Cond.instanceMethod ({ cls := "RoundRows$Dealt", name := "take", desc := "([ILRoundRows$Pad;)V" } : Jvm.MethodName)) ∈ TT := mw 346 (by decide +kernel) (by decide +kernel)
theorem mw_347 : (Jvm.Cond.selects "RoundRows$Dealt" ({ cls := "RoundRows$Dealt", name := "take", desc := "([ILRoundRows$Pad;)V" } : Jvm.MethodName) ({ cls := "RoundRows$Dealt", name := "take", desc := "([ILRoundRows$Pad;)V" } : Jvm.MethodName)) ∈ TT := mw 347 (by decide +kernel) (by decide +kernel)
theorem mw_348 : (Jvm.Cond.code ({ cls := "RoundRows$Dealt", name := "take", desc := "([ILRoundRows$Pad;)V" } : Jvm.MethodName) prog_2_method_2_code (4 : Nat) (Option.none : Option Jvm.ClassFile.FieldType)) ∈ TT := mw 348 (by decide +kernel) (by decide +kernel)
theorem mw_349 : (Jvm.Cond.methodLink "RoundRows$Dealt" (25 : Nat) ({ cls := "RoundRows$Pad", name := "work", desc := "([I)V" } : Jvm.MethodName)) ∈ TT := mw 349 (by decide +kernel) (by decide +kernel)
theorem mw_350 : (Jvm.Cond.instanceMethod ({ cls := "RoundRows$Pad", name := "work", desc := "([I)V" } : Jvm.MethodName)) ∈ TT := mw 350 (by decide +kernel) (by decide +kernel)
theorem mw_351 : (Jvm.Cond.selects "RoundRows$Pad" ({ cls := "RoundRows$Pad", name := "work", desc := "([I)V" } : Jvm.MethodName) ({ cls := "RoundRows$Pad", name := "work", desc := "([I)V" } : Jvm.MethodName)) ∈ TT := mw 351 (by decide +kernel) (by decide +kernel)
theorem mw_352 : (Jvm.Cond.code ({ cls := "RoundRows$Pad", name := "work", desc := "([I)V" } : Jvm.MethodName) prog_7_method_6_code (3 : Nat) (Option.none : Option Jvm.ClassFile.FieldType)) ∈ TT := mw 352 (by decide +kernel) (by decide +kernel)
theorem mw_353 : (Jvm.Cond.methodLink "RoundRows$Pad" (31 : Nat) ({ cls := "RoundRows$Pad", name := "workOne", desc := "(I[I)V" } : Jvm.MethodName)) ∈ TT := mw 353 (by decide +kernel) (by decide +kernel)
theorem mw_355 : (Jvm.Cond.instanceMethod ({ cls := "RoundRows$Pad", name := "workOne", desc := "(I[I)V" } : Jvm.MethodName)) ∈ TT := mw 355 (by decide +kernel) (by decide +kernel)
theorem mw_356 : (Jvm.Cond.code ({ cls := "RoundRows$Pad", name := "workOne", desc := "(I[I)V" } : Jvm.MethodName) prog_7_method_7_code (3 : Nat) (Option.none : Option Jvm.ClassFile.FieldType)) ∈ TT := mw 356 (by decide +kernel) (by decide +kernel)
theorem mw_357 : (Jvm.Cond.methodLink "RoundRows$Pad" (44 : Nat) ({ cls := "RoundRows$Pad", name := "smooth", desc := "([II)V" } : Jvm.MethodName)) ∈ TT := mw 357 (by decide +kernel) (by decide +kernel)
theorem mw_358 : (Jvm.Cond.static ({ cls := "RoundRows$Pad", name := "smooth", desc := "([II)V" } : Jvm.MethodName)) ∈ TT := mw 358 (by decide +kernel) (by decide +kernel)
theorem mw_359 : (Jvm.Cond.code ({ cls := "RoundRows$Pad", name := "smooth", desc := "([II)V" } : Jvm.MethodName) prog_7_method_13_code (6 : Nat) (Option.none : Option Jvm.ClassFile.FieldType)) ∈ TT := mw 359 (by decide +kernel) (by decide +kernel)
theorem mw_360 : (Jvm.Cond.constant "RoundRows$Pad" (72 : Nat) (-1000000 : Int32)) ∈ TT := mw 360 (by decide +kernel) (by decide +kernel)
theorem mw_361 : (Jvm.Cond.methodLink "RoundRows$Pad" (73 : Nat) ({ cls := "RoundRows$Pad", name := "numberAt", desc := "([II)I" } : Jvm.MethodName)) ∈ TT := mw 361 (by decide +kernel) (by decide +kernel)
theorem mw_362 : (Jvm.Cond.static ({ cls := "RoundRows$Pad", name := "numberAt", desc := "([II)I" } : Jvm.MethodName)) ∈ TT := mw 362 (by decide +kernel) (by decide +kernel)
theorem mw_363 : (Jvm.Cond.code ({ cls := "RoundRows$Pad", name := "numberAt", desc := "([II)I" } : Jvm.MethodName) prog_7_method_18_code (2 : Nat) (Option.some Jvm.ClassFile.FieldType.int)) ∈ TT := mw 363 (by decide +kernel) (by decide +kernel)
theorem mw_364 : (Jvm.Cond.methodLinkNest "RoundRows$Pad" (80 : Nat) ({ cls := "RoundRows", name := "isYear", desc := "(I)Z" } : Jvm.MethodName) "RoundRows") ∈ TT := mw 364 (by decide +kernel) (by decide +kernel)
theorem mw_365 : (Jvm.Cond.methodLink "RoundRows$Pad" (77 : Nat) ({ cls := "RoundRows$Pad", name := "hold", desc := "(I)I" } : Jvm.MethodName)) ∈ TT := mw 365 (by decide +kernel) (by decide +kernel)
theorem mw_366 : (Jvm.Cond.static ({ cls := "RoundRows$Pad", name := "hold", desc := "(I)I" } : Jvm.MethodName)) ∈ TT := mw 366 (by decide +kernel) (by decide +kernel)
theorem mw_367 : (Jvm.Cond.code ({ cls := "RoundRows$Pad", name := "hold", desc := "(I)I" } : Jvm.MethodName) prog_7_method_19_code (1 : Nat) (Option.some Jvm.ClassFile.FieldType.int)) ∈ TT := mw 367 (by decide +kernel) (by decide +kernel)
theorem mw_368 : (Jvm.Cond.methodLink "RoundRows$Pad" (84 : Nat) ({ cls := "java/lang/Math", name := "min", desc := "(II)I" } : Jvm.MethodName)) ∈ TT := mw 368 (by decide +kernel) (by decide +kernel)
theorem mw_369 : (Jvm.Cond.static ({ cls := "java/lang/Math", name := "min", desc := "(II)I" } : Jvm.MethodName)) ∈ TT := mw 369 (by decide +kernel) (by decide +kernel)
theorem mw_370 : (Jvm.Cond.code ({ cls := "java/lang/Math", name := "min", desc := "(II)I" } : Jvm.MethodName) prog_15_method_69_code (2 : Nat) (Option.some Jvm.ClassFile.FieldType.int)) ∈ TT := mw 370 (by decide +kernel) (by decide +kernel)
theorem mw_371 : (Jvm.Cond.methodLink "RoundRows$Pad" (35 : Nat) ({ cls := "java/lang/Math", name := "max", desc := "(II)I" } : Jvm.MethodName)) ∈ TT := mw 371 (by decide +kernel) (by decide +kernel)
theorem mw_372 : (Jvm.Cond.static ({ cls := "java/lang/Math", name := "max", desc := "(II)I" } : Jvm.MethodName)) ∈ TT := mw 372 (by decide +kernel) (by decide +kernel)
theorem mw_373 : (Jvm.Cond.code ({ cls := "java/lang/Math", name := "max", desc := "(II)I" } : Jvm.MethodName) prog_15_method_65_code (2 : Nat) (Option.some Jvm.ClassFile.FieldType.int)) ∈ TT := mw 373 (by decide +kernel) (by decide +kernel)
theorem mw_374 : (Jvm.Cond.methodLink "RoundRows$Pad" (48 : Nat) ({ cls := "RoundRows$Pad", name := "lag", desc := "([II)V" } : Jvm.MethodName)) ∈ TT := mw 374 (by decide +kernel) (by decide +kernel)
theorem mw_375 : (Jvm.Cond.static ({ cls := "RoundRows$Pad", name := "lag", desc := "([II)V" } : Jvm.MethodName)) ∈ TT := mw 375 (by decide +kernel) (by decide +kernel)
theorem mw_376 : (Jvm.Cond.code ({ cls := "RoundRows$Pad", name := "lag", desc := "([II)V" } : Jvm.MethodName) prog_7_method_14_code (3 : Nat) (Option.none : Option Jvm.ClassFile.FieldType)) ∈ TT := mw 376 (by decide +kernel) (by decide +kernel)
theorem mw_377 : (Jvm.Cond.methodLink "RoundRows$Pad" (54 : Nat) ({ cls := "RoundRows$Pad", name := "turn", desc := "([II)V" } : Jvm.MethodName)) ∈ TT := mw 377 (by decide +kernel) (by decide +kernel)
theorem mw_378 : (Jvm.Cond.static ({ cls := "RoundRows$Pad", name := "turn", desc := "([II)V" } : Jvm.MethodName)) ∈ TT := mw 378 (by decide +kernel) (by decide +kernel)
theorem mw_379 : (Jvm.Cond.code ({ cls := "RoundRows$Pad", name := "turn", desc := "([II)V" } : Jvm.MethodName) prog_7_method_15_code (3 : Nat) (Option.none : Option Jvm.ClassFile.FieldType)) ∈ TT := mw 379 (by decide +kernel) (by decide +kernel)
theorem mw_380 : (Jvm.Cond.methodLink "RoundRows$Pad" (57 : Nat) ({ cls := "RoundRows$Pad", name := "cut", desc := "([III)V" } : Jvm.MethodName)) ∈ TT := mw 380 (by decide +kernel) (by decide +kernel)
theorem mw_381 : (Jvm.Cond.static ({ cls := "RoundRows$Pad", name := "cut", desc := "([III)V" } : Jvm.MethodName)) ∈ TT := mw 381 (by decide +kernel) (by decide +kernel)
theorem mw_382 : (Jvm.Cond.code ({ cls := "RoundRows$Pad", name := "cut", desc := "([III)V" } : Jvm.MethodName) prog_7_method_16_code (4 : Nat) (Option.none : Option Jvm.ClassFile.FieldType)) ∈ TT := mw 382 (by decide +kernel) (by decide +kernel)
theorem mw_383 : (Jvm.Cond.methodLink "RoundRows$Pad" (61 : Nat) ({ cls := "RoundRows$Pad", name := "differ", desc := "([I)V" } : Jvm.MethodName)) ∈ TT := mw 383 (by decide +kernel) (by decide +kernel)
theorem mw_384 : (Jvm.Cond.static ({ cls := "RoundRows$Pad", name := "differ", desc := "([I)V" } : Jvm.MethodName)) ∈ TT := mw 384 (by decide +kernel) (by decide +kernel)
theorem mw_385 : (Jvm.Cond.code ({ cls := "RoundRows$Pad", name := "differ", desc := "([I)V" } : Jvm.MethodName) prog_7_method_17_code (4 : Nat) (Option.none : Option Jvm.ClassFile.FieldType)) ∈ TT := mw 385 (by decide +kernel) (by decide +kernel)
theorem mw_386 : (Jvm.Cond.methodLink "RoundRowsLaw" (37 : Nat) ({ cls := "RoundRows", name := "share", desc := "(III)J" } : Jvm.MethodName)) ∈ TT := mw 386 (by decide +kernel) (by decide +kernel)
theorem mw_387 : (Jvm.Cond.instanceMethod ({ cls := "RoundRows", name := "share", desc := "(III)J" } : Jvm.MethodName)) ∈ TT := mw 387 (by decide +kernel) (by decide +kernel)
theorem mw_388 : (Jvm.Cond.selects "RoundRows" ({ cls := "RoundRows", name := "share", desc := "(III)J" } : Jvm.MethodName) ({ cls := "RoundRows", name := "share", desc := "(III)J" } : Jvm.MethodName)) ∈ TT := mw 388 (by decide +kernel) (by decide +kernel)
theorem mw_389 : (Jvm.Cond.code ({ cls := "RoundRows", name := "share", desc := "(III)J" } : Jvm.MethodName) prog_1_method_7_code (5 : Nat) (Option.some Jvm.ClassFile.FieldType.long)) ∈ TT := mw 389 (by decide +kernel) (by decide +kernel)
theorem mw_390 : (Jvm.Cond.methodLink "RoundRows" (124 : Nat) ({ cls := "RoundRows", name := "isLength", desc := "(I)Z" } : Jvm.MethodName)) ∈ TT := mw 390 (by decide +kernel) (by decide +kernel)
theorem mw_391 : (Jvm.Cond.static ({ cls := "RoundRows", name := "isLength", desc := "(I)Z" } : Jvm.MethodName)) ∈ TT := mw 391 (by decide +kernel) (by decide +kernel)
theorem mw_392 : (Jvm.Cond.code ({ cls := "RoundRows", name := "isLength", desc := "(I)Z" } : Jvm.MethodName) prog_1_method_32_code (1 : Nat) (Option.some Jvm.ClassFile.FieldType.boolean)) ∈ TT := mw 392 (by decide +kernel) (by decide +kernel)
theorem mw_393 : (Jvm.Cond.methodLink "RoundRows" (127 : Nat) ({ cls := "RoundRows", name := "isPart", desc := "(I)Z" } : Jvm.MethodName)) ∈ TT := mw 393 (by decide +kernel) (by decide +kernel)
theorem mw_394 : (Jvm.Cond.static ({ cls := "RoundRows", name := "isPart", desc := "(I)Z" } : Jvm.MethodName)) ∈ TT := mw 394 (by decide +kernel) (by decide +kernel)
theorem mw_395 : (Jvm.Cond.code ({ cls := "RoundRows", name := "isPart", desc := "(I)Z" } : Jvm.MethodName) prog_1_method_33_code (1 : Nat) (Option.some Jvm.ClassFile.FieldType.boolean)) ∈ TT := mw 395 (by decide +kernel) (by decide +kernel)
theorem mw_396 : (Jvm.Cond.constantLong "RoundRows" (130 : Nat) (-1000000000000000000 : Int64)) ∈ TT := mw 396 (by decide +kernel) (by decide +kernel)
theorem mw_397 : (Jvm.Cond.methodLink "RoundRows" (132 : Nat) ({ cls := "RoundRows", name := "putShare", desc := "(II)V" } : Jvm.MethodName)) ∈ TT := mw 397 (by decide +kernel) (by decide +kernel)
theorem mw_399 : (Jvm.Cond.instanceMethod ({ cls := "RoundRows", name := "putShare", desc := "(II)V" } : Jvm.MethodName)) ∈ TT := mw 399 (by decide +kernel) (by decide +kernel)
theorem mw_400 : (Jvm.Cond.code ({ cls := "RoundRows", name := "putShare", desc := "(II)V" } : Jvm.MethodName) prog_1_method_39_code (9 : Nat) (Option.none : Option Jvm.ClassFile.FieldType)) ∈ TT := mw 400 (by decide +kernel) (by decide +kernel)
theorem mw_401 : (Jvm.Cond.methodLink "RoundRows" (145 : Nat) ({ cls := "RoundRows", name := "takeRounds", desc := "(IIII)V" } : Jvm.MethodName)) ∈ TT := mw 401 (by decide +kernel) (by decide +kernel)
theorem mw_403 : (Jvm.Cond.instanceMethod ({ cls := "RoundRows", name := "takeRounds", desc := "(IIII)V" } : Jvm.MethodName)) ∈ TT := mw 403 (by decide +kernel) (by decide +kernel)
theorem mw_404 : (Jvm.Cond.code ({ cls := "RoundRows", name := "takeRounds", desc := "(IIII)V" } : Jvm.MethodName) prog_1_method_37_code (5 : Nat) (Option.none : Option Jvm.ClassFile.FieldType)) ∈ TT := mw 404 (by decide +kernel) (by decide +kernel)
theorem mw_405 : (Jvm.Cond.methodLink "RoundRows" (283 : Nat) ({ cls := "RoundRows$Dealt", name := "gather", desc := "(I)V" } : Jvm.MethodName)) ∈ TT := mw 405 (by decide +kernel) (by decide +kernel)
theorem mw_406 : (Jvm.Cond.instanceMethod ({ cls := "RoundRows$Dealt", name := "gather", desc := "(I)V" } : Jvm.MethodName)) ∈ TT := mw 406 (by decide +kernel) (by decide +kernel)
theorem mw_407 : (Jvm.Cond.selects "RoundRows$Dealt" ({ cls := "RoundRows$Dealt", name := "gather", desc := "(I)V" } : Jvm.MethodName) ({ cls := "RoundRows$Dealt", name := "gather", desc := "(I)V" } : Jvm.MethodName)) ∈ TT := mw 407 (by decide +kernel) (by decide +kernel)
theorem mw_408 : (Jvm.Cond.code ({ cls := "RoundRows$Dealt", name := "gather", desc := "(I)V" } : Jvm.MethodName) prog_2_method_3_code (3 : Nat) (Option.none : Option Jvm.ClassFile.FieldType)) ∈ TT := mw 408 (by decide +kernel) (by decide +kernel)
theorem mw_409 : (Jvm.Cond.constant "RoundRows$Dealt" (31 : Nat) (-1000000 : Int32)) ∈ TT := mw 409 (by decide +kernel) (by decide +kernel)
theorem mw_410 : (Jvm.Cond.methodLink "RoundRows" (286 : Nat) ({ cls := "RoundRows$Rounds", name := "lay", desc := "(LRoundRows$Dealt;II)V" } : Jvm.MethodName)) ∈ TT := mw 410 (by decide +kernel) (by decide +kernel)
theorem mw_411 : (Jvm.Cond.instanceMethod ({ cls := "RoundRows$Rounds", name := "lay", desc := "(LRoundRows$Dealt;II)V" } : Jvm.MethodName)) ∈ TT := mw 411 (by decide +kernel) (by decide +kernel)
theorem mw_412 : (Jvm.Cond.selects "RoundRows$Rounds" ({ cls := "RoundRows$Rounds", name := "lay", desc := "(LRoundRows$Dealt;II)V" } : Jvm.MethodName) ({ cls := "RoundRows$Rounds", name := "lay", desc := "(LRoundRows$Dealt;II)V" } : Jvm.MethodName)) ∈ TT := mw 412 (by decide +kernel) (by decide +kernel)
theorem mw_413 : (Jvm.Cond.code ({ cls := "RoundRows$Rounds", name := "lay", desc := "(LRoundRows$Dealt;II)V" } : Jvm.MethodName) prog_10_method_2_code (5 : Nat) (Option.none : Option Jvm.ClassFile.FieldType)) ∈ TT := mw 413 (by decide +kernel) (by decide +kernel)
theorem mw_414 : (Jvm.Cond.methodLink "RoundRows$Rounds" (25 : Nat) ({ cls := "java/lang/Math", name := "min", desc := "(II)I" } : Jvm.MethodName)) ∈ TT := mw 414 (by decide +kernel) (by decide +kernel)
theorem mw_415 : (Jvm.Cond.methodLink "RoundRows$Rounds" (31 : Nat) ({ cls := "java/lang/Math", name := "max", desc := "(II)I" } : Jvm.MethodName)) ∈ TT := mw 415 (by decide +kernel) (by decide +kernel)
theorem mw_416 : (Jvm.Cond.methodLink "RoundRows$Rounds" (34 : Nat) ({ cls := "RoundRows$Round", name := "lay", desc := "(LRoundRows$Dealt;I)V" } : Jvm.MethodName)) ∈ TT := mw 416 (by decide +kernel) (by decide +kernel)
theorem mw_417 : (Jvm.Cond.instanceMethod ({ cls := "RoundRows$Round", name := "lay", desc := "(LRoundRows$Dealt;I)V" } : Jvm.MethodName)) ∈ TT := mw 417 (by decide +kernel) (by decide +kernel)
theorem mw_418 : (Jvm.Cond.selects "RoundRows$Round" ({ cls := "RoundRows$Round", name := "lay", desc := "(LRoundRows$Dealt;I)V" } : Jvm.MethodName) ({ cls := "RoundRows$Round", name := "lay", desc := "(LRoundRows$Dealt;I)V" } : Jvm.MethodName)) ∈ TT := mw 418 (by decide +kernel) (by decide +kernel)
theorem mw_419 : (Jvm.Cond.code ({ cls := "RoundRows$Round", name := "lay", desc := "(LRoundRows$Dealt;I)V" } : Jvm.MethodName) prog_9_method_2_code (6 : Nat) (Option.none : Option Jvm.ClassFile.FieldType)) ∈ TT := mw 419 (by decide +kernel) (by decide +kernel)
theorem mw_420 : (Jvm.Cond.methodLink "RoundRows" (293 : Nat) ({ cls := "RoundRows$Dealt", name := "sum", desc := "()J" } : Jvm.MethodName)) ∈ TT := mw 420 (by decide +kernel) (by decide +kernel)
theorem mw_421 : (Jvm.Cond.instanceMethod ({ cls := "RoundRows$Dealt", name := "sum", desc := "()J" } : Jvm.MethodName)) ∈ TT := mw 421 (by decide +kernel) (by decide +kernel)
theorem mw_422 : (Jvm.Cond.selects "RoundRows$Dealt" ({ cls := "RoundRows$Dealt", name := "sum", desc := "()J" } : Jvm.MethodName) ({ cls := "RoundRows$Dealt", name := "sum", desc := "()J" } : Jvm.MethodName)) ∈ TT := mw 422 (by decide +kernel) (by decide +kernel)
theorem mw_423 : (Jvm.Cond.code ({ cls := "RoundRows$Dealt", name := "sum", desc := "()J" } : Jvm.MethodName) prog_2_method_4_code (4 : Nat) (Option.some Jvm.ClassFile.FieldType.long)) ∈ TT := mw 423 (by decide +kernel) (by decide +kernel)
theorem mw_424 : (Jvm.Cond.methodLink "RoundRows" (152 : Nat) ({ cls := "RoundRows$Rounds", name := "greatest", desc := "([I)J" } : Jvm.MethodName)) ∈ TT := mw 424 (by decide +kernel) (by decide +kernel)
theorem mw_425 : (Jvm.Cond.instanceMethod ({ cls := "RoundRows$Rounds", name := "greatest", desc := "([I)J" } : Jvm.MethodName)) ∈ TT := mw 425 (by decide +kernel) (by decide +kernel)
theorem mw_426 : (Jvm.Cond.selects "RoundRows$Rounds" ({ cls := "RoundRows$Rounds", name := "greatest", desc := "([I)J" } : Jvm.MethodName) ({ cls := "RoundRows$Rounds", name := "greatest", desc := "([I)J" } : Jvm.MethodName)) ∈ TT := mw 426 (by decide +kernel) (by decide +kernel)
theorem mw_427 : (Jvm.Cond.code ({ cls := "RoundRows$Rounds", name := "greatest", desc := "([I)J" } : Jvm.MethodName) prog_10_method_4_code (2 : Nat) (Option.some Jvm.ClassFile.FieldType.long)) ∈ TT := mw 427 (by decide +kernel) (by decide +kernel)
theorem mw_428 : (Jvm.Cond.methodLink "RoundRows$Rounds" (44 : Nat) ({ cls := "RoundRows$Rounds", name := "firstGreatest", desc := "([I)I" } : Jvm.MethodName)) ∈ TT := mw 428 (by decide +kernel) (by decide +kernel)
theorem mw_429 : (Jvm.Cond.instanceMethod ({ cls := "RoundRows$Rounds", name := "firstGreatest", desc := "([I)I" } : Jvm.MethodName)) ∈ TT := mw 429 (by decide +kernel) (by decide +kernel)
theorem mw_430 : (Jvm.Cond.selects "RoundRows$Rounds" ({ cls := "RoundRows$Rounds", name := "firstGreatest", desc := "([I)I" } : Jvm.MethodName) ({ cls := "RoundRows$Rounds", name := "firstGreatest", desc := "([I)I" } : Jvm.MethodName)) ∈ TT := mw 430 (by decide +kernel) (by decide +kernel)
theorem mw_431 : (Jvm.Cond.code ({ cls := "RoundRows$Rounds", name := "firstGreatest", desc := "([I)I" } : Jvm.MethodName) prog_10_method_3_code (8 : Nat) (Option.some Jvm.ClassFile.FieldType.int)) ∈ TT := mw 431 (by decide +kernel) (by decide +kernel)
theorem mw_432 : (Jvm.Cond.constantLong "RoundRows$Rounds" (38 : Nat) (-1 : Int64)) ∈ TT := mw 432 (by decide +kernel) (by decide +kernel)
theorem mw_433 : (Jvm.Cond.methodLink "RoundRows$Rounds" (40 : Nat) ({ cls := "RoundRows$Round", name := "weigh", desc := "([I)J" } : Jvm.MethodName)) ∈ TT := mw 433 (by decide +kernel) (by decide +kernel)
theorem mw_434 : (Jvm.Cond.instanceMethod ({ cls := "RoundRows$Round", name := "weigh", desc := "([I)J" } : Jvm.MethodName)) ∈ TT := mw 434 (by decide +kernel) (by decide +kernel)
theorem mw_435 : (Jvm.Cond.selects "RoundRows$Round" ({ cls := "RoundRows$Round", name := "weigh", desc := "([I)J" } : Jvm.MethodName) ({ cls := "RoundRows$Round", name := "weigh", desc := "([I)J" } : Jvm.MethodName)) ∈ TT := mw 435 (by decide +kernel) (by decide +kernel)
theorem mw_436 : (Jvm.Cond.code ({ cls := "RoundRows$Round", name := "weigh", desc := "([I)J" } : Jvm.MethodName) prog_9_method_3_code (7 : Nat) (Option.some Jvm.ClassFile.FieldType.long)) ∈ TT := mw 436 (by decide +kernel) (by decide +kernel)
theorem mw_437 : (Jvm.Cond.constantLong "RoundRows" (297 : Nat) (27720 : Int64)) ∈ TT := mw 437 (by decide +kernel) (by decide +kernel)
theorem mw_438 : (Jvm.Cond.methodLink "RoundRows" (299 : Nat) ({ cls := "RoundRows$Dealt", name := "squares", desc := "()J" } : Jvm.MethodName)) ∈ TT := mw 438 (by decide +kernel) (by decide +kernel)
theorem mw_439 : (Jvm.Cond.instanceMethod ({ cls := "RoundRows$Dealt", name := "squares", desc := "()J" } : Jvm.MethodName)) ∈ TT := mw 439 (by decide +kernel) (by decide +kernel)
theorem mw_440 : (Jvm.Cond.selects "RoundRows$Dealt" ({ cls := "RoundRows$Dealt", name := "squares", desc := "()J" } : Jvm.MethodName) ({ cls := "RoundRows$Dealt", name := "squares", desc := "()J" } : Jvm.MethodName)) ∈ TT := mw 440 (by decide +kernel) (by decide +kernel)
theorem mw_441 : (Jvm.Cond.code ({ cls := "RoundRows$Dealt", name := "squares", desc := "()J" } : Jvm.MethodName) prog_2_method_5_code (4 : Nat) (Option.some Jvm.ClassFile.FieldType.long)) ∈ TT := mw 441 (by decide +kernel) (by decide +kernel)
theorem mw_442 : (Jvm.Cond.methodLink "RoundRows" (185 : Nat) ({ cls := "RoundRows$Fraction", name := "put", desc := "(JJ)V" } : Jvm.MethodName)) ∈ TT := mw 442 (by decide +kernel) (by decide +kernel)
theorem mw_443 : (Jvm.Cond.instanceMethod ({ cls := "RoundRows$Fraction", name := "put", desc := "(JJ)V" } : Jvm.MethodName)) ∈ TT := mw 443 (by decide +kernel) (by decide +kernel)
theorem mw_444 : (Jvm.Cond.selects "RoundRows$Fraction" ({ cls := "RoundRows$Fraction", name := "put", desc := "(JJ)V" } : Jvm.MethodName) ({ cls := "RoundRows$Fraction", name := "put", desc := "(JJ)V" } : Jvm.MethodName)) ∈ TT := mw 444 (by decide +kernel) (by decide +kernel)
theorem mw_445 : (Jvm.Cond.code ({ cls := "RoundRows$Fraction", name := "put", desc := "(JJ)V" } : Jvm.MethodName) prog_4_method_2_code (7 : Nat) (Option.none : Option Jvm.ClassFile.FieldType)) ∈ TT := mw 445 (by decide +kernel) (by decide +kernel)
theorem mw_446 : (Jvm.Cond.methodLink "RoundRows$Fraction" (18 : Nat) ({ cls := "java/lang/Math", name := "abs", desc := "(J)J" } : Jvm.MethodName)) ∈ TT := mw 446 (by decide +kernel) (by decide +kernel)
theorem mw_447 : (Jvm.Cond.static ({ cls := "java/lang/Math", name := "abs", desc := "(J)J" } : Jvm.MethodName)) ∈ TT := mw 447 (by decide +kernel) (by decide +kernel)
theorem mw_448 : (Jvm.Cond.code ({ cls := "java/lang/Math", name := "abs", desc := "(J)J" } : Jvm.MethodName) prog_15_method_61_code (2 : Nat) (Option.some Jvm.ClassFile.FieldType.long)) ∈ TT := mw 448 (by decide +kernel) (by decide +kernel)
theorem mw_449 : (Jvm.Cond.methodLink "RoundRows$Fraction" (24 : Nat) ({ cls := "RoundRows$Fraction", name := "commonDivisor", desc := "(JJ)J" } : Jvm.MethodName)) ∈ TT := mw 449 (by decide +kernel) (by decide +kernel)
theorem mw_450 : (Jvm.Cond.static ({ cls := "RoundRows$Fraction", name := "commonDivisor", desc := "(JJ)J" } : Jvm.MethodName)) ∈ TT := mw 450 (by decide +kernel) (by decide +kernel)
theorem mw_451 : (Jvm.Cond.code ({ cls := "RoundRows$Fraction", name := "commonDivisor", desc := "(JJ)J" } : Jvm.MethodName) prog_4_method_6_code (11 : Nat) (Option.some Jvm.ClassFile.FieldType.long)) ∈ TT := mw 451 (by decide +kernel) (by decide +kernel)
theorem mw_452 : (Jvm.Cond.methodLink "RoundRows" (136 : Nat) ({ cls := "RoundRows$Fraction", name := "partOf", desc := "(I)J" } : Jvm.MethodName)) ∈ TT := mw 452 (by decide +kernel) (by decide +kernel)
theorem mw_453 : (Jvm.Cond.instanceMethod ({ cls := "RoundRows$Fraction", name := "partOf", desc := "(I)J" } : Jvm.MethodName)) ∈ TT := mw 453 (by decide +kernel) (by decide +kernel)
theorem mw_454 : (Jvm.Cond.selects "RoundRows$Fraction" ({ cls := "RoundRows$Fraction", name := "partOf", desc := "(I)J" } : Jvm.MethodName) ({ cls := "RoundRows$Fraction", name := "partOf", desc := "(I)J" } : Jvm.MethodName)) ∈ TT := mw 454 (by decide +kernel) (by decide +kernel)
theorem mw_455 : (Jvm.Cond.code ({ cls := "RoundRows$Fraction", name := "partOf", desc := "(I)J" } : Jvm.MethodName) prog_4_method_3_code (2 : Nat) (Option.some Jvm.ClassFile.FieldType.long)) ∈ TT := mw 455 (by decide +kernel) (by decide +kernel)
theorem mw_456 : (Jvm.Cond.methodLink "RoundRowsLaw" (42 : Nat) ({ cls := "RoundRows", name := "odds", desc := "(III)J" } : Jvm.MethodName)) ∈ TT := mw 456 (by decide +kernel) (by decide +kernel)
theorem mw_457 : (Jvm.Cond.instanceMethod ({ cls := "RoundRows", name := "odds", desc := "(III)J" } : Jvm.MethodName)) ∈ TT := mw 457 (by decide +kernel) (by decide +kernel)
theorem mw_458 : (Jvm.Cond.selects "RoundRows" ({ cls := "RoundRows", name := "odds", desc := "(III)J" } : Jvm.MethodName) ({ cls := "RoundRows", name := "odds", desc := "(III)J" } : Jvm.MethodName)) ∈ TT := mw 458 (by decide +kernel) (by decide +kernel)
theorem mw_459 : (Jvm.Cond.code ({ cls := "RoundRows", name := "odds", desc := "(III)J" } : Jvm.MethodName) prog_1_method_8_code (4 : Nat) (Option.some Jvm.ClassFile.FieldType.long)) ∈ TT := mw 459 (by decide +kernel) (by decide +kernel)
theorem mw_460 : (Jvm.Cond.methodLink "RoundRows" (140 : Nat) ({ cls := "RoundRows", name := "oddsOfGreatest", desc := "(IIII)J" } : Jvm.MethodName)) ∈ TT := mw 460 (by decide +kernel) (by decide +kernel)
theorem mw_462 : (Jvm.Cond.instanceMethod ({ cls := "RoundRows", name := "oddsOfGreatest", desc := "(IIII)J" } : Jvm.MethodName)) ∈ TT := mw 462 (by decide +kernel) (by decide +kernel)
theorem mw_463 : (Jvm.Cond.code ({ cls := "RoundRows", name := "oddsOfGreatest", desc := "(IIII)J" } : Jvm.MethodName) prog_1_method_40_code (7 : Nat) (Option.some Jvm.ClassFile.FieldType.long)) ∈ TT := mw 463 (by decide +kernel) (by decide +kernel)
theorem mw_464 : (Jvm.Cond.constantLong "RoundRows" (238 : Nat) (-1000000000000000003 : Int64)) ∈ TT := mw 464 (by decide +kernel) (by decide +kernel)
theorem mw_465 : (Jvm.Cond.methodLink "RoundRows" (302 : Nat) ({ cls := "RoundRows", name := "countOrders", desc := "()V" } : Jvm.MethodName)) ∈ TT := mw 465 (by decide +kernel) (by decide +kernel)
theorem mw_467 : (Jvm.Cond.instanceMethod ({ cls := "RoundRows", name := "countOrders", desc := "()V" } : Jvm.MethodName)) ∈ TT := mw 467 (by decide +kernel) (by decide +kernel)
theorem mw_468 : (Jvm.Cond.code ({ cls := "RoundRows", name := "countOrders", desc := "()V" } : Jvm.MethodName) prog_1_method_41_code (6 : Nat) (Option.none : Option Jvm.ClassFile.FieldType)) ∈ TT := mw 468 (by decide +kernel) (by decide +kernel)
theorem mw_469 : (Jvm.Cond.methodLink "RoundRows" (156 : Nat) ({ cls := "RoundRows$Orders", name := "begin", desc := "(LRoundRows$Dealt;I)V" } : Jvm.MethodName)) ∈ TT := mw 469 (by decide +kernel) (by decide +kernel)
theorem mw_470 : (Jvm.Cond.instanceMethod ({ cls := "RoundRows$Orders", name := "begin", desc := "(LRoundRows$Dealt;I)V" } : Jvm.MethodName)) ∈ TT := mw 470 (by decide +kernel) (by decide +kernel)
theorem mw_471 : (Jvm.Cond.selects "RoundRows$Orders" ({ cls := "RoundRows$Orders", name := "begin", desc := "(LRoundRows$Dealt;I)V" } : Jvm.MethodName) ({ cls := "RoundRows$Orders", name := "begin", desc := "(LRoundRows$Dealt;I)V" } : Jvm.MethodName)) ∈ TT := mw 471 (by decide +kernel) (by decide +kernel)
theorem mw_472 : (Jvm.Cond.code ({ cls := "RoundRows$Orders", name := "begin", desc := "(LRoundRows$Dealt;I)V" } : Jvm.MethodName) prog_6_method_2_code (4 : Nat) (Option.none : Option Jvm.ClassFile.FieldType)) ∈ TT := mw 472 (by decide +kernel) (by decide +kernel)
theorem mw_473 : (Jvm.Cond.methodLink "RoundRows" (305 : Nat) ({ cls := "RoundRows$Orders", name := "sort", desc := "()V" } : Jvm.MethodName)) ∈ TT := mw 473 (by decide +kernel) (by decide +kernel)
theorem mw_474 : (Jvm.Cond.instanceMethod ({ cls := "RoundRows$Orders", name := "sort", desc := "()V" } : Jvm.MethodName)) ∈ TT := mw 474 (by decide +kernel) (by decide +kernel)
theorem mw_475 : (Jvm.Cond.selects "RoundRows$Orders" ({ cls := "RoundRows$Orders", name := "sort", desc := "()V" } : Jvm.MethodName) ({ cls := "RoundRows$Orders", name := "sort", desc := "()V" } : Jvm.MethodName)) ∈ TT := mw 475 (by decide +kernel) (by decide +kernel)
theorem mw_476 : (Jvm.Cond.code ({ cls := "RoundRows$Orders", name := "sort", desc := "()V" } : Jvm.MethodName) prog_6_method_4_code (3 : Nat) (Option.none : Option Jvm.ClassFile.FieldType)) ∈ TT := mw 476 (by decide +kernel) (by decide +kernel)
theorem mw_477 : (Jvm.Cond.methodLink "RoundRows$Orders" (31 : Nat) ({ cls := "RoundRows$Orders", name := "swap", desc := "(II)V" } : Jvm.MethodName)) ∈ TT := mw 477 (by decide +kernel) (by decide +kernel)
theorem mw_479 : (Jvm.Cond.instanceMethod ({ cls := "RoundRows$Orders", name := "swap", desc := "(II)V" } : Jvm.MethodName)) ∈ TT := mw 479 (by decide +kernel) (by decide +kernel)
theorem mw_480 : (Jvm.Cond.code ({ cls := "RoundRows$Orders", name := "swap", desc := "(II)V" } : Jvm.MethodName) prog_6_method_6_code (4 : Nat) (Option.none : Option Jvm.ClassFile.FieldType)) ∈ TT := mw 480 (by decide +kernel) (by decide +kernel)
theorem mw_481 : (Jvm.Cond.methodLink "RoundRows" (164 : Nat) ({ cls := "RoundRows$Rounds", name := "reach", desc := "([IJ)Z" } : Jvm.MethodName)) ∈ TT := mw 481 (by decide +kernel) (by decide +kernel)
theorem mw_482 : (Jvm.Cond.instanceMethod ({ cls := "RoundRows$Rounds", name := "reach", desc := "([IJ)Z" } : Jvm.MethodName)) ∈ TT := mw 482 (by decide +kernel) (by decide +kernel)
theorem mw_483 : (Jvm.Cond.selects "RoundRows$Rounds" ({ cls := "RoundRows$Rounds", name := "reach", desc := "([IJ)Z" } : Jvm.MethodName) ({ cls := "RoundRows$Rounds", name := "reach", desc := "([IJ)Z" } : Jvm.MethodName)) ∈ TT := mw 483 (by decide +kernel) (by decide +kernel)
theorem mw_484 : (Jvm.Cond.code ({ cls := "RoundRows$Rounds", name := "reach", desc := "([IJ)Z" } : Jvm.MethodName) prog_10_method_5_code (5 : Nat) (Option.some Jvm.ClassFile.FieldType.boolean)) ∈ TT := mw 484 (by decide +kernel) (by decide +kernel)
theorem mw_485 : (Jvm.Cond.methodLink "RoundRows" (308 : Nat) ({ cls := "RoundRows$Orders", name := "next", desc := "()Z" } : Jvm.MethodName)) ∈ TT := mw 485 (by decide +kernel) (by decide +kernel)
theorem mw_486 : (Jvm.Cond.instanceMethod ({ cls := "RoundRows$Orders", name := "next", desc := "()Z" } : Jvm.MethodName)) ∈ TT := mw 486 (by decide +kernel) (by decide +kernel)
theorem mw_487 : (Jvm.Cond.selects "RoundRows$Orders" ({ cls := "RoundRows$Orders", name := "next", desc := "()Z" } : Jvm.MethodName) ({ cls := "RoundRows$Orders", name := "next", desc := "()Z" } : Jvm.MethodName)) ∈ TT := mw 487 (by decide +kernel) (by decide +kernel)
theorem mw_488 : (Jvm.Cond.code ({ cls := "RoundRows$Orders", name := "next", desc := "()Z" } : Jvm.MethodName) prog_6_method_5_code (5 : Nat) (Option.some Jvm.ClassFile.FieldType.boolean)) ∈ TT := mw 488 (by decide +kernel) (by decide +kernel)
theorem mw_489 : (Jvm.Cond.methodLink "RoundRowsLaw" (46 : Nat) ({ cls := "RoundRows", name := "tried", desc := "(IIII)J" } : Jvm.MethodName)) ∈ TT := mw 489 (by decide +kernel) (by decide +kernel)
theorem mw_490 : (Jvm.Cond.instanceMethod ({ cls := "RoundRows", name := "tried", desc := "(IIII)J" } : Jvm.MethodName)) ∈ TT := mw 490 (by decide +kernel) (by decide +kernel)
theorem mw_491 : (Jvm.Cond.selects "RoundRows" ({ cls := "RoundRows", name := "tried", desc := "(IIII)J" } : Jvm.MethodName) ({ cls := "RoundRows", name := "tried", desc := "(IIII)J" } : Jvm.MethodName)) ∈ TT := mw 491 (by decide +kernel) (by decide +kernel)
theorem mw_492 : (Jvm.Cond.code ({ cls := "RoundRows", name := "tried", desc := "(IIII)J" } : Jvm.MethodName) prog_1_method_9_code (5 : Nat) (Option.some Jvm.ClassFile.FieldType.long)) ∈ TT := mw 492 (by decide +kernel) (by decide +kernel)
theorem mw_493 : (Jvm.Cond.methodLink "RoundRowsLaw" (51 : Nat) ({ cls := "RoundRows", name := "drawn", desc := "(IIII)I" } : Jvm.MethodName)) ∈ TT := mw 493 (by decide +kernel) (by decide +kernel)
theorem mw_494 : (Jvm.Cond.instanceMethod ({ cls := "RoundRows", name := "drawn", desc := "(IIII)I" } : Jvm.MethodName)) ∈ TT := mw 494 (by decide +kernel) (by decide +kernel)
theorem mw_495 : (Jvm.Cond.selects "RoundRows" ({ cls := "RoundRows", name := "drawn", desc := "(IIII)I" } : Jvm.MethodName) ({ cls := "RoundRows", name := "drawn", desc := "(IIII)I" } : Jvm.MethodName)) ∈ TT := mw 495 (by decide +kernel) (by decide +kernel)
theorem mw_496 : (Jvm.Cond.code ({ cls := "RoundRows", name := "drawn", desc := "(IIII)I" } : Jvm.MethodName) prog_1_method_10_code (11 : Nat) (Option.some Jvm.ClassFile.FieldType.int)) ∈ TT := mw 496 (by decide +kernel) (by decide +kernel)
theorem mw_497 : (Jvm.Cond.constant "RoundRows" (144 : Nat) (1000000 : Int32)) ∈ TT := mw 497 (by decide +kernel) (by decide +kernel)
theorem mw_498 : (Jvm.Cond.methodLink "RoundRows" (160 : Nat) ({ cls := "RoundRows$Orders", name := "draw", desc := "()V" } : Jvm.MethodName)) ∈ TT := mw 498 (by decide +kernel) (by decide +kernel)
theorem mw_499 : (Jvm.Cond.instanceMethod ({ cls := "RoundRows$Orders", name := "draw", desc := "()V" } : Jvm.MethodName)) ∈ TT := mw 499 (by decide +kernel) (by decide +kernel)
theorem mw_500 : (Jvm.Cond.selects "RoundRows$Orders" ({ cls := "RoundRows$Orders", name := "draw", desc := "()V" } : Jvm.MethodName) ({ cls := "RoundRows$Orders", name := "draw", desc := "()V" } : Jvm.MethodName)) ∈ TT := mw 500 (by decide +kernel) (by decide +kernel)
theorem mw_501 : (Jvm.Cond.code ({ cls := "RoundRows$Orders", name := "draw", desc := "()V" } : Jvm.MethodName) prog_6_method_3_code (2 : Nat) (Option.none : Option Jvm.ClassFile.FieldType)) ∈ TT := mw 501 (by decide +kernel) (by decide +kernel)
theorem mw_502 : (Jvm.Cond.constantLong "RoundRows$Orders" (27 : Nat) (16807 : Int64)) ∈ TT := mw 502 (by decide +kernel) (by decide +kernel)
theorem mw_503 : (Jvm.Cond.constantLong "RoundRows$Orders" (29 : Nat) (2147483647 : Int64)) ∈ TT := mw 503 (by decide +kernel) (by decide +kernel)
theorem mw_504 : (Jvm.Cond.methodLink "RoundRowsLaw" (56 : Nat) ({ cls := "RoundRows", name := "together", desc := "(IIII)J" } : Jvm.MethodName)) ∈ TT := mw 504 (by decide +kernel) (by decide +kernel)
theorem mw_505 : (Jvm.Cond.instanceMethod ({ cls := "RoundRows", name := "together", desc := "(IIII)J" } : Jvm.MethodName)) ∈ TT := mw 505 (by decide +kernel) (by decide +kernel)
theorem mw_506 : (Jvm.Cond.selects "RoundRows" ({ cls := "RoundRows", name := "together", desc := "(IIII)J" } : Jvm.MethodName) ({ cls := "RoundRows", name := "together", desc := "(IIII)J" } : Jvm.MethodName)) ∈ TT := mw 506 (by decide +kernel) (by decide +kernel)
theorem mw_507 : (Jvm.Cond.code ({ cls := "RoundRows", name := "together", desc := "(IIII)J" } : Jvm.MethodName) prog_1_method_11_code (6 : Nat) (Option.some Jvm.ClassFile.FieldType.long)) ∈ TT := mw 507 (by decide +kernel) (by decide +kernel)
theorem mw_508 : (Jvm.Cond.methodLink "RoundRows" (168 : Nat) ({ cls := "RoundRows", name := "takeTwo", desc := "(II)V" } : Jvm.MethodName)) ∈ TT := mw 508 (by decide +kernel) (by decide +kernel)
theorem mw_510 : (Jvm.Cond.instanceMethod ({ cls := "RoundRows", name := "takeTwo", desc := "(II)V" } : Jvm.MethodName)) ∈ TT := mw 510 (by decide +kernel) (by decide +kernel)
theorem mw_511 : (Jvm.Cond.code ({ cls := "RoundRows", name := "takeTwo", desc := "(II)V" } : Jvm.MethodName) prog_1_method_38_code (3 : Nat) (Option.none : Option Jvm.ClassFile.FieldType)) ∈ TT := mw 511 (by decide +kernel) (by decide +kernel)
theorem mw_512 : (Jvm.Cond.methodLink "RoundRows" (171 : Nat) ({ cls := "RoundRows", name := "putTogether", desc := "(ILRoundRows$Fraction;)V" } : Jvm.MethodName)) ∈ TT := mw 512 (by decide +kernel) (by decide +kernel)
theorem mw_514 : (Jvm.Cond.instanceMethod ({ cls := "RoundRows", name := "putTogether", desc := "(ILRoundRows$Fraction;)V" } : Jvm.MethodName)) ∈ TT := mw 514 (by decide +kernel) (by decide +kernel)
theorem mw_515 : (Jvm.Cond.code ({ cls := "RoundRows", name := "putTogether", desc := "(ILRoundRows$Fraction;)V" } : Jvm.MethodName) prog_1_method_42_code (20 : Nat) (Option.none : Option Jvm.ClassFile.FieldType)) ∈ TT := mw 515 (by decide +kernel) (by decide +kernel)
theorem mw_516 : (Jvm.Cond.constantLong "RoundRows" (311 : Nat) (-1000000 : Int64)) ∈ TT := mw 516 (by decide +kernel) (by decide +kernel)
theorem mw_517 : (Jvm.Cond.methodLink "RoundRowsLaw" (60 : Nat) ({ cls := "RoundRows", name := "go", desc := "(II)I" } : Jvm.MethodName)) ∈ TT := mw 517 (by decide +kernel) (by decide +kernel)
theorem mw_518 : (Jvm.Cond.instanceMethod ({ cls := "RoundRows", name := "go", desc := "(II)I" } : Jvm.MethodName)) ∈ TT := mw 518 (by decide +kernel) (by decide +kernel)
theorem mw_519 : (Jvm.Cond.selects "RoundRows" ({ cls := "RoundRows", name := "go", desc := "(II)I" } : Jvm.MethodName) ({ cls := "RoundRows", name := "go", desc := "(II)I" } : Jvm.MethodName)) ∈ TT := mw 519 (by decide +kernel) (by decide +kernel)
theorem mw_520 : (Jvm.Cond.code ({ cls := "RoundRows", name := "go", desc := "(II)I" } : Jvm.MethodName) prog_1_method_12_code (6 : Nat) (Option.some Jvm.ClassFile.FieldType.int)) ∈ TT := mw 520 (by decide +kernel) (by decide +kernel)
theorem mw_521 : (Jvm.Cond.methodLink "RoundRows" (175 : Nat) ({ cls := "RoundRows$Fraction", name := "isAtLeast", desc := "(LRoundRows$Fraction;)Z" } : Jvm.MethodName)) ∈ TT := mw 521 (by decide +kernel) (by decide +kernel)
theorem mw_522 : (Jvm.Cond.instanceMethod ({ cls := "RoundRows$Fraction", name := "isAtLeast", desc := "(LRoundRows$Fraction;)Z" } : Jvm.MethodName)) ∈ TT := mw 522 (by decide +kernel) (by decide +kernel)
theorem mw_523 : (Jvm.Cond.selects "RoundRows$Fraction" ({ cls := "RoundRows$Fraction", name := "isAtLeast", desc := "(LRoundRows$Fraction;)Z" } : Jvm.MethodName) ({ cls := "RoundRows$Fraction", name := "isAtLeast", desc := "(LRoundRows$Fraction;)Z" } : Jvm.MethodName)) ∈ TT := mw 523 (by decide +kernel) (by decide +kernel)
theorem mw_524 : (Jvm.Cond.code ({ cls := "RoundRows$Fraction", name := "isAtLeast", desc := "(LRoundRows$Fraction;)Z" } : Jvm.MethodName) prog_4_method_5_code (16 : Nat) (Option.some Jvm.ClassFile.FieldType.boolean)) ∈ TT := mw 524 (by decide +kernel) (by decide +kernel)
theorem mw_525 : (Jvm.Cond.methodLink "RoundRowsLaw" (64 : Nat) ({ cls := "RoundRows", name := "waves", desc := "(III)J" } : Jvm.MethodName)) ∈ TT := mw 525 (by decide +kernel) (by decide +kernel)
theorem mw_526 : (Jvm.Cond.instanceMethod ({ cls := "RoundRows", name := "waves", desc := "(III)J" } : Jvm.MethodName)) ∈ TT := mw 526 (by decide +kernel) (by decide +kernel)
theorem mw_527 : (Jvm.Cond.selects "RoundRows" ({ cls := "RoundRows", name := "waves", desc := "(III)J" } : Jvm.MethodName) ({ cls := "RoundRows", name := "waves", desc := "(III)J" } : Jvm.MethodName)) ∈ TT := mw 527 (by decide +kernel) (by decide +kernel)
theorem mw_528 : (Jvm.Cond.code ({ cls := "RoundRows", name := "waves", desc := "(III)J" } : Jvm.MethodName) prog_1_method_13_code (6 : Nat) (Option.some Jvm.ClassFile.FieldType.long)) ∈ TT := mw 528 (by decide +kernel) (by decide +kernel)
theorem mw_529 : (Jvm.Cond.constantLong "RoundRows" (179 : Nat) (-1000000000000000002 : Int64)) ∈ TT := mw 529 (by decide +kernel) (by decide +kernel)
theorem mw_530 : (Jvm.Cond.methodLink "RoundRows" (181 : Nat) ({ cls := "RoundRows", name := "topsOf", desc := "(III)I" } : Jvm.MethodName)) ∈ TT := mw 530 (by decide +kernel) (by decide +kernel)
theorem mw_531 : (Jvm.Cond.static ({ cls := "RoundRows", name := "topsOf", desc := "(III)I" } : Jvm.MethodName)) ∈ TT := mw 531 (by decide +kernel) (by decide +kernel)
theorem mw_532 : (Jvm.Cond.code ({ cls := "RoundRows", name := "topsOf", desc := "(III)I" } : Jvm.MethodName) prog_1_method_43_code (7 : Nat) (Option.some Jvm.ClassFile.FieldType.int)) ∈ TT := mw 532 (by decide +kernel) (by decide +kernel)
theorem mw_533 : (Jvm.Cond.methodLink "RoundRows" (262 : Nat) ({ cls := "java/lang/Integer", name := "bitCount", desc := "(I)I" } : Jvm.MethodName)) ∈ TT := mw 533 (by decide +kernel) (by decide +kernel)
theorem mw_534 : (Jvm.Cond.static ({ cls := "java/lang/Integer", name := "bitCount", desc := "(I)I" } : Jvm.MethodName)) ∈ TT := mw 534 (by decide +kernel) (by decide +kernel)
theorem mw_535 : (Jvm.Cond.code ({ cls := "java/lang/Integer", name := "bitCount", desc := "(I)I" } : Jvm.MethodName) prog_13_method_49_code (1 : Nat) (Option.some Jvm.ClassFile.FieldType.int)) ∈ TT := mw 535 (by decide +kernel) (by decide +kernel)
theorem mw_536 : (Jvm.Cond.constant "java/lang/Integer" (265 : Nat) (1431655765 : Int32)) ∈ TT := mw 536 (by decide +kernel) (by decide +kernel)
theorem mw_537 : (Jvm.Cond.constant "java/lang/Integer" (266 : Nat) (858993459 : Int32)) ∈ TT := mw 537 (by decide +kernel) (by decide +kernel)
theorem mw_538 : (Jvm.Cond.constant "java/lang/Integer" (267 : Nat) (252645135 : Int32)) ∈ TT := mw 538 (by decide +kernel) (by decide +kernel)
theorem mw_539 : (Jvm.Cond.methodLink "RoundRowsLaw" (68 : Nat) ({ cls := "RoundRows", name := "found", desc := "(III)I" } : Jvm.MethodName)) ∈ TT := mw 539 (by decide +kernel) (by decide +kernel)
theorem mw_540 : (Jvm.Cond.instanceMethod ({ cls := "RoundRows", name := "found", desc := "(III)I" } : Jvm.MethodName)) ∈ TT := mw 540 (by decide +kernel) (by decide +kernel)
theorem mw_541 : (Jvm.Cond.selects "RoundRows" ({ cls := "RoundRows", name := "found", desc := "(III)I" } : Jvm.MethodName) ({ cls := "RoundRows", name := "found", desc := "(III)I" } : Jvm.MethodName)) ∈ TT := mw 541 (by decide +kernel) (by decide +kernel)
theorem mw_542 : (Jvm.Cond.code ({ cls := "RoundRows", name := "found", desc := "(III)I" } : Jvm.MethodName) prog_1_method_14_code (5 : Nat) (Option.some Jvm.ClassFile.FieldType.int)) ∈ TT := mw 542 (by decide +kernel) (by decide +kernel)
theorem mw_543 : (Jvm.Cond.methodLink "RoundRows" (189 : Nat) ({ cls := "RoundRows", name := "isDivide", desc := "(I)Z" } : Jvm.MethodName)) ∈ TT := mw 543 (by decide +kernel) (by decide +kernel)
theorem mw_544 : (Jvm.Cond.static ({ cls := "RoundRows", name := "isDivide", desc := "(I)Z" } : Jvm.MethodName)) ∈ TT := mw 544 (by decide +kernel) (by decide +kernel)
theorem mw_545 : (Jvm.Cond.code ({ cls := "RoundRows", name := "isDivide", desc := "(I)Z" } : Jvm.MethodName) prog_1_method_31_code (1 : Nat) (Option.some Jvm.ClassFile.FieldType.boolean)) ∈ TT := mw 545 (by decide +kernel) (by decide +kernel)
theorem mw_546 : (Jvm.Cond.methodLink "RoundRows" (192 : Nat) ({ cls := "RoundRows", name := "lookLater", desc := "(II)V" } : Jvm.MethodName)) ∈ TT := mw 546 (by decide +kernel) (by decide +kernel)
theorem mw_548 : (Jvm.Cond.instanceMethod ({ cls := "RoundRows", name := "lookLater", desc := "(II)V" } : Jvm.MethodName)) ∈ TT := mw 548 (by decide +kernel) (by decide +kernel)
theorem mw_549 : (Jvm.Cond.code ({ cls := "RoundRows", name := "lookLater", desc := "(II)V" } : Jvm.MethodName) prog_1_method_44_code (3 : Nat) (Option.none : Option Jvm.ClassFile.FieldType)) ∈ TT := mw 549 (by decide +kernel) (by decide +kernel)
theorem mw_550 : (Jvm.Cond.methodLink "RoundRows" (313 : Nat) ({ cls := "RoundRows$Rounds", name := "firstGreatest", desc := "([I)I" } : Jvm.MethodName)) ∈ TT := mw 550 (by decide +kernel) (by decide +kernel)
theorem mw_551 : (Jvm.Cond.methodLink "RoundRows" (316 : Nat) ({ cls := "RoundRows$Later", name := "look", desc := "(LRoundRows$Dealt;II)V" } : Jvm.MethodName)) ∈ TT := mw 551 (by decide +kernel) (by decide +kernel)
theorem mw_552 : (Jvm.Cond.instanceMethod ({ cls := "RoundRows$Later", name := "look", desc := "(LRoundRows$Dealt;II)V" } : Jvm.MethodName)) ∈ TT := mw 552 (by decide +kernel) (by decide +kernel)
theorem mw_553 : (Jvm.Cond.selects "RoundRows$Later" ({ cls := "RoundRows$Later", name := "look", desc := "(LRoundRows$Dealt;II)V" } : Jvm.MethodName) ({ cls := "RoundRows$Later", name := "look", desc := "(LRoundRows$Dealt;II)V" } : Jvm.MethodName)) ∈ TT := mw 553 (by decide +kernel) (by decide +kernel)
theorem mw_554 : (Jvm.Cond.code ({ cls := "RoundRows$Later", name := "look", desc := "(LRoundRows$Dealt;II)V" } : Jvm.MethodName) prog_5_method_2_code (5 : Nat) (Option.none : Option Jvm.ClassFile.FieldType)) ∈ TT := mw 554 (by decide +kernel) (by decide +kernel)
theorem mw_555 : (Jvm.Cond.methodLink "RoundRows$Later" (21 : Nat) ({ cls := "java/lang/Math", name := "max", desc := "(II)I" } : Jvm.MethodName)) ∈ TT := mw 555 (by decide +kernel) (by decide +kernel)
theorem mw_556 : (Jvm.Cond.constant "RoundRows$Later" (33 : Nat) (-1000000 : Int32)) ∈ TT := mw 556 (by decide +kernel) (by decide +kernel)
theorem mw_557 : (Jvm.Cond.methodLink "RoundRows$Later" (34 : Nat) ({ cls := "RoundRows$Later", name := "lookAt", desc := "(LRoundRows$Dealt;I)V" } : Jvm.MethodName)) ∈ TT := mw 557 (by decide +kernel) (by decide +kernel)
theorem mw_559 : (Jvm.Cond.instanceMethod ({ cls := "RoundRows$Later", name := "lookAt", desc := "(LRoundRows$Dealt;I)V" } : Jvm.MethodName)) ∈ TT := mw 559 (by decide +kernel) (by decide +kernel)
theorem mw_560 : (Jvm.Cond.code ({ cls := "RoundRows$Later", name := "lookAt", desc := "(LRoundRows$Dealt;I)V" } : Jvm.MethodName) prog_5_method_3_code (7 : Nat) (Option.none : Option Jvm.ClassFile.FieldType)) ∈ TT := mw 560 (by decide +kernel) (by decide +kernel)
theorem mw_561 : (Jvm.Cond.methodLink "RoundRows$Later" (38 : Nat) ({ cls := "RoundRows$Dealt", name := "sum", desc := "()J" } : Jvm.MethodName)) ∈ TT := mw 561 (by decide +kernel) (by decide +kernel)
theorem mw_562 : (Jvm.Cond.methodLink "RoundRows$Later" (45 : Nat) ({ cls := "java/lang/Long", name := "compare", desc := "(JJ)I" } : Jvm.MethodName)) ∈ TT := mw 562 (by decide +kernel) (by decide +kernel)
theorem mw_563 : (Jvm.Cond.static ({ cls := "java/lang/Long", name := "compare", desc := "(JJ)I" } : Jvm.MethodName)) ∈ TT := mw 563 (by decide +kernel) (by decide +kernel)
theorem mw_564 : (Jvm.Cond.code ({ cls := "java/lang/Long", name := "compare", desc := "(JJ)I" } : Jvm.MethodName) prog_14_method_42_code (4 : Nat) (Option.some Jvm.ClassFile.FieldType.int)) ∈ TT := mw 564 (by decide +kernel) (by decide +kernel)
theorem mw_565 : (Jvm.Cond.methodLink "RoundRows$Later" (51 : Nat) ({ cls := "RoundRows$Later", name := "sideOfHeap", desc := "(LRoundRows$Dealt;IJ)I" } : Jvm.MethodName)) ∈ TT := mw 565 (by decide +kernel) (by decide +kernel)
theorem mw_567 : (Jvm.Cond.instanceMethod ({ cls := "RoundRows$Later", name := "sideOfHeap", desc := "(LRoundRows$Dealt;IJ)I" } : Jvm.MethodName)) ∈ TT := mw 567 (by decide +kernel) (by decide +kernel)
theorem mw_568 : (Jvm.Cond.code ({ cls := "RoundRows$Later", name := "sideOfHeap", desc := "(LRoundRows$Dealt;IJ)I" } : Jvm.MethodName) prog_5_method_4_code (10 : Nat) (Option.some Jvm.ClassFile.FieldType.int)) ∈ TT := mw 568 (by decide +kernel) (by decide +kernel)
theorem mw_569 : (Jvm.Cond.methodLink "RoundRowsLaw" (72 : Nat) ({ cls := "RoundRows", name := "luck", desc := "(III)J" } : Jvm.MethodName)) ∈ TT := mw 569 (by decide +kernel) (by decide +kernel)
theorem mw_570 : (Jvm.Cond.instanceMethod ({ cls := "RoundRows", name := "luck", desc := "(III)J" } : Jvm.MethodName)) ∈ TT := mw 570 (by decide +kernel) (by decide +kernel)
theorem mw_571 : (Jvm.Cond.selects "RoundRows" ({ cls := "RoundRows", name := "luck", desc := "(III)J" } : Jvm.MethodName) ({ cls := "RoundRows", name := "luck", desc := "(III)J" } : Jvm.MethodName)) ∈ TT := mw 571 (by decide +kernel) (by decide +kernel)
theorem mw_572 : (Jvm.Cond.code ({ cls := "RoundRows", name := "luck", desc := "(III)J" } : Jvm.MethodName) prog_1_method_15_code (5 : Nat) (Option.some Jvm.ClassFile.FieldType.long)) ∈ TT := mw 572 (by decide +kernel) (by decide +kernel)
theorem mw_573 : (Jvm.Cond.methodLink "RoundRows" (204 : Nat) ({ cls := "RoundRows$Later", name := "putLuck", desc := "(LRoundRows$Fraction;)V" } : Jvm.MethodName)) ∈ TT := mw 573 (by decide +kernel) (by decide +kernel)
theorem mw_574 : (Jvm.Cond.instanceMethod ({ cls := "RoundRows$Later", name := "putLuck", desc := "(LRoundRows$Fraction;)V" } : Jvm.MethodName)) ∈ TT := mw 574 (by decide +kernel) (by decide +kernel)
theorem mw_575 : (Jvm.Cond.selects "RoundRows$Later" ({ cls := "RoundRows$Later", name := "putLuck", desc := "(LRoundRows$Fraction;)V" } : Jvm.MethodName) ({ cls := "RoundRows$Later", name := "putLuck", desc := "(LRoundRows$Fraction;)V" } : Jvm.MethodName)) ∈ TT := mw 575 (by decide +kernel) (by decide +kernel)
theorem mw_576 : (Jvm.Cond.code ({ cls := "RoundRows$Later", name := "putLuck", desc := "(LRoundRows$Fraction;)V" } : Jvm.MethodName) prog_5_method_5_code (7 : Nat) (Option.none : Option Jvm.ClassFile.FieldType)) ∈ TT := mw 576 (by decide +kernel) (by decide +kernel)
theorem mw_577 : (Jvm.Cond.methodLink "RoundRows$Later" (61 : Nat) ({ cls := "RoundRows$Fraction", name := "put", desc := "(JJ)V" } : Jvm.MethodName)) ∈ TT := mw 577 (by decide +kernel) (by decide +kernel)
theorem mw_578 : (Jvm.Cond.methodLink "RoundRowsLaw" (76 : Nat) ({ cls := "RoundRows", name := "trial", desc := "(II)I" } : Jvm.MethodName)) ∈ TT := mw 578 (by decide +kernel) (by decide +kernel)
theorem mw_579 : (Jvm.Cond.instanceMethod ({ cls := "RoundRows", name := "trial", desc := "(II)I" } : Jvm.MethodName)) ∈ TT := mw 579 (by decide +kernel) (by decide +kernel)
theorem mw_580 : (Jvm.Cond.selects "RoundRows" ({ cls := "RoundRows", name := "trial", desc := "(II)I" } : Jvm.MethodName) ({ cls := "RoundRows", name := "trial", desc := "(II)I" } : Jvm.MethodName)) ∈ TT := mw 580 (by decide +kernel) (by decide +kernel)
theorem mw_581 : (Jvm.Cond.code ({ cls := "RoundRows", name := "trial", desc := "(II)I" } : Jvm.MethodName) prog_1_method_16_code (4 : Nat) (Option.some Jvm.ClassFile.FieldType.int)) ∈ TT := mw 581 (by decide +kernel) (by decide +kernel)
theorem mw_582 : (Jvm.Cond.methodLink "RoundRows" (208 : Nat) ({ cls := "RoundRows$Drawer", name := "isFull", desc := "()Z" } : Jvm.MethodName)) ∈ TT := mw 582 (by decide +kernel) (by decide +kernel)
theorem mw_583 : (Jvm.Cond.instanceMethod ({ cls := "RoundRows$Drawer", name := "isFull", desc := "()Z" } : Jvm.MethodName)) ∈ TT := mw 583 (by decide +kernel) (by decide +kernel)
theorem mw_584 : (Jvm.Cond.selects "RoundRows$Drawer" ({ cls := "RoundRows$Drawer", name := "isFull", desc := "()Z" } : Jvm.MethodName) ({ cls := "RoundRows$Drawer", name := "isFull", desc := "()Z" } : Jvm.MethodName)) ∈ TT := mw 584 (by decide +kernel) (by decide +kernel)
theorem mw_585 : (Jvm.Cond.code ({ cls := "RoundRows$Drawer", name := "isFull", desc := "()Z" } : Jvm.MethodName) prog_3_method_2_code (1 : Nat) (Option.some Jvm.ClassFile.FieldType.boolean)) ∈ TT := mw 585 (by decide +kernel) (by decide +kernel)
theorem mw_586 : (Jvm.Cond.methodLink "RoundRows" (209 : Nat) ({ cls := "RoundRows$Fraction", name := "percent", desc := "()I" } : Jvm.MethodName)) ∈ TT := mw 586 (by decide +kernel) (by decide +kernel)
theorem mw_587 : (Jvm.Cond.instanceMethod ({ cls := "RoundRows$Fraction", name := "percent", desc := "()I" } : Jvm.MethodName)) ∈ TT := mw 587 (by decide +kernel) (by decide +kernel)
theorem mw_588 : (Jvm.Cond.selects "RoundRows$Fraction" ({ cls := "RoundRows$Fraction", name := "percent", desc := "()I" } : Jvm.MethodName) ({ cls := "RoundRows$Fraction", name := "percent", desc := "()I" } : Jvm.MethodName)) ∈ TT := mw 588 (by decide +kernel) (by decide +kernel)
theorem mw_589 : (Jvm.Cond.code ({ cls := "RoundRows$Fraction", name := "percent", desc := "()I" } : Jvm.MethodName) prog_4_method_4_code (1 : Nat) (Option.some Jvm.ClassFile.FieldType.int)) ∈ TT := mw 589 (by decide +kernel) (by decide +kernel)
theorem mw_590 : (Jvm.Cond.constantLong "RoundRows$Fraction" (28 : Nat) (100 : Int64)) ∈ TT := mw 590 (by decide +kernel) (by decide +kernel)
theorem mw_591 : (Jvm.Cond.methodLink "RoundRows" (212 : Nat) ({ cls := "RoundRows$Drawer", name := "add", desc := "(III)V" } : Jvm.MethodName)) ∈ TT := mw 591 (by decide +kernel) (by decide +kernel)
theorem mw_592 : (Jvm.Cond.instanceMethod ({ cls := "RoundRows$Drawer", name := "add", desc := "(III)V" } : Jvm.MethodName)) ∈ TT := mw 592 (by decide +kernel) (by decide +kernel)
theorem mw_593 : (Jvm.Cond.selects "RoundRows$Drawer" ({ cls := "RoundRows$Drawer", name := "add", desc := "(III)V" } : Jvm.MethodName) ({ cls := "RoundRows$Drawer", name := "add", desc := "(III)V" } : Jvm.MethodName)) ∈ TT := mw 593 (by decide +kernel) (by decide +kernel)
theorem mw_594 : (Jvm.Cond.code ({ cls := "RoundRows$Drawer", name := "add", desc := "(III)V" } : Jvm.MethodName) prog_3_method_5_code (4 : Nat) (Option.none : Option Jvm.ClassFile.FieldType)) ∈ TT := mw 594 (by decide +kernel) (by decide +kernel)
theorem mw_595 : (Jvm.Cond.methodLink "RoundRows$Drawer" (31 : Nat) ({ cls := "RoundRows$Drawer", name := "isFull", desc := "()Z" } : Jvm.MethodName)) ∈ TT := mw 595 (by decide +kernel) (by decide +kernel)
theorem mw_596 : (Jvm.Cond.methodLink "RoundRowsLaw" (80 : Nat) ({ cls := "RoundRows", name := "of", desc := "(II)I" } : Jvm.MethodName)) ∈ TT := mw 596 (by decide +kernel) (by decide +kernel)
theorem mw_597 : (Jvm.Cond.instanceMethod ({ cls := "RoundRows", name := "of", desc := "(II)I" } : Jvm.MethodName)) ∈ TT := mw 597 (by decide +kernel) (by decide +kernel)
theorem mw_598 : (Jvm.Cond.selects "RoundRows" ({ cls := "RoundRows", name := "of", desc := "(II)I" } : Jvm.MethodName) ({ cls := "RoundRows", name := "of", desc := "(II)I" } : Jvm.MethodName)) ∈ TT := mw 598 (by decide +kernel) (by decide +kernel)
theorem mw_599 : (Jvm.Cond.code ({ cls := "RoundRows", name := "of", desc := "(II)I" } : Jvm.MethodName) prog_1_method_17_code (3 : Nat) (Option.some Jvm.ClassFile.FieldType.int)) ∈ TT := mw 599 (by decide +kernel) (by decide +kernel)
theorem mw_600 : (Jvm.Cond.methodLink "RoundRows" (216 : Nat) ({ cls := "RoundRows$Drawer", name := "has", desc := "(I)Z" } : Jvm.MethodName)) ∈ TT := mw 600 (by decide +kernel) (by decide +kernel)
theorem mw_601 : (Jvm.Cond.instanceMethod ({ cls := "RoundRows$Drawer", name := "has", desc := "(I)Z" } : Jvm.MethodName)) ∈ TT := mw 601 (by decide +kernel) (by decide +kernel)
theorem mw_602 : (Jvm.Cond.selects "RoundRows$Drawer" ({ cls := "RoundRows$Drawer", name := "has", desc := "(I)Z" } : Jvm.MethodName) ({ cls := "RoundRows$Drawer", name := "has", desc := "(I)Z" } : Jvm.MethodName)) ∈ TT := mw 602 (by decide +kernel) (by decide +kernel)
theorem mw_603 : (Jvm.Cond.code ({ cls := "RoundRows$Drawer", name := "has", desc := "(I)Z" } : Jvm.MethodName) prog_3_method_3_code (2 : Nat) (Option.some Jvm.ClassFile.FieldType.boolean)) ∈ TT := mw 603 (by decide +kernel) (by decide +kernel)
theorem mw_604 : (Jvm.Cond.methodLink "RoundRows" (228 : Nat) ({ cls := "RoundRows$Drawer", name := "isPrinted", desc := "(I)Z" } : Jvm.MethodName)) ∈ TT := mw 604 (by decide +kernel) (by decide +kernel)
theorem mw_605 : (Jvm.Cond.instanceMethod ({ cls := "RoundRows$Drawer", name := "isPrinted", desc := "(I)Z" } : Jvm.MethodName)) ∈ TT := mw 605 (by decide +kernel) (by decide +kernel)
theorem mw_606 : (Jvm.Cond.selects "RoundRows$Drawer" ({ cls := "RoundRows$Drawer", name := "isPrinted", desc := "(I)Z" } : Jvm.MethodName) ({ cls := "RoundRows$Drawer", name := "isPrinted", desc := "(I)Z" } : Jvm.MethodName)) ∈ TT := mw 606 (by decide +kernel) (by decide +kernel)
theorem mw_607 : (Jvm.Cond.code ({ cls := "RoundRows$Drawer", name := "isPrinted", desc := "(I)Z" } : Jvm.MethodName) prog_3_method_6_code (2 : Nat) (Option.some Jvm.ClassFile.FieldType.boolean)) ∈ TT := mw 607 (by decide +kernel) (by decide +kernel)
theorem mw_608 : (Jvm.Cond.methodLink "RoundRowsLaw" (84 : Nat) ({ cls := "RoundRows", name := "print", desc := "(IZ)I" } : Jvm.MethodName)) ∈ TT := mw 608 (by decide +kernel) (by decide +kernel)
theorem mw_609 : (Jvm.Cond.instanceMethod ({ cls := "RoundRows", name := "print", desc := "(IZ)I" } : Jvm.MethodName)) ∈ TT := mw 609 (by decide +kernel) (by decide +kernel)
theorem mw_610 : (Jvm.Cond.selects "RoundRows" ({ cls := "RoundRows", name := "print", desc := "(IZ)I" } : Jvm.MethodName) ({ cls := "RoundRows", name := "print", desc := "(IZ)I" } : Jvm.MethodName)) ∈ TT := mw 610 (by decide +kernel) (by decide +kernel)
theorem mw_611 : (Jvm.Cond.code ({ cls := "RoundRows", name := "print", desc := "(IZ)I" } : Jvm.MethodName) prog_1_method_18_code (4 : Nat) (Option.some Jvm.ClassFile.FieldType.int)) ∈ TT := mw 611 (by decide +kernel) (by decide +kernel)
theorem mw_612 : (Jvm.Cond.methodLink "RoundRows" (231 : Nat) ({ cls := "RoundRows$Drawer", name := "setPrinted", desc := "(IZ)V" } : Jvm.MethodName)) ∈ TT := mw 612 (by decide +kernel) (by decide +kernel)
theorem mw_613 : (Jvm.Cond.instanceMethod ({ cls := "RoundRows$Drawer", name := "setPrinted", desc := "(IZ)V" } : Jvm.MethodName)) ∈ TT := mw 613 (by decide +kernel) (by decide +kernel)
theorem mw_614 : (Jvm.Cond.selects "RoundRows$Drawer" ({ cls := "RoundRows$Drawer", name := "setPrinted", desc := "(IZ)V" } : Jvm.MethodName) ({ cls := "RoundRows$Drawer", name := "setPrinted", desc := "(IZ)V" } : Jvm.MethodName)) ∈ TT := mw 614 (by decide +kernel) (by decide +kernel)
theorem mw_615 : (Jvm.Cond.code ({ cls := "RoundRows$Drawer", name := "setPrinted", desc := "(IZ)V" } : Jvm.MethodName) prog_3_method_7_code (4 : Nat) (Option.none : Option Jvm.ClassFile.FieldType)) ∈ TT := mw 615 (by decide +kernel) (by decide +kernel)
theorem mw_616 : (Jvm.Cond.methodLink "RoundRowsLaw" (89 : Nat) ({ cls := "RoundRows", name := "lean", desc := "(I)J" } : Jvm.MethodName)) ∈ TT := mw 616 (by decide +kernel) (by decide +kernel)
theorem mw_617 : (Jvm.Cond.instanceMethod ({ cls := "RoundRows", name := "lean", desc := "(I)J" } : Jvm.MethodName)) ∈ TT := mw 617 (by decide +kernel) (by decide +kernel)
theorem mw_618 : (Jvm.Cond.selects "RoundRows" ({ cls := "RoundRows", name := "lean", desc := "(I)J" } : Jvm.MethodName) ({ cls := "RoundRows", name := "lean", desc := "(I)J" } : Jvm.MethodName)) ∈ TT := mw 618 (by decide +kernel) (by decide +kernel)
theorem mw_619 : (Jvm.Cond.code ({ cls := "RoundRows", name := "lean", desc := "(I)J" } : Jvm.MethodName) prog_1_method_19_code (2 : Nat) (Option.some Jvm.ClassFile.FieldType.long)) ∈ TT := mw 619 (by decide +kernel) (by decide +kernel)
theorem mw_620 : (Jvm.Cond.methodLink "RoundRows" (240 : Nat) ({ cls := "RoundRows$Drawer", name := "putLean", desc := "(LRoundRows$Fraction;)V" } : Jvm.MethodName)) ∈ TT := mw 620 (by decide +kernel) (by decide +kernel)
theorem mw_621 : (Jvm.Cond.instanceMethod ({ cls := "RoundRows$Drawer", name := "putLean", desc := "(LRoundRows$Fraction;)V" } : Jvm.MethodName)) ∈ TT := mw 621 (by decide +kernel) (by decide +kernel)
theorem mw_622 : (Jvm.Cond.selects "RoundRows$Drawer" ({ cls := "RoundRows$Drawer", name := "putLean", desc := "(LRoundRows$Fraction;)V" } : Jvm.MethodName) ({ cls := "RoundRows$Drawer", name := "putLean", desc := "(LRoundRows$Fraction;)V" } : Jvm.MethodName)) ∈ TT := mw 622 (by decide +kernel) (by decide +kernel)
theorem mw_623 : (Jvm.Cond.code ({ cls := "RoundRows$Drawer", name := "putLean", desc := "(LRoundRows$Fraction;)V" } : Jvm.MethodName) prog_3_method_8_code (8 : Nat) (Option.none : Option Jvm.ClassFile.FieldType)) ∈ TT := mw 623 (by decide +kernel) (by decide +kernel)
theorem mw_624 : (Jvm.Cond.methodLink "RoundRows$Drawer" (35 : Nat) ({ cls := "RoundRows$Drawer", name := "isPrinted", desc := "(I)Z" } : Jvm.MethodName)) ∈ TT := mw 624 (by decide +kernel) (by decide +kernel)
theorem mw_625 : (Jvm.Cond.methodLink "RoundRows$Drawer" (39 : Nat) ({ cls := "java/lang/Integer", name := "bitCount", desc := "(I)I" } : Jvm.MethodName)) ∈ TT := mw 625 (by decide +kernel) (by decide +kernel)
theorem mw_626 : (Jvm.Cond.methodLink "RoundRows$Drawer" (45 : Nat) ({ cls := "RoundRows$Fraction", name := "put", desc := "(JJ)V" } : Jvm.MethodName)) ∈ TT := mw 626 (by decide +kernel) (by decide +kernel)
theorem mw_627 : (Jvm.Cond.methodLink "RoundRowsLaw" (94 : Nat) ({ cls := "RoundRows", name := "reads", desc := "(II)I" } : Jvm.MethodName)) ∈ TT := mw 627 (by decide +kernel) (by decide +kernel)
theorem mw_628 : (Jvm.Cond.instanceMethod ({ cls := "RoundRows", name := "reads", desc := "(II)I" } : Jvm.MethodName)) ∈ TT := mw 628 (by decide +kernel) (by decide +kernel)
theorem mw_629 : (Jvm.Cond.selects "RoundRows" ({ cls := "RoundRows", name := "reads", desc := "(II)I" } : Jvm.MethodName) ({ cls := "RoundRows", name := "reads", desc := "(II)I" } : Jvm.MethodName)) ∈ TT := mw 629 (by decide +kernel) (by decide +kernel)
theorem mw_630 : (Jvm.Cond.code ({ cls := "RoundRows", name := "reads", desc := "(II)I" } : Jvm.MethodName) prog_1_method_20_code (4 : Nat) (Option.some Jvm.ClassFile.FieldType.int)) ∈ TT := mw 630 (by decide +kernel) (by decide +kernel)
theorem mw_631 : (Jvm.Cond.constant "RoundRows" (243 : Nat) (1048575 : Int32)) ∈ TT := mw 631 (by decide +kernel) (by decide +kernel)
theorem mw_632 : (Jvm.Cond.methodLink "RoundRowsLaw" (98 : Nat) ({ cls := "RoundRows", name := "bar", desc := "(I)I" } : Jvm.MethodName)) ∈ TT := mw 632 (by decide +kernel) (by decide +kernel)
theorem mw_633 : (Jvm.Cond.instanceMethod ({ cls := "RoundRows", name := "bar", desc := "(I)I" } : Jvm.MethodName)) ∈ TT := mw 633 (by decide +kernel) (by decide +kernel)
theorem mw_634 : (Jvm.Cond.selects "RoundRows" ({ cls := "RoundRows", name := "bar", desc := "(I)I" } : Jvm.MethodName) ({ cls := "RoundRows", name := "bar", desc := "(I)I" } : Jvm.MethodName)) ∈ TT := mw 634 (by decide +kernel) (by decide +kernel)
theorem mw_635 : (Jvm.Cond.code ({ cls := "RoundRows", name := "bar", desc := "(I)I" } : Jvm.MethodName) prog_1_method_21_code (3 : Nat) (Option.some Jvm.ClassFile.FieldType.int)) ∈ TT := mw 635 (by decide +kernel) (by decide +kernel)
theorem mw_636 : (Jvm.Cond.methodLink "RoundRowsLaw" (102 : Nat) ({ cls := "RoundRows", name := "club", desc := "()I" } : Jvm.MethodName)) ∈ TT := mw 636 (by decide +kernel) (by decide +kernel)
theorem mw_637 : (Jvm.Cond.instanceMethod ({ cls := "RoundRows", name := "club", desc := "()I" } : Jvm.MethodName)) ∈ TT := mw 637 (by decide +kernel) (by decide +kernel)
theorem mw_638 : (Jvm.Cond.selects "RoundRows" ({ cls := "RoundRows", name := "club", desc := "()I" } : Jvm.MethodName) ({ cls := "RoundRows", name := "club", desc := "()I" } : Jvm.MethodName)) ∈ TT := mw 638 (by decide +kernel) (by decide +kernel)
theorem mw_639 : (Jvm.Cond.code ({ cls := "RoundRows", name := "club", desc := "()I" } : Jvm.MethodName) prog_1_method_22_code (1 : Nat) (Option.some Jvm.ClassFile.FieldType.int)) ∈ TT := mw 639 (by decide +kernel) (by decide +kernel)
theorem mw_640 : (Jvm.Cond.methodLink "RoundRows" (250 : Nat) ({ cls := "RoundRows$Drawer", name := "kept", desc := "(I)I" } : Jvm.MethodName)) ∈ TT := mw 640 (by decide +kernel) (by decide +kernel)
theorem mw_641 : (Jvm.Cond.instanceMethod ({ cls := "RoundRows$Drawer", name := "kept", desc := "(I)I" } : Jvm.MethodName)) ∈ TT := mw 641 (by decide +kernel) (by decide +kernel)
theorem mw_642 : (Jvm.Cond.selects "RoundRows$Drawer" ({ cls := "RoundRows$Drawer", name := "kept", desc := "(I)I" } : Jvm.MethodName) ({ cls := "RoundRows$Drawer", name := "kept", desc := "(I)I" } : Jvm.MethodName)) ∈ TT := mw 642 (by decide +kernel) (by decide +kernel)
theorem mw_643 : (Jvm.Cond.code ({ cls := "RoundRows$Drawer", name := "kept", desc := "(I)I" } : Jvm.MethodName) prog_3_method_9_code (4 : Nat) (Option.some Jvm.ClassFile.FieldType.int)) ∈ TT := mw 643 (by decide +kernel) (by decide +kernel)
theorem mw_644 : (Jvm.Cond.methodLink "RoundRows" (254 : Nat) ({ cls := "RoundRows$Readers", name := "believing", desc := "(II)I" } : Jvm.MethodName)) ∈ TT := mw 644 (by decide +kernel) (by decide +kernel)
theorem mw_645 : (Jvm.Cond.instanceMethod ({ cls := "RoundRows$Readers", name := "believing", desc := "(II)I" } : Jvm.MethodName)) ∈ TT := mw 645 (by decide +kernel) (by decide +kernel)
theorem mw_646 : (Jvm.Cond.selects "RoundRows$Readers" ({ cls := "RoundRows$Readers", name := "believing", desc := "(II)I" } : Jvm.MethodName) ({ cls := "RoundRows$Readers", name := "believing", desc := "(II)I" } : Jvm.MethodName)) ∈ TT := mw 646 (by decide +kernel) (by decide +kernel)
theorem mw_647 : (Jvm.Cond.code ({ cls := "RoundRows$Readers", name := "believing", desc := "(II)I" } : Jvm.MethodName) prog_8_method_2_code (6 : Nat) (Option.some Jvm.ClassFile.FieldType.int)) ∈ TT := mw 647 (by decide +kernel) (by decide +kernel)
theorem mw_648 : (Jvm.Cond.methodLink "RoundRows$Readers" (19 : Nat) ({ cls := "java/lang/Integer", name := "bitCount", desc := "(I)I" } : Jvm.MethodName)) ∈ TT := mw 648 (by decide +kernel) (by decide +kernel)
theorem mw_649 : (Jvm.Cond.methodLink "RoundRowsLaw" (106 : Nat) ({ cls := "RoundRows", name := "least", desc := "(II)I" } : Jvm.MethodName)) ∈ TT := mw 649 (by decide +kernel) (by decide +kernel)
theorem mw_650 : (Jvm.Cond.instanceMethod ({ cls := "RoundRows", name := "least", desc := "(II)I" } : Jvm.MethodName)) ∈ TT := mw 650 (by decide +kernel) (by decide +kernel)
theorem mw_651 : (Jvm.Cond.selects "RoundRows" ({ cls := "RoundRows", name := "least", desc := "(II)I" } : Jvm.MethodName) ({ cls := "RoundRows", name := "least", desc := "(II)I" } : Jvm.MethodName)) ∈ TT := mw 651 (by decide +kernel) (by decide +kernel)
theorem mw_652 : (Jvm.Cond.code ({ cls := "RoundRows", name := "least", desc := "(II)I" } : Jvm.MethodName) prog_1_method_23_code (4 : Nat) (Option.some Jvm.ClassFile.FieldType.int)) ∈ TT := mw 652 (by decide +kernel) (by decide +kernel)
theorem mw_653 : (Jvm.Cond.methodLink "RoundRows" (258 : Nat) ({ cls := "RoundRows$Readers", name := "fewestToTurn", desc := "(ILRoundRows$Drawer;)I" } : Jvm.MethodName)) ∈ TT := mw 653 (by decide +kernel) (by decide +kernel)
theorem mw_654 : (Jvm.Cond.instanceMethod ({ cls := "RoundRows$Readers", name := "fewestToTurn", desc := "(ILRoundRows$Drawer;)I" } : Jvm.MethodName)) ∈ TT := mw 654 (by decide +kernel) (by decide +kernel)
theorem mw_655 : (Jvm.Cond.selects "RoundRows$Readers" ({ cls := "RoundRows$Readers", name := "fewestToTurn", desc := "(ILRoundRows$Drawer;)I" } : Jvm.MethodName) ({ cls := "RoundRows$Readers", name := "fewestToTurn", desc := "(ILRoundRows$Drawer;)I" } : Jvm.MethodName)) ∈ TT := mw 655 (by decide +kernel) (by decide +kernel)
theorem mw_656 : (Jvm.Cond.code ({ cls := "RoundRows$Readers", name := "fewestToTurn", desc := "(ILRoundRows$Drawer;)I" } : Jvm.MethodName) prog_8_method_3_code (10 : Nat) (Option.some Jvm.ClassFile.FieldType.int)) ∈ TT := mw 656 (by decide +kernel) (by decide +kernel)
theorem mw_657 : (Jvm.Cond.methodLink "RoundRows$Readers" (25 : Nat) ({ cls := "RoundRows$Drawer", name := "kept", desc := "(I)I" } : Jvm.MethodName)) ∈ TT := mw 657 (by decide +kernel) (by decide +kernel)
theorem mw_658 : (Jvm.Cond.methodLink "RoundRows$Readers" (30 : Nat) ({ cls := "RoundRows$Drawer", name := "firstUnprinted", desc := "()I" } : Jvm.MethodName)) ∈ TT := mw 658 (by decide +kernel) (by decide +kernel)
theorem mw_659 : (Jvm.Cond.instanceMethod ({ cls := "RoundRows$Drawer", name := "firstUnprinted", desc := "()I" } : Jvm.MethodName)) ∈ TT := mw 659 (by decide +kernel) (by decide +kernel)
theorem mw_660 : (Jvm.Cond.selects "RoundRows$Drawer" ({ cls := "RoundRows$Drawer", name := "firstUnprinted", desc := "()I" } : Jvm.MethodName) ({ cls := "RoundRows$Drawer", name := "firstUnprinted", desc := "()I" } : Jvm.MethodName)) ∈ TT := mw 660 (by decide +kernel) (by decide +kernel)
theorem mw_661 : (Jvm.Cond.code ({ cls := "RoundRows$Drawer", name := "firstUnprinted", desc := "()I" } : Jvm.MethodName) prog_3_method_12_code (4 : Nat) (Option.some Jvm.ClassFile.FieldType.int)) ∈ TT := mw 661 (by decide +kernel) (by decide +kernel)
theorem mw_662 : (Jvm.Cond.methodLink "RoundRows$Readers" (37 : Nat) ({ cls := "RoundRows$Readers", name := "believing", desc := "(II)I" } : Jvm.MethodName)) ∈ TT := mw 662 (by decide +kernel) (by decide +kernel)
theorem mw_663 : (Jvm.Cond.methodLink "RoundRowsLaw" (110 : Nat) ({ cls := "RoundRows", name := "truth", desc := "(I)I" } : Jvm.MethodName)) ∈ TT := mw 663 (by decide +kernel) (by decide +kernel)
theorem mw_664 : (Jvm.Cond.instanceMethod ({ cls := "RoundRows", name := "truth", desc := "(I)I" } : Jvm.MethodName)) ∈ TT := mw 664 (by decide +kernel) (by decide +kernel)
theorem mw_665 : (Jvm.Cond.selects "RoundRows" ({ cls := "RoundRows", name := "truth", desc := "(I)I" } : Jvm.MethodName) ({ cls := "RoundRows", name := "truth", desc := "(I)I" } : Jvm.MethodName)) ∈ TT := mw 665 (by decide +kernel) (by decide +kernel)
theorem mw_666 : (Jvm.Cond.code ({ cls := "RoundRows", name := "truth", desc := "(I)I" } : Jvm.MethodName) prog_1_method_24_code (3 : Nat) (Option.some Jvm.ClassFile.FieldType.int)) ∈ TT := mw 666 (by decide +kernel) (by decide +kernel)
theorem mw_667 : (Jvm.Cond.methodLink "RoundRowsLaw" (114 : Nat) ({ cls := "RoundRows", name := "good", desc := "(I)I" } : Jvm.MethodName)) ∈ TT := mw 667 (by decide +kernel) (by decide +kernel)
theorem mw_668 : (Jvm.Cond.instanceMethod ({ cls := "RoundRows", name := "good", desc := "(I)I" } : Jvm.MethodName)) ∈ TT := mw 668 (by decide +kernel) (by decide +kernel)
theorem mw_669 : (Jvm.Cond.selects "RoundRows" ({ cls := "RoundRows", name := "good", desc := "(I)I" } : Jvm.MethodName) ({ cls := "RoundRows", name := "good", desc := "(I)I" } : Jvm.MethodName)) ∈ TT := mw 669 (by decide +kernel) (by decide +kernel)
theorem mw_670 : (Jvm.Cond.code ({ cls := "RoundRows", name := "good", desc := "(I)I" } : Jvm.MethodName) prog_1_method_25_code (2 : Nat) (Option.some Jvm.ClassFile.FieldType.int)) ∈ TT := mw 670 (by decide +kernel) (by decide +kernel)
theorem mw_671 : (Jvm.Cond.methodLink "RoundRows" (270 : Nat) ({ cls := "RoundRows$Drawer", name := "goodBy", desc := "(I)I" } : Jvm.MethodName)) ∈ TT := mw 671 (by decide +kernel) (by decide +kernel)
theorem mw_672 : (Jvm.Cond.instanceMethod ({ cls := "RoundRows$Drawer", name := "goodBy", desc := "(I)I" } : Jvm.MethodName)) ∈ TT := mw 672 (by decide +kernel) (by decide +kernel)
theorem mw_673 : (Jvm.Cond.selects "RoundRows$Drawer" ({ cls := "RoundRows$Drawer", name := "goodBy", desc := "(I)I" } : Jvm.MethodName) ({ cls := "RoundRows$Drawer", name := "goodBy", desc := "(I)I" } : Jvm.MethodName)) ∈ TT := mw 673 (by decide +kernel) (by decide +kernel)
theorem mw_674 : (Jvm.Cond.code ({ cls := "RoundRows$Drawer", name := "goodBy", desc := "(I)I" } : Jvm.MethodName) prog_3_method_10_code (3 : Nat) (Option.some Jvm.ClassFile.FieldType.int)) ∈ TT := mw 674 (by decide +kernel) (by decide +kernel)
theorem mw_675 : (Jvm.Cond.methodLink "RoundRows$Drawer" (51 : Nat) ({ cls := "RoundRows$Drawer", name := "kept", desc := "(I)I" } : Jvm.MethodName)) ∈ TT := mw 675 (by decide +kernel) (by decide +kernel)
theorem mw_676 : (Jvm.Cond.methodLink "RoundRowsLaw" (118 : Nat) ({ cls := "RoundRows", name := "best", desc := "(I)I" } : Jvm.MethodName)) ∈ TT := mw 676 (by decide +kernel) (by decide +kernel)
theorem mw_677 : (Jvm.Cond.instanceMethod ({ cls := "RoundRows", name := "best", desc := "(I)I" } : Jvm.MethodName)) ∈ TT := mw 677 (by decide +kernel) (by decide +kernel)
theorem mw_678 : (Jvm.Cond.selects "RoundRows" ({ cls := "RoundRows", name := "best", desc := "(I)I" } : Jvm.MethodName) ({ cls := "RoundRows", name := "best", desc := "(I)I" } : Jvm.MethodName)) ∈ TT := mw 678 (by decide +kernel) (by decide +kernel)
theorem mw_679 : (Jvm.Cond.code ({ cls := "RoundRows", name := "best", desc := "(I)I" } : Jvm.MethodName) prog_1_method_26_code (3 : Nat) (Option.some Jvm.ClassFile.FieldType.int)) ∈ TT := mw 679 (by decide +kernel) (by decide +kernel)
theorem mw_680 : (Jvm.Cond.methodLink "RoundRows" (273 : Nat) ({ cls := "RoundRows$Drawer", name := "bestRule", desc := "()I" } : Jvm.MethodName)) ∈ TT := mw 680 (by decide +kernel) (by decide +kernel)
theorem mw_681 : (Jvm.Cond.instanceMethod ({ cls := "RoundRows$Drawer", name := "bestRule", desc := "()I" } : Jvm.MethodName)) ∈ TT := mw 681 (by decide +kernel) (by decide +kernel)
theorem mw_682 : (Jvm.Cond.selects "RoundRows$Drawer" ({ cls := "RoundRows$Drawer", name := "bestRule", desc := "()I" } : Jvm.MethodName) ({ cls := "RoundRows$Drawer", name := "bestRule", desc := "()I" } : Jvm.MethodName)) ∈ TT := mw 682 (by decide +kernel) (by decide +kernel)
theorem mw_683 : (Jvm.Cond.code ({ cls := "RoundRows$Drawer", name := "bestRule", desc := "()I" } : Jvm.MethodName) prog_3_method_11_code (5 : Nat) (Option.some Jvm.ClassFile.FieldType.int)) ∈ TT := mw 683 (by decide +kernel) (by decide +kernel)
theorem mw_684 : (Jvm.Cond.methodLink "RoundRows$Drawer" (54 : Nat) ({ cls := "RoundRows$Drawer", name := "goodBy", desc := "(I)I" } : Jvm.MethodName)) ∈ TT := mw 684 (by decide +kernel) (by decide +kernel)
theorem mw_685 : (Jvm.Cond.methodLink "RoundRowsLaw" (122 : Nat) ({ cls := "RoundRows", name := "told", desc := "(I)I" } : Jvm.MethodName)) ∈ TT := mw 685 (by decide +kernel) (by decide +kernel)
theorem mw_686 : (Jvm.Cond.instanceMethod ({ cls := "RoundRows", name := "told", desc := "(I)I" } : Jvm.MethodName)) ∈ TT := mw 686 (by decide +kernel) (by decide +kernel)
theorem mw_687 : (Jvm.Cond.selects "RoundRows" ({ cls := "RoundRows", name := "told", desc := "(I)I" } : Jvm.MethodName) ({ cls := "RoundRows", name := "told", desc := "(I)I" } : Jvm.MethodName)) ∈ TT := mw 687 (by decide +kernel) (by decide +kernel)
theorem mw_688 : (Jvm.Cond.code ({ cls := "RoundRows", name := "told", desc := "(I)I" } : Jvm.MethodName) prog_1_method_27_code (2 : Nat) (Option.some Jvm.ClassFile.FieldType.int)) ∈ TT := mw 688 (by decide +kernel) (by decide +kernel)
theorem mw_689 : (Jvm.Cond.methodLink "RoundRows" (276 : Nat) ({ cls := "RoundRows$Drawer", name := "all", desc := "()I" } : Jvm.MethodName)) ∈ TT := mw 689 (by decide +kernel) (by decide +kernel)
theorem mw_690 : (Jvm.Cond.instanceMethod ({ cls := "RoundRows$Drawer", name := "all", desc := "()I" } : Jvm.MethodName)) ∈ TT := mw 690 (by decide +kernel) (by decide +kernel)
theorem mw_691 : (Jvm.Cond.selects "RoundRows$Drawer" ({ cls := "RoundRows$Drawer", name := "all", desc := "()I" } : Jvm.MethodName) ({ cls := "RoundRows$Drawer", name := "all", desc := "()I" } : Jvm.MethodName)) ∈ TT := mw 691 (by decide +kernel) (by decide +kernel)
theorem mw_692 : (Jvm.Cond.code ({ cls := "RoundRows$Drawer", name := "all", desc := "()I" } : Jvm.MethodName) prog_3_method_4_code (1 : Nat) (Option.some Jvm.ClassFile.FieldType.int)) ∈ TT := mw 692 (by decide +kernel) (by decide +kernel)
theorem mw_693 : (Jvm.Cond.methodLink "RoundRows" (279 : Nat) ({ cls := "RoundRows", name := "numbersIn", desc := "([I)I" } : Jvm.MethodName)) ∈ TT := mw 693 (by decide +kernel) (by decide +kernel)
theorem mw_694 : (Jvm.Cond.static ({ cls := "RoundRows", name := "numbersIn", desc := "([I)I" } : Jvm.MethodName)) ∈ TT := mw 694 (by decide +kernel) (by decide +kernel)
theorem mw_695 : (Jvm.Cond.code ({ cls := "RoundRows", name := "numbersIn", desc := "([I)I" } : Jvm.MethodName) prog_1_method_36_code (3 : Nat) (Option.some Jvm.ClassFile.FieldType.int)) ∈ TT := mw 695 (by decide +kernel) (by decide +kernel)
theorem mw_698 : (Jvm.Cond.methodLink "RoundRowsLaw" (12 : Nat) ({ cls := "RoundRowsModel", name := "<init>", desc := "()V" } : Jvm.MethodName)) ∈ TT := mw 698 (by decide +kernel) (by decide +kernel)
theorem mw_699 : (Jvm.Cond.instanceMethod ({ cls := "RoundRowsModel", name := "<init>", desc := "()V" } : Jvm.MethodName)) ∈ TT := mw 699 (by decide +kernel) (by decide +kernel)
theorem mw_700 : (Jvm.Cond.code ({ cls := "RoundRowsModel", name := "<init>", desc := "()V" } : Jvm.MethodName) prog_12_method_1_code (2 : Nat) (Option.none : Option Jvm.ClassFile.FieldType)) ∈ TT := mw 700 (by decide +kernel) (by decide +kernel)
theorem mw_701 : (Jvm.Cond.methodLink "RoundRowsModel" (1 : Nat) ({ cls := "java/lang/Object", name := "<init>", desc := "()V" } : Jvm.MethodName)) ∈ TT := mw 701 (by decide +kernel) (by decide +kernel)
theorem mw_702 : (Jvm.Cond.constant "RoundRowsModel" (53 : Nat) (-1000000 : Int32)) ∈ TT := mw 702 (by decide +kernel) (by decide +kernel)
theorem mw_703 : (Jvm.Cond.fieldLink "RoundRowsModel" (7 : Nat) "RoundRowsModel" "years" "[I") ∈ TT := mw 703 (by decide +kernel) (by decide +kernel)
theorem mw_704 : (Jvm.Cond.fieldLink "RoundRowsModel" (13 : Nat) "RoundRowsModel" "signs" "[I") ∈ TT := mw 704 (by decide +kernel) (by decide +kernel)
theorem mw_705 : (Jvm.Cond.fieldLink "RoundRowsModel" (83 : Nat) "RoundRowsModel" "signMany" "I") ∈ TT := mw 705 (by decide +kernel) (by decide +kernel)
theorem mw_706 : (Jvm.Cond.fieldLink "RoundRowsModel" (16 : Nat) "RoundRowsModel" "row" "[I") ∈ TT := mw 706 (by decide +kernel) (by decide +kernel)
theorem mw_707 : (Jvm.Cond.fieldLink "RoundRowsModel" (19 : Nat) "RoundRowsModel" "rowWas" "[I") ∈ TT := mw 707 (by decide +kernel) (by decide +kernel)
theorem mw_708 : (Jvm.Cond.fieldLink "RoundRowsModel" (22 : Nat) "RoundRowsModel" "place" "[I") ∈ TT := mw 708 (by decide +kernel) (by decide +kernel)
theorem mw_709 : (Jvm.Cond.fieldLink "RoundRowsModel" (25 : Nat) "RoundRowsModel" "number" "[I") ∈ TT := mw 709 (by decide +kernel) (by decide +kernel)
theorem mw_710 : (Jvm.Cond.fieldLink "RoundRowsModel" (131 : Nat) "RoundRowsModel" "many" "I") ∈ TT := mw 710 (by decide +kernel) (by decide +kernel)
theorem mw_711 : (Jvm.Cond.fieldLink "RoundRowsModel" (28 : Nat) "RoundRowsModel" "heapSum" "[J") ∈ TT := mw 711 (by decide +kernel) (by decide +kernel)
theorem mw_712 : (Jvm.Cond.fieldLink "RoundRowsModel" (32 : Nat) "RoundRowsModel" "heapMany" "[I") ∈ TT := mw 712 (by decide +kernel) (by decide +kernel)
theorem mw_713 : (Jvm.Cond.fieldLink "RoundRowsModel" (35 : Nat) "RoundRowsModel" "turns" "[I") ∈ TT := mw 713 (by decide +kernel) (by decide +kernel)
theorem mw_714 : (Jvm.Cond.fieldLink "RoundRowsModel" (38 : Nat) "RoundRowsModel" "other" "[I") ∈ TT := mw 714 (by decide +kernel) (by decide +kernel)
theorem mw_715 : (Jvm.Cond.fieldLink "RoundRowsModel" (201 : Nat) "RoundRowsModel" "togetherUpper" "J") ∈ TT := mw 715 (by decide +kernel) (by decide +kernel)
theorem mw_716 : (Jvm.Cond.fieldLink "RoundRowsModel" (205 : Nat) "RoundRowsModel" "togetherLower" "J") ∈ TT := mw 716 (by decide +kernel) (by decide +kernel)
theorem mw_717 : (Jvm.Cond.fieldLink "RoundRowsModel" (224 : Nat) "RoundRowsModel" "foundLength" "I") ∈ TT := mw 717 (by decide +kernel) (by decide +kernel)
theorem mw_718 : (Jvm.Cond.fieldLink "RoundRowsModel" (227 : Nat) "RoundRowsModel" "heldMany" "I") ∈ TT := mw 718 (by decide +kernel) (by decide +kernel)
theorem mw_719 : (Jvm.Cond.fieldLink "RoundRowsModel" (230 : Nat) "RoundRowsModel" "heldOf" "I") ∈ TT := mw 719 (by decide +kernel) (by decide +kernel)
theorem mw_720 : (Jvm.Cond.fieldLink "RoundRowsModel" (41 : Nat) "RoundRowsModel" "trialRow" "[I") ∈ TT := mw 720 (by decide +kernel) (by decide +kernel)
theorem mw_721 : (Jvm.Cond.fieldLink "RoundRowsModel" (44 : Nat) "RoundRowsModel" "trialLength" "[I") ∈ TT := mw 721 (by decide +kernel) (by decide +kernel)
theorem mw_722 : (Jvm.Cond.fieldLink "RoundRowsModel" (47 : Nat) "RoundRowsModel" "percent" "[I") ∈ TT := mw 722 (by decide +kernel) (by decide +kernel)
theorem mw_723 : (Jvm.Cond.fieldLink "RoundRowsModel" (252 : Nat) "RoundRowsModel" "printed" "I") ∈ TT := mw 723 (by decide +kernel) (by decide +kernel)
theorem mw_724 : (Jvm.Cond.fieldLink "RoundRowsModel" (246 : Nat) "RoundRowsModel" "trials" "I") ∈ TT := mw 724 (by decide +kernel) (by decide +kernel)
theorem mw_725 : (Jvm.Cond.fieldLink "RoundRowsModel" (50 : Nat) "RoundRowsModel" "reading" "[I") ∈ TT := mw 725 (by decide +kernel) (by decide +kernel)
theorem mw_726 : (Jvm.Cond.fieldLink "RoundRowsModel" (54 : Nat) "RoundRowsModel" "barIs" "I") ∈ TT := mw 726 (by decide +kernel) (by decide +kernel)
theorem mw_727 : (Jvm.Cond.fieldLink "RoundRowsModel" (268 : Nat) "RoundRowsModel" "trueOnes" "I") ∈ TT := mw 727 (by decide +kernel) (by decide +kernel)
theorem mw_779 : (Jvm.Cond.methodLink "RoundRowsLaw" (17 : Nat) ({ cls := "RoundRowsModel", name := "year", desc := "(III)I" } : Jvm.MethodName)) ∈ TT := mw 779 (by decide +kernel) (by decide +kernel)
theorem mw_780 : (Jvm.Cond.instanceMethod ({ cls := "RoundRowsModel", name := "year", desc := "(III)I" } : Jvm.MethodName)) ∈ TT := mw 780 (by decide +kernel) (by decide +kernel)
theorem mw_781 : (Jvm.Cond.selects "RoundRowsModel" ({ cls := "RoundRowsModel", name := "year", desc := "(III)I" } : Jvm.MethodName) ({ cls := "RoundRowsModel", name := "year", desc := "(III)I" } : Jvm.MethodName)) ∈ TT := mw 781 (by decide +kernel) (by decide +kernel)
theorem mw_782 : (Jvm.Cond.code ({ cls := "RoundRowsModel", name := "year", desc := "(III)I" } : Jvm.MethodName) prog_12_method_9_code (5 : Nat) (Option.some Jvm.ClassFile.FieldType.int)) ∈ TT := mw 782 (by decide +kernel) (by decide +kernel)
theorem mw_783 : (Jvm.Cond.methodLink "RoundRowsModel" (66 : Nat) ({ cls := "RoundRowsModel", name := "isRow", desc := "(I)Z" } : Jvm.MethodName)) ∈ TT := mw 783 (by decide +kernel) (by decide +kernel)
theorem mw_784 : (Jvm.Cond.static ({ cls := "RoundRowsModel", name := "isRow", desc := "(I)Z" } : Jvm.MethodName)) ∈ TT := mw 784 (by decide +kernel) (by decide +kernel)
theorem mw_785 : (Jvm.Cond.code ({ cls := "RoundRowsModel", name := "isRow", desc := "(I)Z" } : Jvm.MethodName) prog_12_method_7_code (1 : Nat) (Option.some Jvm.ClassFile.FieldType.boolean)) ∈ TT := mw 785 (by decide +kernel) (by decide +kernel)
theorem mw_786 : (Jvm.Cond.constantLong "RoundRowsModel" (62 : Nat) (5 : Int64)) ∈ TT := mw 786 (by decide +kernel) (by decide +kernel)
theorem mw_787 : (Jvm.Cond.methodLink "RoundRowsModel" (58 : Nat) ({ cls := "RoundRowsModel", name := "in", desc := "(JJJ)Z" } : Jvm.MethodName)) ∈ TT := mw 787 (by decide +kernel) (by decide +kernel)
theorem mw_788 : (Jvm.Cond.static ({ cls := "RoundRowsModel", name := "in", desc := "(JJJ)Z" } : Jvm.MethodName)) ∈ TT := mw 788 (by decide +kernel) (by decide +kernel)
theorem mw_789 : (Jvm.Cond.code ({ cls := "RoundRowsModel", name := "in", desc := "(JJJ)Z" } : Jvm.MethodName) prog_12_method_3_code (6 : Nat) (Option.some Jvm.ClassFile.FieldType.boolean)) ∈ TT := mw 789 (by decide +kernel) (by decide +kernel)
theorem mw_790 : (Jvm.Cond.constant "RoundRowsModel" (70 : Nat) (-1000001 : Int32)) ∈ TT := mw 790 (by decide +kernel) (by decide +kernel)
theorem mw_791 : (Jvm.Cond.methodLink "RoundRowsModel" (71 : Nat) ({ cls := "RoundRowsModel", name := "isYear", desc := "(I)Z" } : Jvm.MethodName)) ∈ TT := mw 791 (by decide +kernel) (by decide +kernel)
theorem mw_792 : (Jvm.Cond.static ({ cls := "RoundRowsModel", name := "isYear", desc := "(I)Z" } : Jvm.MethodName)) ∈ TT := mw 792 (by decide +kernel) (by decide +kernel)
theorem mw_793 : (Jvm.Cond.code ({ cls := "RoundRowsModel", name := "isYear", desc := "(I)Z" } : Jvm.MethodName) prog_12_method_8_code (1 : Nat) (Option.some Jvm.ClassFile.FieldType.boolean)) ∈ TT := mw 793 (by decide +kernel) (by decide +kernel)
theorem mw_794 : (Jvm.Cond.constantLong "RoundRowsModel" (64 : Nat) (23 : Int64)) ∈ TT := mw 794 (by decide +kernel) (by decide +kernel)
theorem mw_795 : (Jvm.Cond.constantLong "RoundRowsModel" (74 : Nat) (-99 : Int64)) ∈ TT := mw 795 (by decide +kernel) (by decide +kernel)
theorem mw_796 : (Jvm.Cond.constantLong "RoundRowsModel" (76 : Nat) (99 : Int64)) ∈ TT := mw 796 (by decide +kernel) (by decide +kernel)
theorem mw_797 : (Jvm.Cond.constant "RoundRowsModel" (78 : Nat) (-1000002 : Int32)) ∈ TT := mw 797 (by decide +kernel) (by decide +kernel)
theorem mw_798 : (Jvm.Cond.methodLink "RoundRowsLaw" (22 : Nat) ({ cls := "RoundRowsModel", name := "say", desc := "(I)I" } : Jvm.MethodName)) ∈ TT := mw 798 (by decide +kernel) (by decide +kernel)
theorem mw_799 : (Jvm.Cond.instanceMethod ({ cls := "RoundRowsModel", name := "say", desc := "(I)I" } : Jvm.MethodName)) ∈ TT := mw 799 (by decide +kernel) (by decide +kernel)
theorem mw_800 : (Jvm.Cond.selects "RoundRowsModel" ({ cls := "RoundRowsModel", name := "say", desc := "(I)I" } : Jvm.MethodName) ({ cls := "RoundRowsModel", name := "say", desc := "(I)I" } : Jvm.MethodName)) ∈ TT := mw 800 (by decide +kernel) (by decide +kernel)
theorem mw_801 : (Jvm.Cond.code ({ cls := "RoundRowsModel", name := "say", desc := "(I)I" } : Jvm.MethodName) prog_12_method_10_code (2 : Nat) (Option.some Jvm.ClassFile.FieldType.int)) ∈ TT := mw 801 (by decide +kernel) (by decide +kernel)
theorem mw_802 : (Jvm.Cond.constantLong "RoundRowsModel" (79 : Nat) (33 : Int64)) ∈ TT := mw 802 (by decide +kernel) (by decide +kernel)
theorem mw_803 : (Jvm.Cond.constantLong "RoundRowsModel" (81 : Nat) (126 : Int64)) ∈ TT := mw 803 (by decide +kernel) (by decide +kernel)
theorem mw_804 : (Jvm.Cond.methodLink "RoundRowsLaw" (27 : Nat) ({ cls := "RoundRowsModel", name := "wipe", desc := "()I" } : Jvm.MethodName)) ∈ TT := mw 804 (by decide +kernel) (by decide +kernel)
theorem mw_805 : (Jvm.Cond.instanceMethod ({ cls := "RoundRowsModel", name := "wipe", desc := "()I" } : Jvm.MethodName)) ∈ TT := mw 805 (by decide +kernel) (by decide +kernel)
theorem mw_806 : (Jvm.Cond.selects "RoundRowsModel" ({ cls := "RoundRowsModel", name := "wipe", desc := "()I" } : Jvm.MethodName) ({ cls := "RoundRowsModel", name := "wipe", desc := "()I" } : Jvm.MethodName)) ∈ TT := mw 806 (by decide +kernel) (by decide +kernel)
theorem mw_807 : (Jvm.Cond.code ({ cls := "RoundRowsModel", name := "wipe", desc := "()I" } : Jvm.MethodName) prog_12_method_11_code (2 : Nat) (Option.some Jvm.ClassFile.FieldType.int)) ∈ TT := mw 807 (by decide +kernel) (by decide +kernel)
theorem mw_808 : (Jvm.Cond.methodLink "RoundRowsLaw" (31 : Nat) ({ cls := "RoundRowsModel", name := "fault", desc := "()I" } : Jvm.MethodName)) ∈ TT := mw 808 (by decide +kernel) (by decide +kernel)
theorem mw_809 : (Jvm.Cond.instanceMethod ({ cls := "RoundRowsModel", name := "fault", desc := "()I" } : Jvm.MethodName)) ∈ TT := mw 809 (by decide +kernel) (by decide +kernel)
theorem mw_810 : (Jvm.Cond.selects "RoundRowsModel" ({ cls := "RoundRowsModel", name := "fault", desc := "()I" } : Jvm.MethodName) ({ cls := "RoundRowsModel", name := "fault", desc := "()I" } : Jvm.MethodName)) ∈ TT := mw 810 (by decide +kernel) (by decide +kernel)
theorem mw_811 : (Jvm.Cond.code ({ cls := "RoundRowsModel", name := "fault", desc := "()I" } : Jvm.MethodName) prog_12_method_15_code (6 : Nat) (Option.some Jvm.ClassFile.FieldType.int)) ∈ TT := mw 811 (by decide +kernel) (by decide +kernel)
theorem mw_812 : (Jvm.Cond.methodLink "RoundRowsModel" (92 : Nat) ({ cls := "RoundRowsModel", name := "digitsOf", desc := "(I)I" } : Jvm.MethodName)) ∈ TT := mw 812 (by decide +kernel) (by decide +kernel)
theorem mw_813 : (Jvm.Cond.static ({ cls := "RoundRowsModel", name := "digitsOf", desc := "(I)I" } : Jvm.MethodName)) ∈ TT := mw 813 (by decide +kernel) (by decide +kernel)
theorem mw_814 : (Jvm.Cond.code ({ cls := "RoundRowsModel", name := "digitsOf", desc := "(I)I" } : Jvm.MethodName) prog_12_method_14_code (1 : Nat) (Option.some Jvm.ClassFile.FieldType.int)) ∈ TT := mw 814 (by decide +kernel) (by decide +kernel)
theorem mw_815 : (Jvm.Cond.constantLong "RoundRowsModel" (95 : Nat) (50 : Int64)) ∈ TT := mw 815 (by decide +kernel) (by decide +kernel)
theorem mw_816 : (Jvm.Cond.constantLong "RoundRowsModel" (97 : Nat) (53 : Int64)) ∈ TT := mw 816 (by decide +kernel) (by decide +kernel)
theorem mw_817 : (Jvm.Cond.constantLong "RoundRowsModel" (99 : Nat) (49 : Int64)) ∈ TT := mw 817 (by decide +kernel) (by decide +kernel)
theorem mw_818 : (Jvm.Cond.constantLong "RoundRowsModel" (101 : Nat) (57 : Int64)) ∈ TT := mw 818 (by decide +kernel) (by decide +kernel)
theorem mw_819 : (Jvm.Cond.methodLink "RoundRowsModel" (103 : Nat) ({ cls := "RoundRowsModel", name := "mayStand", desc := "(II)Z" } : Jvm.MethodName)) ∈ TT := mw 819 (by decide +kernel) (by decide +kernel)
theorem mw_821 : (Jvm.Cond.instanceMethod ({ cls := "RoundRowsModel", name := "mayStand", desc := "(II)Z" } : Jvm.MethodName)) ∈ TT := mw 821 (by decide +kernel) (by decide +kernel)
theorem mw_822 : (Jvm.Cond.code ({ cls := "RoundRowsModel", name := "mayStand", desc := "(II)Z" } : Jvm.MethodName) prog_12_method_13_code (6 : Nat) (Option.some Jvm.ClassFile.FieldType.boolean)) ∈ TT := mw 822 (by decide +kernel) (by decide +kernel)
theorem mw_823 : (Jvm.Cond.constantLong "RoundRowsModel" (86 : Nat) (9 : Int64)) ∈ TT := mw 823 (by decide +kernel) (by decide +kernel)
theorem mw_824 : (Jvm.Cond.methodLink "RoundRowsModel" (88 : Nat) ({ cls := "RoundRowsModel", name := "two", desc := "(I)I" } : Jvm.MethodName)) ∈ TT := mw 824 (by decide +kernel) (by decide +kernel)
theorem mw_826 : (Jvm.Cond.instanceMethod ({ cls := "RoundRowsModel", name := "two", desc := "(I)I" } : Jvm.MethodName)) ∈ TT := mw 826 (by decide +kernel) (by decide +kernel)
theorem mw_827 : (Jvm.Cond.code ({ cls := "RoundRowsModel", name := "two", desc := "(I)I" } : Jvm.MethodName) prog_12_method_12_code (2 : Nat) (Option.some Jvm.ClassFile.FieldType.int)) ∈ TT := mw 827 (by decide +kernel) (by decide +kernel)
theorem mw_828 : (Jvm.Cond.methodLink "RoundRowsLaw" (36 : Nat) ({ cls := "RoundRowsModel", name := "dealt", desc := "(II)I" } : Jvm.MethodName)) ∈ TT := mw 828 (by decide +kernel) (by decide +kernel)
theorem mw_829 : (Jvm.Cond.instanceMethod ({ cls := "RoundRowsModel", name := "dealt", desc := "(II)I" } : Jvm.MethodName)) ∈ TT := mw 829 (by decide +kernel) (by decide +kernel)
theorem mw_830 : (Jvm.Cond.selects "RoundRowsModel" ({ cls := "RoundRowsModel", name := "dealt", desc := "(II)I" } : Jvm.MethodName) ({ cls := "RoundRowsModel", name := "dealt", desc := "(II)I" } : Jvm.MethodName)) ∈ TT := mw 830 (by decide +kernel) (by decide +kernel)
theorem mw_831 : (Jvm.Cond.code ({ cls := "RoundRowsModel", name := "dealt", desc := "(II)I" } : Jvm.MethodName) prog_12_method_20_code (3 : Nat) (Option.some Jvm.ClassFile.FieldType.int)) ∈ TT := mw 831 (by decide +kernel) (by decide +kernel)
theorem mw_832 : (Jvm.Cond.methodLink "RoundRowsModel" (122 : Nat) ({ cls := "RoundRowsModel", name := "fault", desc := "()I" } : Jvm.MethodName)) ∈ TT := mw 832 (by decide +kernel) (by decide +kernel)
theorem mw_833 : (Jvm.Cond.constant "RoundRowsModel" (126 : Nat) (-1000005 : Int32)) ∈ TT := mw 833 (by decide +kernel) (by decide +kernel)
theorem mw_834 : (Jvm.Cond.methodLink "RoundRowsModel" (127 : Nat) ({ cls := "RoundRowsModel", name := "deal", desc := "(I)V" } : Jvm.MethodName)) ∈ TT := mw 834 (by decide +kernel) (by decide +kernel)
theorem mw_836 : (Jvm.Cond.instanceMethod ({ cls := "RoundRowsModel", name := "deal", desc := "(I)V" } : Jvm.MethodName)) ∈ TT := mw 836 (by decide +kernel) (by decide +kernel)
theorem mw_837 : (Jvm.Cond.code ({ cls := "RoundRowsModel", name := "deal", desc := "(I)V" } : Jvm.MethodName) prog_12_method_19_code (4 : Nat) (Option.none : Option Jvm.ClassFile.FieldType)) ∈ TT := mw 837 (by decide +kernel) (by decide +kernel)
theorem mw_838 : (Jvm.Cond.methodLink "RoundRowsModel" (118 : Nat) ({ cls := "RoundRowsModel", name := "becomes", desc := "(II)I" } : Jvm.MethodName)) ∈ TT := mw 838 (by decide +kernel) (by decide +kernel)
theorem mw_840 : (Jvm.Cond.instanceMethod ({ cls := "RoundRowsModel", name := "becomes", desc := "(II)I" } : Jvm.MethodName)) ∈ TT := mw 840 (by decide +kernel) (by decide +kernel)
theorem mw_841 : (Jvm.Cond.code ({ cls := "RoundRowsModel", name := "becomes", desc := "(II)I" } : Jvm.MethodName) prog_12_method_18_code (7 : Nat) (Option.some Jvm.ClassFile.FieldType.int)) ∈ TT := mw 841 (by decide +kernel) (by decide +kernel)
theorem mw_842 : (Jvm.Cond.methodLink "RoundRowsModel" (111 : Nat) ({ cls := "RoundRowsModel", name := "wasAt", desc := "(I)I" } : Jvm.MethodName)) ∈ TT := mw 842 (by decide +kernel) (by decide +kernel)
theorem mw_844 : (Jvm.Cond.instanceMethod ({ cls := "RoundRowsModel", name := "wasAt", desc := "(I)I" } : Jvm.MethodName)) ∈ TT := mw 844 (by decide +kernel) (by decide +kernel)
theorem mw_845 : (Jvm.Cond.code ({ cls := "RoundRowsModel", name := "wasAt", desc := "(I)I" } : Jvm.MethodName) prog_12_method_17_code (2 : Nat) (Option.some Jvm.ClassFile.FieldType.int)) ∈ TT := mw 845 (by decide +kernel) (by decide +kernel)
theorem mw_846 : (Jvm.Cond.methodLink "RoundRowsModel" (114 : Nat) ({ cls := "RoundRowsModel", name := "held", desc := "(J)I" } : Jvm.MethodName)) ∈ TT := mw 846 (by decide +kernel) (by decide +kernel)
theorem mw_847 : (Jvm.Cond.static ({ cls := "RoundRowsModel", name := "held", desc := "(J)I" } : Jvm.MethodName)) ∈ TT := mw 847 (by decide +kernel) (by decide +kernel)
theorem mw_848 : (Jvm.Cond.code ({ cls := "RoundRowsModel", name := "held", desc := "(J)I" } : Jvm.MethodName) prog_12_method_16_code (2 : Nat) (Option.some Jvm.ClassFile.FieldType.int)) ∈ TT := mw 848 (by decide +kernel) (by decide +kernel)
theorem mw_849 : (Jvm.Cond.constantLong "RoundRowsModel" (107 : Nat) (999 : Int64)) ∈ TT := mw 849 (by decide +kernel) (by decide +kernel)
theorem mw_850 : (Jvm.Cond.constantLong "RoundRowsModel" (109 : Nat) (-999 : Int64)) ∈ TT := mw 850 (by decide +kernel) (by decide +kernel)
theorem mw_851 : (Jvm.Cond.methodLink "RoundRowsLaw" (41 : Nat) ({ cls := "RoundRowsModel", name := "share", desc := "(III)J" } : Jvm.MethodName)) ∈ TT := mw 851 (by decide +kernel) (by decide +kernel)
theorem mw_852 : (Jvm.Cond.instanceMethod ({ cls := "RoundRowsModel", name := "share", desc := "(III)J" } : Jvm.MethodName)) ∈ TT := mw 852 (by decide +kernel) (by decide +kernel)
theorem mw_853 : (Jvm.Cond.selects "RoundRowsModel" ({ cls := "RoundRowsModel", name := "share", desc := "(III)J" } : Jvm.MethodName) ({ cls := "RoundRowsModel", name := "share", desc := "(III)J" } : Jvm.MethodName)) ∈ TT := mw 853 (by decide +kernel) (by decide +kernel)
theorem mw_854 : (Jvm.Cond.code ({ cls := "RoundRowsModel", name := "share", desc := "(III)J" } : Jvm.MethodName) prog_12_method_27_code (6 : Nat) (Option.some Jvm.ClassFile.FieldType.long)) ∈ TT := mw 854 (by decide +kernel) (by decide +kernel)
theorem mw_855 : (Jvm.Cond.constantLong "RoundRowsModel" (147 : Nat) (-1000000000000000001 : Int64)) ∈ TT := mw 855 (by decide +kernel) (by decide +kernel)
theorem mw_856 : (Jvm.Cond.methodLink "RoundRowsModel" (149 : Nat) ({ cls := "RoundRowsModel", name := "isLength", desc := "(I)Z" } : Jvm.MethodName)) ∈ TT := mw 856 (by decide +kernel) (by decide +kernel)
theorem mw_857 : (Jvm.Cond.static ({ cls := "RoundRowsModel", name := "isLength", desc := "(I)Z" } : Jvm.MethodName)) ∈ TT := mw 857 (by decide +kernel) (by decide +kernel)
theorem mw_858 : (Jvm.Cond.code ({ cls := "RoundRowsModel", name := "isLength", desc := "(I)Z" } : Jvm.MethodName) prog_12_method_26_code (1 : Nat) (Option.some Jvm.ClassFile.FieldType.boolean)) ∈ TT := mw 858 (by decide +kernel) (by decide +kernel)
theorem mw_859 : (Jvm.Cond.constantLong "RoundRowsModel" (143 : Nat) (2 : Int64)) ∈ TT := mw 859 (by decide +kernel) (by decide +kernel)
theorem mw_860 : (Jvm.Cond.constantLong "RoundRowsModel" (145 : Nat) (12 : Int64)) ∈ TT := mw 860 (by decide +kernel) (by decide +kernel)
theorem mw_861 : (Jvm.Cond.methodLink "RoundRowsModel" (152 : Nat) ({ cls := "RoundRowsModel", name := "isPart", desc := "(I)Z" } : Jvm.MethodName)) ∈ TT := mw 861 (by decide +kernel) (by decide +kernel)
theorem mw_862 : (Jvm.Cond.static ({ cls := "RoundRowsModel", name := "isPart", desc := "(I)Z" } : Jvm.MethodName)) ∈ TT := mw 862 (by decide +kernel) (by decide +kernel)
theorem mw_863 : (Jvm.Cond.code ({ cls := "RoundRowsModel", name := "isPart", desc := "(I)Z" } : Jvm.MethodName) prog_12_method_6_code (1 : Nat) (Option.some Jvm.ClassFile.FieldType.boolean)) ∈ TT := mw 863 (by decide +kernel) (by decide +kernel)
theorem mw_864 : (Jvm.Cond.constantLong "RoundRowsModel" (155 : Nat) (-1000000000000000002 : Int64)) ∈ TT := mw 864 (by decide +kernel) (by decide +kernel)
theorem mw_865 : (Jvm.Cond.constantLong "RoundRowsModel" (157 : Nat) (-1000000000000000005 : Int64)) ∈ TT := mw 865 (by decide +kernel) (by decide +kernel)
theorem mw_866 : (Jvm.Cond.methodLink "RoundRowsModel" (159 : Nat) ({ cls := "RoundRowsModel", name := "layNumbers", desc := "(I)V" } : Jvm.MethodName)) ∈ TT := mw 866 (by decide +kernel) (by decide +kernel)
theorem mw_868 : (Jvm.Cond.instanceMethod ({ cls := "RoundRowsModel", name := "layNumbers", desc := "(I)V" } : Jvm.MethodName)) ∈ TT := mw 868 (by decide +kernel) (by decide +kernel)
theorem mw_869 : (Jvm.Cond.code ({ cls := "RoundRowsModel", name := "layNumbers", desc := "(I)V" } : Jvm.MethodName) prog_12_method_21_code (3 : Nat) (Option.none : Option Jvm.ClassFile.FieldType)) ∈ TT := mw 869 (by decide +kernel) (by decide +kernel)
theorem mw_870 : (Jvm.Cond.methodLink "RoundRowsModel" (162 : Nat) ({ cls := "RoundRowsModel", name := "lowerOf", desc := "()J" } : Jvm.MethodName)) ∈ TT := mw 870 (by decide +kernel) (by decide +kernel)
theorem mw_872 : (Jvm.Cond.instanceMethod ({ cls := "RoundRowsModel", name := "lowerOf", desc := "()J" } : Jvm.MethodName)) ∈ TT := mw 872 (by decide +kernel) (by decide +kernel)
theorem mw_873 : (Jvm.Cond.code ({ cls := "RoundRowsModel", name := "lowerOf", desc := "()J" } : Jvm.MethodName) prog_12_method_25_code (6 : Nat) (Option.some Jvm.ClassFile.FieldType.long)) ∈ TT := mw 873 (by decide +kernel) (by decide +kernel)
theorem mw_874 : (Jvm.Cond.methodLink "RoundRowsModel" (137 : Nat) ({ cls := "RoundRowsModel", name := "sumOf", desc := "()J" } : Jvm.MethodName)) ∈ TT := mw 874 (by decide +kernel) (by decide +kernel)
theorem mw_876 : (Jvm.Cond.instanceMethod ({ cls := "RoundRowsModel", name := "sumOf", desc := "()J" } : Jvm.MethodName)) ∈ TT := mw 876 (by decide +kernel) (by decide +kernel)
theorem mw_877 : (Jvm.Cond.code ({ cls := "RoundRowsModel", name := "sumOf", desc := "()J" } : Jvm.MethodName) prog_12_method_23_code (4 : Nat) (Option.some Jvm.ClassFile.FieldType.long)) ∈ TT := mw 877 (by decide +kernel) (by decide +kernel)
theorem mw_878 : (Jvm.Cond.constantLong "RoundRowsModel" (141 : Nat) (27720 : Int64)) ∈ TT := mw 878 (by decide +kernel) (by decide +kernel)
theorem mw_879 : (Jvm.Cond.methodLink "RoundRowsModel" (165 : Nat) ({ cls := "RoundRowsModel", name := "upperOf", desc := "(I)J" } : Jvm.MethodName)) ∈ TT := mw 879 (by decide +kernel) (by decide +kernel)
theorem mw_881 : (Jvm.Cond.instanceMethod ({ cls := "RoundRowsModel", name := "upperOf", desc := "(I)J" } : Jvm.MethodName)) ∈ TT := mw 881 (by decide +kernel) (by decide +kernel)
theorem mw_882 : (Jvm.Cond.code ({ cls := "RoundRowsModel", name := "upperOf", desc := "(I)J" } : Jvm.MethodName) prog_12_method_24_code (7 : Nat) (Option.some Jvm.ClassFile.FieldType.long)) ∈ TT := mw 882 (by decide +kernel) (by decide +kernel)
theorem mw_883 : (Jvm.Cond.methodLink "RoundRowsModel" (134 : Nat) ({ cls := "RoundRowsModel", name := "layHeaps", desc := "(I)V" } : Jvm.MethodName)) ∈ TT := mw 883 (by decide +kernel) (by decide +kernel)
theorem mw_885 : (Jvm.Cond.instanceMethod ({ cls := "RoundRowsModel", name := "layHeaps", desc := "(I)V" } : Jvm.MethodName)) ∈ TT := mw 885 (by decide +kernel) (by decide +kernel)
theorem mw_886 : (Jvm.Cond.code ({ cls := "RoundRowsModel", name := "layHeaps", desc := "(I)V" } : Jvm.MethodName) prog_12_method_22_code (3 : Nat) (Option.none : Option Jvm.ClassFile.FieldType)) ∈ TT := mw 886 (by decide +kernel) (by decide +kernel)
theorem mw_887 : (Jvm.Cond.methodLink "RoundRowsModel" (169 : Nat) ({ cls := "RoundRowsModel", name := "lowest", desc := "(JJI)J" } : Jvm.MethodName)) ∈ TT := mw 887 (by decide +kernel) (by decide +kernel)
theorem mw_888 : (Jvm.Cond.static ({ cls := "RoundRowsModel", name := "lowest", desc := "(JJI)J" } : Jvm.MethodName)) ∈ TT := mw 888 (by decide +kernel) (by decide +kernel)
theorem mw_889 : (Jvm.Cond.code ({ cls := "RoundRowsModel", name := "lowest", desc := "(JJI)J" } : Jvm.MethodName) prog_12_method_5_code (11 : Nat) (Option.some Jvm.ClassFile.FieldType.long)) ∈ TT := mw 889 (by decide +kernel) (by decide +kernel)
theorem mw_890 : (Jvm.Cond.methodLink "RoundRowsLaw" (45 : Nat) ({ cls := "RoundRowsModel", name := "odds", desc := "(III)J" } : Jvm.MethodName)) ∈ TT := mw 890 (by decide +kernel) (by decide +kernel)
theorem mw_891 : (Jvm.Cond.instanceMethod ({ cls := "RoundRowsModel", name := "odds", desc := "(III)J" } : Jvm.MethodName)) ∈ TT := mw 891 (by decide +kernel) (by decide +kernel)
theorem mw_892 : (Jvm.Cond.selects "RoundRowsModel" ({ cls := "RoundRowsModel", name := "odds", desc := "(III)J" } : Jvm.MethodName) ({ cls := "RoundRowsModel", name := "odds", desc := "(III)J" } : Jvm.MethodName)) ∈ TT := mw 892 (by decide +kernel) (by decide +kernel)
theorem mw_893 : (Jvm.Cond.code ({ cls := "RoundRowsModel", name := "odds", desc := "(III)J" } : Jvm.MethodName) prog_12_method_31_code (4 : Nat) (Option.some Jvm.ClassFile.FieldType.long)) ∈ TT := mw 893 (by decide +kernel) (by decide +kernel)
theorem mw_894 : (Jvm.Cond.methodLink "RoundRowsModel" (181 : Nat) ({ cls := "RoundRowsModel", name := "tried", desc := "(IIII)J" } : Jvm.MethodName)) ∈ TT := mw 894 (by decide +kernel) (by decide +kernel)
theorem mw_895 : (Jvm.Cond.instanceMethod ({ cls := "RoundRowsModel", name := "tried", desc := "(IIII)J" } : Jvm.MethodName)) ∈ TT := mw 895 (by decide +kernel) (by decide +kernel)
theorem mw_896 : (Jvm.Cond.selects "RoundRowsModel" ({ cls := "RoundRowsModel", name := "tried", desc := "(IIII)J" } : Jvm.MethodName) ({ cls := "RoundRowsModel", name := "tried", desc := "(IIII)J" } : Jvm.MethodName)) ∈ TT := mw 896 (by decide +kernel) (by decide +kernel)
theorem mw_897 : (Jvm.Cond.code ({ cls := "RoundRowsModel", name := "tried", desc := "(IIII)J" } : Jvm.MethodName) prog_12_method_32_code (5 : Nat) (Option.some Jvm.ClassFile.FieldType.long)) ∈ TT := mw 897 (by decide +kernel) (by decide +kernel)
theorem mw_898 : (Jvm.Cond.constantLong "RoundRowsModel" (185 : Nat) (7 : Int64)) ∈ TT := mw 898 (by decide +kernel) (by decide +kernel)
theorem mw_899 : (Jvm.Cond.methodLink "RoundRowsModel" (187 : Nat) ({ cls := "RoundRowsModel", name := "oddsOf", desc := "(III)J" } : Jvm.MethodName)) ∈ TT := mw 899 (by decide +kernel) (by decide +kernel)
theorem mw_901 : (Jvm.Cond.instanceMethod ({ cls := "RoundRowsModel", name := "oddsOf", desc := "(III)J" } : Jvm.MethodName)) ∈ TT := mw 901 (by decide +kernel) (by decide +kernel)
theorem mw_902 : (Jvm.Cond.code ({ cls := "RoundRowsModel", name := "oddsOf", desc := "(III)J" } : Jvm.MethodName) prog_12_method_30_code (10 : Nat) (Option.some Jvm.ClassFile.FieldType.long)) ∈ TT := mw 902 (by decide +kernel) (by decide +kernel)
theorem mw_903 : (Jvm.Cond.methodLink "RoundRowsModel" (173 : Nat) ({ cls := "RoundRowsModel", name := "greatestOf", desc := "(II)J" } : Jvm.MethodName)) ∈ TT := mw 903 (by decide +kernel) (by decide +kernel)
theorem mw_905 : (Jvm.Cond.instanceMethod ({ cls := "RoundRowsModel", name := "greatestOf", desc := "(II)J" } : Jvm.MethodName)) ∈ TT := mw 905 (by decide +kernel) (by decide +kernel)
theorem mw_906 : (Jvm.Cond.code ({ cls := "RoundRowsModel", name := "greatestOf", desc := "(II)J" } : Jvm.MethodName) prog_12_method_28_code (8 : Nat) (Option.some Jvm.ClassFile.FieldType.long)) ∈ TT := mw 906 (by decide +kernel) (by decide +kernel)
theorem mw_907 : (Jvm.Cond.methodLink "RoundRowsModel" (177 : Nat) ({ cls := "RoundRowsModel", name := "exchange", desc := "(II)V" } : Jvm.MethodName)) ∈ TT := mw 907 (by decide +kernel) (by decide +kernel)
theorem mw_909 : (Jvm.Cond.instanceMethod ({ cls := "RoundRowsModel", name := "exchange", desc := "(II)V" } : Jvm.MethodName)) ∈ TT := mw 909 (by decide +kernel) (by decide +kernel)
theorem mw_910 : (Jvm.Cond.code ({ cls := "RoundRowsModel", name := "exchange", desc := "(II)V" } : Jvm.MethodName) prog_12_method_29_code (4 : Nat) (Option.none : Option Jvm.ClassFile.FieldType)) ∈ TT := mw 910 (by decide +kernel) (by decide +kernel)
theorem mw_911 : (Jvm.Cond.constantLong "RoundRowsModel" (191 : Nat) (-1000000000000000003 : Int64)) ∈ TT := mw 911 (by decide +kernel) (by decide +kernel)
theorem mw_912 : (Jvm.Cond.methodLink "RoundRowsLaw" (50 : Nat) ({ cls := "RoundRowsModel", name := "tried", desc := "(IIII)J" } : Jvm.MethodName)) ∈ TT := mw 912 (by decide +kernel) (by decide +kernel)
theorem mw_913 : (Jvm.Cond.methodLink "RoundRowsLaw" (55 : Nat) ({ cls := "RoundRowsModel", name := "drawn", desc := "(IIII)I" } : Jvm.MethodName)) ∈ TT := mw 913 (by decide +kernel) (by decide +kernel)
theorem mw_914 : (Jvm.Cond.instanceMethod ({ cls := "RoundRowsModel", name := "drawn", desc := "(IIII)I" } : Jvm.MethodName)) ∈ TT := mw 914 (by decide +kernel) (by decide +kernel)
theorem mw_915 : (Jvm.Cond.selects "RoundRowsModel" ({ cls := "RoundRowsModel", name := "drawn", desc := "(IIII)I" } : Jvm.MethodName) ({ cls := "RoundRowsModel", name := "drawn", desc := "(IIII)I" } : Jvm.MethodName)) ∈ TT := mw 915 (by decide +kernel) (by decide +kernel)
theorem mw_916 : (Jvm.Cond.code ({ cls := "RoundRowsModel", name := "drawn", desc := "(IIII)I" } : Jvm.MethodName) prog_12_method_33_code (13 : Nat) (Option.some Jvm.ClassFile.FieldType.int)) ∈ TT := mw 916 (by decide +kernel) (by decide +kernel)
theorem mw_917 : (Jvm.Cond.constantLong "RoundRowsModel" (193 : Nat) (100 : Int64)) ∈ TT := mw 917 (by decide +kernel) (by decide +kernel)
theorem mw_918 : (Jvm.Cond.constantLong "RoundRowsModel" (195 : Nat) (1000000 : Int64)) ∈ TT := mw 918 (by decide +kernel) (by decide +kernel)
theorem mw_919 : (Jvm.Cond.constantLong "RoundRowsModel" (197 : Nat) (16807 : Int64)) ∈ TT := mw 919 (by decide +kernel) (by decide +kernel)
theorem mw_920 : (Jvm.Cond.constantLong "RoundRowsModel" (199 : Nat) (2147483647 : Int64)) ∈ TT := mw 920 (by decide +kernel) (by decide +kernel)
theorem mw_921 : (Jvm.Cond.methodLink "RoundRowsLaw" (59 : Nat) ({ cls := "RoundRowsModel", name := "together", desc := "(IIII)J" } : Jvm.MethodName)) ∈ TT := mw 921 (by decide +kernel) (by decide +kernel)
theorem mw_922 : (Jvm.Cond.instanceMethod ({ cls := "RoundRowsModel", name := "together", desc := "(IIII)J" } : Jvm.MethodName)) ∈ TT := mw 922 (by decide +kernel) (by decide +kernel)
theorem mw_923 : (Jvm.Cond.selects "RoundRowsModel" ({ cls := "RoundRowsModel", name := "together", desc := "(IIII)J" } : Jvm.MethodName) ({ cls := "RoundRowsModel", name := "together", desc := "(IIII)J" } : Jvm.MethodName)) ∈ TT := mw 923 (by decide +kernel) (by decide +kernel)
theorem mw_924 : (Jvm.Cond.code ({ cls := "RoundRowsModel", name := "together", desc := "(IIII)J" } : Jvm.MethodName) prog_12_method_36_code (5 : Nat) (Option.some Jvm.ClassFile.FieldType.long)) ∈ TT := mw 924 (by decide +kernel) (by decide +kernel)
theorem mw_925 : (Jvm.Cond.methodLink "RoundRowsModel" (208 : Nat) ({ cls := "RoundRowsModel", name := "dealBoth", desc := "(II)V" } : Jvm.MethodName)) ∈ TT := mw 925 (by decide +kernel) (by decide +kernel)
theorem mw_927 : (Jvm.Cond.instanceMethod ({ cls := "RoundRowsModel", name := "dealBoth", desc := "(II)V" } : Jvm.MethodName)) ∈ TT := mw 927 (by decide +kernel) (by decide +kernel)
theorem mw_928 : (Jvm.Cond.code ({ cls := "RoundRowsModel", name := "dealBoth", desc := "(II)V" } : Jvm.MethodName) prog_12_method_35_code (4 : Nat) (Option.none : Option Jvm.ClassFile.FieldType)) ∈ TT := mw 928 (by decide +kernel) (by decide +kernel)
theorem mw_929 : (Jvm.Cond.methodLink "RoundRowsModel" (211 : Nat) ({ cls := "RoundRowsModel", name := "findTogether", desc := "(I)V" } : Jvm.MethodName)) ∈ TT := mw 929 (by decide +kernel) (by decide +kernel)
theorem mw_931 : (Jvm.Cond.instanceMethod ({ cls := "RoundRowsModel", name := "findTogether", desc := "(I)V" } : Jvm.MethodName)) ∈ TT := mw 931 (by decide +kernel) (by decide +kernel)
theorem mw_932 : (Jvm.Cond.code ({ cls := "RoundRowsModel", name := "findTogether", desc := "(I)V" } : Jvm.MethodName) prog_12_method_34_code (17 : Nat) (Option.none : Option Jvm.ClassFile.FieldType)) ∈ TT := mw 932 (by decide +kernel) (by decide +kernel)
theorem mw_933 : (Jvm.Cond.methodLink "RoundRowsLaw" (63 : Nat) ({ cls := "RoundRowsModel", name := "go", desc := "(II)I" } : Jvm.MethodName)) ∈ TT := mw 933 (by decide +kernel) (by decide +kernel)
theorem mw_934 : (Jvm.Cond.instanceMethod ({ cls := "RoundRowsModel", name := "go", desc := "(II)I" } : Jvm.MethodName)) ∈ TT := mw 934 (by decide +kernel) (by decide +kernel)
theorem mw_935 : (Jvm.Cond.selects "RoundRowsModel" ({ cls := "RoundRowsModel", name := "go", desc := "(II)I" } : Jvm.MethodName) ({ cls := "RoundRowsModel", name := "go", desc := "(II)I" } : Jvm.MethodName)) ∈ TT := mw 935 (by decide +kernel) (by decide +kernel)
theorem mw_936 : (Jvm.Cond.code ({ cls := "RoundRowsModel", name := "go", desc := "(II)I" } : Jvm.MethodName) prog_12_method_38_code (9 : Nat) (Option.some Jvm.ClassFile.FieldType.int)) ∈ TT := mw 936 (by decide +kernel) (by decide +kernel)
theorem mw_937 : (Jvm.Cond.methodLink "RoundRowsModel" (214 : Nat) ({ cls := "RoundRowsModel", name := "isLess", desc := "(JJJJ)Z" } : Jvm.MethodName)) ∈ TT := mw 937 (by decide +kernel) (by decide +kernel)
theorem mw_938 : (Jvm.Cond.static ({ cls := "RoundRowsModel", name := "isLess", desc := "(JJJJ)Z" } : Jvm.MethodName)) ∈ TT := mw 938 (by decide +kernel) (by decide +kernel)
theorem mw_939 : (Jvm.Cond.code ({ cls := "RoundRowsModel", name := "isLess", desc := "(JJJJ)Z" } : Jvm.MethodName) prog_12_method_37_code (21 : Nat) (Option.some Jvm.ClassFile.FieldType.boolean)) ∈ TT := mw 939 (by decide +kernel) (by decide +kernel)
theorem mw_940 : (Jvm.Cond.methodLink "RoundRowsLaw" (67 : Nat) ({ cls := "RoundRowsModel", name := "waves", desc := "(III)J" } : Jvm.MethodName)) ∈ TT := mw 940 (by decide +kernel) (by decide +kernel)
theorem mw_941 : (Jvm.Cond.instanceMethod ({ cls := "RoundRowsModel", name := "waves", desc := "(III)J" } : Jvm.MethodName)) ∈ TT := mw 941 (by decide +kernel) (by decide +kernel)
theorem mw_942 : (Jvm.Cond.selects "RoundRowsModel" ({ cls := "RoundRowsModel", name := "waves", desc := "(III)J" } : Jvm.MethodName) ({ cls := "RoundRowsModel", name := "waves", desc := "(III)J" } : Jvm.MethodName)) ∈ TT := mw 942 (by decide +kernel) (by decide +kernel)
theorem mw_943 : (Jvm.Cond.code ({ cls := "RoundRowsModel", name := "waves", desc := "(III)J" } : Jvm.MethodName) prog_12_method_39_code (9 : Nat) (Option.some Jvm.ClassFile.FieldType.long)) ∈ TT := mw 943 (by decide +kernel) (by decide +kernel)
theorem mw_944 : (Jvm.Cond.constantLong "RoundRowsModel" (218 : Nat) (3 : Int64)) ∈ TT := mw 944 (by decide +kernel) (by decide +kernel)
theorem mw_945 : (Jvm.Cond.methodLink "RoundRowsModel" (220 : Nat) ({ cls := "RoundRowsModel", name := "smooth", desc := "(III)I" } : Jvm.MethodName)) ∈ TT := mw 945 (by decide +kernel) (by decide +kernel)
theorem mw_946 : (Jvm.Cond.static ({ cls := "RoundRowsModel", name := "smooth", desc := "(III)I" } : Jvm.MethodName)) ∈ TT := mw 946 (by decide +kernel) (by decide +kernel)
theorem mw_947 : (Jvm.Cond.code ({ cls := "RoundRowsModel", name := "smooth", desc := "(III)I" } : Jvm.MethodName) prog_12_method_40_code (5 : Nat) (Option.some Jvm.ClassFile.FieldType.int)) ∈ TT := mw 947 (by decide +kernel) (by decide +kernel)
theorem mw_948 : (Jvm.Cond.methodLink "RoundRowsLaw" (71 : Nat) ({ cls := "RoundRowsModel", name := "found", desc := "(III)I" } : Jvm.MethodName)) ∈ TT := mw 948 (by decide +kernel) (by decide +kernel)
theorem mw_949 : (Jvm.Cond.instanceMethod ({ cls := "RoundRowsModel", name := "found", desc := "(III)I" } : Jvm.MethodName)) ∈ TT := mw 949 (by decide +kernel) (by decide +kernel)
theorem mw_950 : (Jvm.Cond.selects "RoundRowsModel" ({ cls := "RoundRowsModel", name := "found", desc := "(III)I" } : Jvm.MethodName) ({ cls := "RoundRowsModel", name := "found", desc := "(III)I" } : Jvm.MethodName)) ∈ TT := mw 950 (by decide +kernel) (by decide +kernel)
theorem mw_951 : (Jvm.Cond.code ({ cls := "RoundRowsModel", name := "found", desc := "(III)I" } : Jvm.MethodName) prog_12_method_43_code (4 : Nat) (Option.some Jvm.ClassFile.FieldType.int)) ∈ TT := mw 951 (by decide +kernel) (by decide +kernel)
theorem mw_952 : (Jvm.Cond.methodLink "RoundRowsModel" (237 : Nat) ({ cls := "RoundRowsModel", name := "isAhead", desc := "(I)Z" } : Jvm.MethodName)) ∈ TT := mw 952 (by decide +kernel) (by decide +kernel)
theorem mw_953 : (Jvm.Cond.static ({ cls := "RoundRowsModel", name := "isAhead", desc := "(I)Z" } : Jvm.MethodName)) ∈ TT := mw 953 (by decide +kernel) (by decide +kernel)
theorem mw_954 : (Jvm.Cond.code ({ cls := "RoundRowsModel", name := "isAhead", desc := "(I)Z" } : Jvm.MethodName) prog_12_method_42_code (1 : Nat) (Option.some Jvm.ClassFile.FieldType.boolean)) ∈ TT := mw 954 (by decide +kernel) (by decide +kernel)
theorem mw_955 : (Jvm.Cond.constantLong "RoundRowsModel" (233 : Nat) (4 : Int64)) ∈ TT := mw 955 (by decide +kernel) (by decide +kernel)
theorem mw_956 : (Jvm.Cond.constantLong "RoundRowsModel" (235 : Nat) (22 : Int64)) ∈ TT := mw 956 (by decide +kernel) (by decide +kernel)
theorem mw_957 : (Jvm.Cond.methodLink "RoundRowsModel" (240 : Nat) ({ cls := "RoundRowsModel", name := "findHeld", desc := "(II)V" } : Jvm.MethodName)) ∈ TT := mw 957 (by decide +kernel) (by decide +kernel)
theorem mw_959 : (Jvm.Cond.instanceMethod ({ cls := "RoundRowsModel", name := "findHeld", desc := "(II)V" } : Jvm.MethodName)) ∈ TT := mw 959 (by decide +kernel) (by decide +kernel)
theorem mw_960 : (Jvm.Cond.code ({ cls := "RoundRowsModel", name := "findHeld", desc := "(II)V" } : Jvm.MethodName) prog_12_method_41_code (13 : Nat) (Option.none : Option Jvm.ClassFile.FieldType)) ∈ TT := mw 960 (by decide +kernel) (by decide +kernel)
theorem mw_961 : (Jvm.Cond.methodLink "RoundRowsLaw" (75 : Nat) ({ cls := "RoundRowsModel", name := "luck", desc := "(III)J" } : Jvm.MethodName)) ∈ TT := mw 961 (by decide +kernel) (by decide +kernel)
theorem mw_962 : (Jvm.Cond.instanceMethod ({ cls := "RoundRowsModel", name := "luck", desc := "(III)J" } : Jvm.MethodName)) ∈ TT := mw 962 (by decide +kernel) (by decide +kernel)
theorem mw_963 : (Jvm.Cond.selects "RoundRowsModel" ({ cls := "RoundRowsModel", name := "luck", desc := "(III)J" } : Jvm.MethodName) ({ cls := "RoundRowsModel", name := "luck", desc := "(III)J" } : Jvm.MethodName)) ∈ TT := mw 963 (by decide +kernel) (by decide +kernel)
theorem mw_964 : (Jvm.Cond.code ({ cls := "RoundRowsModel", name := "luck", desc := "(III)J" } : Jvm.MethodName) prog_12_method_45_code (7 : Nat) (Option.some Jvm.ClassFile.FieldType.long)) ∈ TT := mw 964 (by decide +kernel) (by decide +kernel)
theorem mw_965 : (Jvm.Cond.methodLink "RoundRowsModel" (243 : Nat) ({ cls := "RoundRowsModel", name := "choose", desc := "(II)J" } : Jvm.MethodName)) ∈ TT := mw 965 (by decide +kernel) (by decide +kernel)
theorem mw_966 : (Jvm.Cond.static ({ cls := "RoundRowsModel", name := "choose", desc := "(II)J" } : Jvm.MethodName)) ∈ TT := mw 966 (by decide +kernel) (by decide +kernel)
theorem mw_967 : (Jvm.Cond.code ({ cls := "RoundRowsModel", name := "choose", desc := "(II)J" } : Jvm.MethodName) prog_12_method_44_code (5 : Nat) (Option.some Jvm.ClassFile.FieldType.long)) ∈ TT := mw 967 (by decide +kernel) (by decide +kernel)
theorem mw_968 : (Jvm.Cond.methodLink "RoundRowsLaw" (79 : Nat) ({ cls := "RoundRowsModel", name := "trial", desc := "(II)I" } : Jvm.MethodName)) ∈ TT := mw 968 (by decide +kernel) (by decide +kernel)
theorem mw_969 : (Jvm.Cond.instanceMethod ({ cls := "RoundRowsModel", name := "trial", desc := "(II)I" } : Jvm.MethodName)) ∈ TT := mw 969 (by decide +kernel) (by decide +kernel)
theorem mw_970 : (Jvm.Cond.selects "RoundRowsModel" ({ cls := "RoundRowsModel", name := "trial", desc := "(II)I" } : Jvm.MethodName) ({ cls := "RoundRowsModel", name := "trial", desc := "(II)I" } : Jvm.MethodName)) ∈ TT := mw 970 (by decide +kernel) (by decide +kernel)
theorem mw_971 : (Jvm.Cond.code ({ cls := "RoundRowsModel", name := "trial", desc := "(II)I" } : Jvm.MethodName) prog_12_method_47_code (5 : Nat) (Option.some Jvm.ClassFile.FieldType.int)) ∈ TT := mw 971 (by decide +kernel) (by decide +kernel)
theorem mw_972 : (Jvm.Cond.methodLink "RoundRowsLaw" (83 : Nat) ({ cls := "RoundRowsModel", name := "of", desc := "(II)I" } : Jvm.MethodName)) ∈ TT := mw 972 (by decide +kernel) (by decide +kernel)
theorem mw_973 : (Jvm.Cond.instanceMethod ({ cls := "RoundRowsModel", name := "of", desc := "(II)I" } : Jvm.MethodName)) ∈ TT := mw 973 (by decide +kernel) (by decide +kernel)
theorem mw_974 : (Jvm.Cond.selects "RoundRowsModel" ({ cls := "RoundRowsModel", name := "of", desc := "(II)I" } : Jvm.MethodName) ({ cls := "RoundRowsModel", name := "of", desc := "(II)I" } : Jvm.MethodName)) ∈ TT := mw 974 (by decide +kernel) (by decide +kernel)
theorem mw_975 : (Jvm.Cond.code ({ cls := "RoundRowsModel", name := "of", desc := "(II)I" } : Jvm.MethodName) prog_12_method_48_code (3 : Nat) (Option.some Jvm.ClassFile.FieldType.int)) ∈ TT := mw 975 (by decide +kernel) (by decide +kernel)
theorem mw_976 : (Jvm.Cond.methodLink "RoundRowsModel" (249 : Nat) ({ cls := "RoundRowsModel", name := "isTrial", desc := "(I)Z" } : Jvm.MethodName)) ∈ TT := mw 976 (by decide +kernel) (by decide +kernel)
theorem mw_978 : (Jvm.Cond.instanceMethod ({ cls := "RoundRowsModel", name := "isTrial", desc := "(I)Z" } : Jvm.MethodName)) ∈ TT := mw 978 (by decide +kernel) (by decide +kernel)
theorem mw_979 : (Jvm.Cond.code ({ cls := "RoundRowsModel", name := "isTrial", desc := "(I)Z" } : Jvm.MethodName) prog_12_method_46_code (2 : Nat) (Option.some Jvm.ClassFile.FieldType.boolean)) ∈ TT := mw 979 (by decide +kernel) (by decide +kernel)
theorem mw_980 : (Jvm.Cond.methodLink "RoundRowsLaw" (88 : Nat) ({ cls := "RoundRowsModel", name := "print", desc := "(IZ)I" } : Jvm.MethodName)) ∈ TT := mw 980 (by decide +kernel) (by decide +kernel)
theorem mw_981 : (Jvm.Cond.instanceMethod ({ cls := "RoundRowsModel", name := "print", desc := "(IZ)I" } : Jvm.MethodName)) ∈ TT := mw 981 (by decide +kernel) (by decide +kernel)
theorem mw_982 : (Jvm.Cond.selects "RoundRowsModel" ({ cls := "RoundRowsModel", name := "print", desc := "(IZ)I" } : Jvm.MethodName) ({ cls := "RoundRowsModel", name := "print", desc := "(IZ)I" } : Jvm.MethodName)) ∈ TT := mw 982 (by decide +kernel) (by decide +kernel)
theorem mw_983 : (Jvm.Cond.code ({ cls := "RoundRowsModel", name := "print", desc := "(IZ)I" } : Jvm.MethodName) prog_12_method_49_code (4 : Nat) (Option.some Jvm.ClassFile.FieldType.int)) ∈ TT := mw 983 (by decide +kernel) (by decide +kernel)
theorem mw_984 : (Jvm.Cond.methodLink "RoundRowsLaw" (93 : Nat) ({ cls := "RoundRowsModel", name := "lean", desc := "(I)J" } : Jvm.MethodName)) ∈ TT := mw 984 (by decide +kernel) (by decide +kernel)
theorem mw_985 : (Jvm.Cond.instanceMethod ({ cls := "RoundRowsModel", name := "lean", desc := "(I)J" } : Jvm.MethodName)) ∈ TT := mw 985 (by decide +kernel) (by decide +kernel)
theorem mw_986 : (Jvm.Cond.selects "RoundRowsModel" ({ cls := "RoundRowsModel", name := "lean", desc := "(I)J" } : Jvm.MethodName) ({ cls := "RoundRowsModel", name := "lean", desc := "(I)J" } : Jvm.MethodName)) ∈ TT := mw 986 (by decide +kernel) (by decide +kernel)
theorem mw_987 : (Jvm.Cond.code ({ cls := "RoundRowsModel", name := "lean", desc := "(I)J" } : Jvm.MethodName) prog_12_method_50_code (8 : Nat) (Option.some Jvm.ClassFile.FieldType.long)) ∈ TT := mw 987 (by decide +kernel) (by decide +kernel)
theorem mw_988 : (Jvm.Cond.methodLink "RoundRowsModel" (255 : Nat) ({ cls := "RoundRowsModel", name := "ones", desc := "(I)I" } : Jvm.MethodName)) ∈ TT := mw 988 (by decide +kernel) (by decide +kernel)
theorem mw_989 : (Jvm.Cond.static ({ cls := "RoundRowsModel", name := "ones", desc := "(I)I" } : Jvm.MethodName)) ∈ TT := mw 989 (by decide +kernel) (by decide +kernel)
theorem mw_990 : (Jvm.Cond.code ({ cls := "RoundRowsModel", name := "ones", desc := "(I)I" } : Jvm.MethodName) prog_12_method_4_code (3 : Nat) (Option.some Jvm.ClassFile.FieldType.int)) ∈ TT := mw 990 (by decide +kernel) (by decide +kernel)
theorem mw_991 : (Jvm.Cond.methodLink "RoundRowsLaw" (97 : Nat) ({ cls := "RoundRowsModel", name := "reads", desc := "(II)I" } : Jvm.MethodName)) ∈ TT := mw 991 (by decide +kernel) (by decide +kernel)
theorem mw_992 : (Jvm.Cond.instanceMethod ({ cls := "RoundRowsModel", name := "reads", desc := "(II)I" } : Jvm.MethodName)) ∈ TT := mw 992 (by decide +kernel) (by decide +kernel)
theorem mw_993 : (Jvm.Cond.selects "RoundRowsModel" ({ cls := "RoundRowsModel", name := "reads", desc := "(II)I" } : Jvm.MethodName) ({ cls := "RoundRowsModel", name := "reads", desc := "(II)I" } : Jvm.MethodName)) ∈ TT := mw 993 (by decide +kernel) (by decide +kernel)
theorem mw_994 : (Jvm.Cond.code ({ cls := "RoundRowsModel", name := "reads", desc := "(II)I" } : Jvm.MethodName) prog_12_method_52_code (4 : Nat) (Option.some Jvm.ClassFile.FieldType.int)) ∈ TT := mw 994 (by decide +kernel) (by decide +kernel)
theorem mw_995 : (Jvm.Cond.methodLink "RoundRowsModel" (258 : Nat) ({ cls := "RoundRowsModel", name := "isMan", desc := "(I)Z" } : Jvm.MethodName)) ∈ TT := mw 995 (by decide +kernel) (by decide +kernel)
theorem mw_996 : (Jvm.Cond.static ({ cls := "RoundRowsModel", name := "isMan", desc := "(I)Z" } : Jvm.MethodName)) ∈ TT := mw 996 (by decide +kernel) (by decide +kernel)
theorem mw_997 : (Jvm.Cond.code ({ cls := "RoundRowsModel", name := "isMan", desc := "(I)Z" } : Jvm.MethodName) prog_12_method_51_code (1 : Nat) (Option.some Jvm.ClassFile.FieldType.boolean)) ∈ TT := mw 997 (by decide +kernel) (by decide +kernel)
theorem mw_998 : (Jvm.Cond.constantLong "RoundRowsModel" (261 : Nat) (1048575 : Int64)) ∈ TT := mw 998 (by decide +kernel) (by decide +kernel)
theorem mw_999 : (Jvm.Cond.methodLink "RoundRowsLaw" (101 : Nat) ({ cls := "RoundRowsModel", name := "bar", desc := "(I)I" } : Jvm.MethodName)) ∈ TT := mw 999 (by decide +kernel) (by decide +kernel)
theorem mw_1000 : (Jvm.Cond.instanceMethod ({ cls := "RoundRowsModel", name := "bar", desc := "(I)I" } : Jvm.MethodName)) ∈ TT := mw 1000 (by decide +kernel) (by decide +kernel)
theorem mw_1001 : (Jvm.Cond.selects "RoundRowsModel" ({ cls := "RoundRowsModel", name := "bar", desc := "(I)I" } : Jvm.MethodName) ({ cls := "RoundRowsModel", name := "bar", desc := "(I)I" } : Jvm.MethodName)) ∈ TT := mw 1001 (by decide +kernel) (by decide +kernel)
theorem mw_1002 : (Jvm.Cond.code ({ cls := "RoundRowsModel", name := "bar", desc := "(I)I" } : Jvm.MethodName) prog_12_method_53_code (3 : Nat) (Option.some Jvm.ClassFile.FieldType.int)) ∈ TT := mw 1002 (by decide +kernel) (by decide +kernel)
theorem mw_1003 : (Jvm.Cond.methodLink "RoundRowsLaw" (105 : Nat) ({ cls := "RoundRowsModel", name := "club", desc := "()I" } : Jvm.MethodName)) ∈ TT := mw 1003 (by decide +kernel) (by decide +kernel)
theorem mw_1004 : (Jvm.Cond.instanceMethod ({ cls := "RoundRowsModel", name := "club", desc := "()I" } : Jvm.MethodName)) ∈ TT := mw 1004 (by decide +kernel) (by decide +kernel)
theorem mw_1005 : (Jvm.Cond.selects "RoundRowsModel" ({ cls := "RoundRowsModel", name := "club", desc := "()I" } : Jvm.MethodName) ({ cls := "RoundRowsModel", name := "club", desc := "()I" } : Jvm.MethodName)) ∈ TT := mw 1005 (by decide +kernel) (by decide +kernel)
theorem mw_1006 : (Jvm.Cond.code ({ cls := "RoundRowsModel", name := "club", desc := "()I" } : Jvm.MethodName) prog_12_method_55_code (1 : Nat) (Option.some Jvm.ClassFile.FieldType.int)) ∈ TT := mw 1006 (by decide +kernel) (by decide +kernel)
theorem mw_1007 : (Jvm.Cond.methodLink "RoundRowsModel" (263 : Nat) ({ cls := "RoundRowsModel", name := "clubBy", desc := "(I)I" } : Jvm.MethodName)) ∈ TT := mw 1007 (by decide +kernel) (by decide +kernel)
theorem mw_1009 : (Jvm.Cond.instanceMethod ({ cls := "RoundRowsModel", name := "clubBy", desc := "(I)I" } : Jvm.MethodName)) ∈ TT := mw 1009 (by decide +kernel) (by decide +kernel)
theorem mw_1010 : (Jvm.Cond.code ({ cls := "RoundRowsModel", name := "clubBy", desc := "(I)I" } : Jvm.MethodName) prog_12_method_54_code (7 : Nat) (Option.some Jvm.ClassFile.FieldType.int)) ∈ TT := mw 1010 (by decide +kernel) (by decide +kernel)
theorem mw_1011 : (Jvm.Cond.methodLink "RoundRowsLaw" (109 : Nat) ({ cls := "RoundRowsModel", name := "least", desc := "(II)I" } : Jvm.MethodName)) ∈ TT := mw 1011 (by decide +kernel) (by decide +kernel)
theorem mw_1012 : (Jvm.Cond.instanceMethod ({ cls := "RoundRowsModel", name := "least", desc := "(II)I" } : Jvm.MethodName)) ∈ TT := mw 1012 (by decide +kernel) (by decide +kernel)
theorem mw_1013 : (Jvm.Cond.selects "RoundRowsModel" ({ cls := "RoundRowsModel", name := "least", desc := "(II)I" } : Jvm.MethodName) ({ cls := "RoundRowsModel", name := "least", desc := "(II)I" } : Jvm.MethodName)) ∈ TT := mw 1013 (by decide +kernel) (by decide +kernel)
theorem mw_1014 : (Jvm.Cond.code ({ cls := "RoundRowsModel", name := "least", desc := "(II)I" } : Jvm.MethodName) prog_12_method_56_code (9 : Nat) (Option.some Jvm.ClassFile.FieldType.int)) ∈ TT := mw 1014 (by decide +kernel) (by decide +kernel)
theorem mw_1015 : (Jvm.Cond.constantLong "RoundRowsModel" (266 : Nat) (255 : Int64)) ∈ TT := mw 1015 (by decide +kernel) (by decide +kernel)
theorem mw_1016 : (Jvm.Cond.methodLink "RoundRowsLaw" (113 : Nat) ({ cls := "RoundRowsModel", name := "truth", desc := "(I)I" } : Jvm.MethodName)) ∈ TT := mw 1016 (by decide +kernel) (by decide +kernel)
theorem mw_1017 : (Jvm.Cond.instanceMethod ({ cls := "RoundRowsModel", name := "truth", desc := "(I)I" } : Jvm.MethodName)) ∈ TT := mw 1017 (by decide +kernel) (by decide +kernel)
theorem mw_1018 : (Jvm.Cond.selects "RoundRowsModel" ({ cls := "RoundRowsModel", name := "truth", desc := "(I)I" } : Jvm.MethodName) ({ cls := "RoundRowsModel", name := "truth", desc := "(I)I" } : Jvm.MethodName)) ∈ TT := mw 1018 (by decide +kernel) (by decide +kernel)
theorem mw_1019 : (Jvm.Cond.code ({ cls := "RoundRowsModel", name := "truth", desc := "(I)I" } : Jvm.MethodName) prog_12_method_57_code (3 : Nat) (Option.some Jvm.ClassFile.FieldType.int)) ∈ TT := mw 1019 (by decide +kernel) (by decide +kernel)
theorem mw_1020 : (Jvm.Cond.methodLink "RoundRowsLaw" (117 : Nat) ({ cls := "RoundRowsModel", name := "good", desc := "(I)I" } : Jvm.MethodName)) ∈ TT := mw 1020 (by decide +kernel) (by decide +kernel)
theorem mw_1021 : (Jvm.Cond.instanceMethod ({ cls := "RoundRowsModel", name := "good", desc := "(I)I" } : Jvm.MethodName)) ∈ TT := mw 1021 (by decide +kernel) (by decide +kernel)
theorem mw_1022 : (Jvm.Cond.selects "RoundRowsModel" ({ cls := "RoundRowsModel", name := "good", desc := "(I)I" } : Jvm.MethodName) ({ cls := "RoundRowsModel", name := "good", desc := "(I)I" } : Jvm.MethodName)) ∈ TT := mw 1022 (by decide +kernel) (by decide +kernel)
theorem mw_1023 : (Jvm.Cond.code ({ cls := "RoundRowsModel", name := "good", desc := "(I)I" } : Jvm.MethodName) prog_12_method_59_code (2 : Nat) (Option.some Jvm.ClassFile.FieldType.int)) ∈ TT := mw 1023 (by decide +kernel) (by decide +kernel)
theorem mw_1024 : (Jvm.Cond.constantLong "RoundRowsModel" (271 : Nat) (101 : Int64)) ∈ TT := mw 1024 (by decide +kernel) (by decide +kernel)
theorem mw_1025 : (Jvm.Cond.methodLink "RoundRowsModel" (273 : Nat) ({ cls := "RoundRowsModel", name := "goodBy", desc := "(I)I" } : Jvm.MethodName)) ∈ TT := mw 1025 (by decide +kernel) (by decide +kernel)
theorem mw_1027 : (Jvm.Cond.instanceMethod ({ cls := "RoundRowsModel", name := "goodBy", desc := "(I)I" } : Jvm.MethodName)) ∈ TT := mw 1027 (by decide +kernel) (by decide +kernel)
theorem mw_1028 : (Jvm.Cond.code ({ cls := "RoundRowsModel", name := "goodBy", desc := "(I)I" } : Jvm.MethodName) prog_12_method_58_code (4 : Nat) (Option.some Jvm.ClassFile.FieldType.int)) ∈ TT := mw 1028 (by decide +kernel) (by decide +kernel)
theorem mw_1029 : (Jvm.Cond.methodLink "RoundRowsLaw" (121 : Nat) ({ cls := "RoundRowsModel", name := "best", desc := "(I)I" } : Jvm.MethodName)) ∈ TT := mw 1029 (by decide +kernel) (by decide +kernel)
theorem mw_1030 : (Jvm.Cond.instanceMethod ({ cls := "RoundRowsModel", name := "best", desc := "(I)I" } : Jvm.MethodName)) ∈ TT := mw 1030 (by decide +kernel) (by decide +kernel)
theorem mw_1031 : (Jvm.Cond.selects "RoundRowsModel" ({ cls := "RoundRowsModel", name := "best", desc := "(I)I" } : Jvm.MethodName) ({ cls := "RoundRowsModel", name := "best", desc := "(I)I" } : Jvm.MethodName)) ∈ TT := mw 1031 (by decide +kernel) (by decide +kernel)
theorem mw_1032 : (Jvm.Cond.code ({ cls := "RoundRowsModel", name := "best", desc := "(I)I" } : Jvm.MethodName) prog_12_method_60_code (4 : Nat) (Option.some Jvm.ClassFile.FieldType.int)) ∈ TT := mw 1032 (by decide +kernel) (by decide +kernel)
theorem mw_1033 : (Jvm.Cond.methodLink "RoundRowsLaw" (125 : Nat) ({ cls := "RoundRowsModel", name := "told", desc := "(I)I" } : Jvm.MethodName)) ∈ TT := mw 1033 (by decide +kernel) (by decide +kernel)
theorem mw_1034 : (Jvm.Cond.instanceMethod ({ cls := "RoundRowsModel", name := "told", desc := "(I)I" } : Jvm.MethodName)) ∈ TT := mw 1034 (by decide +kernel) (by decide +kernel)
theorem mw_1035 : (Jvm.Cond.selects "RoundRowsModel" ({ cls := "RoundRowsModel", name := "told", desc := "(I)I" } : Jvm.MethodName) ({ cls := "RoundRowsModel", name := "told", desc := "(I)I" } : Jvm.MethodName)) ∈ TT := mw 1035 (by decide +kernel) (by decide +kernel)
theorem mw_1036 : (Jvm.Cond.code ({ cls := "RoundRowsModel", name := "told", desc := "(I)I" } : Jvm.MethodName) prog_12_method_61_code (4 : Nat) (Option.some Jvm.ClassFile.FieldType.int)) ∈ TT := mw 1036 (by decide +kernel) (by decide +kernel)
theorem mw_1037 : (Jvm.Cond.constantLong "RoundRowsModel" (276 : Nat) (10 : Int64)) ∈ TT := mw 1037 (by decide +kernel) (by decide +kernel)
theorem mw_1038 : (Jvm.Cond.constantLong "RoundRowsModel" (278 : Nat) (15 : Int64)) ∈ TT := mw 1038 (by decide +kernel) (by decide +kernel)
theorem inX0 : ∀ w ∈ wsX00, w ∈ TT := by decide +kernel
theorem inX1 : ∀ w ∈ wsX10, w ∈ TT := by decide +kernel
theorem inX2 : ∀ w ∈ wsX20, w ∈ TT := by decide +kernel
theorem inX3 : ∀ w ∈ wsX30, w ∈ TT := by decide +kernel
theorem inX4 : ∀ w ∈ wsX40, w ∈ TT := by decide +kernel
theorem inX5 : ∀ w ∈ wsX50, w ∈ TT := by decide +kernel
theorem inX6 : ∀ w ∈ wsX60, w ∈ TT := by decide +kernel
theorem inX7 : ∀ w ∈ wsX70, w ∈ TT := by decide +kernel
theorem inX8 : ∀ w ∈ wsX80, w ∈ TT := by decide +kernel
theorem inX9 : ∀ w ∈ wsX90, w ∈ TT := by decide +kernel
theorem inX10 : ∀ w ∈ wsX100, w ∈ TT := by decide +kernel
theorem om_X0_init : okM yX0_init cX0_init 1 none 0 := ⟨mw_79, mw_38, by decide +kernel, trivial⟩
theorem om_X0_take : okM yX0_take cX0_take 4 none 2 := ⟨mw_348, mw_38, by decide +kernel, trivial⟩
theorem om_X0_gather : okM yX0_gather cX0_gather 3 none 1 := ⟨mw_408, mw_38, by decide +kernel, trivial⟩
theorem om_X0_sum : okM yX0_sum cX0_sum 4 (some .long) 0 := ⟨mw_423, mw_38, by decide +kernel, trivial⟩
theorem om_X0_squares : okM yX0_squares cX0_squares 4 (some .long) 0 := ⟨mw_441, mw_38, by decide +kernel, trivial⟩
theorem om_X1_init : okM yX1_init cX1_init 1 none 0 := ⟨mw_192, mw_44, by decide +kernel, trivial⟩
theorem om_X1_isFull : okM yX1_isFull cX1_isFull 1 (some .boolean) 0 := ⟨mw_585, mw_44, by decide +kernel, trivial⟩
theorem om_X1_has : okM yX1_has cX1_has 2 (some .boolean) 1 := ⟨mw_603, mw_44, by decide +kernel, trivial⟩
theorem om_X1_all : okM yX1_all cX1_all 1 (some .int) 0 := ⟨mw_692, mw_44, by decide +kernel, trivial⟩
theorem om_X1_add : okM yX1_add cX1_add 4 none 3 := ⟨mw_594, mw_44, by decide +kernel, trivial⟩
theorem om_X1_isPrinted : okM yX1_isPrinted cX1_isPrinted 2 (some .boolean) 1 := ⟨mw_607, mw_44, by decide +kernel, trivial⟩
theorem om_X1_setPrinted : okM yX1_setPrinted cX1_setPrinted 4 none 2 := ⟨mw_615, mw_44, by decide +kernel, trivial⟩
theorem om_X1_putLean : okM yX1_putLean cX1_putLean 8 none 1 := ⟨mw_623, mw_44, by decide +kernel, trivial⟩
theorem om_X1_kept : okM yX1_kept cX1_kept 4 (some .int) 1 := ⟨mw_643, mw_44, by decide +kernel, trivial⟩
theorem om_X1_goodBy : okM yX1_goodBy cX1_goodBy 3 (some .int) 1 := ⟨mw_674, mw_44, by decide +kernel, trivial⟩
theorem om_X1_bestRule : okM yX1_bestRule cX1_bestRule 5 (some .int) 0 := ⟨mw_683, mw_44, by decide +kernel, trivial⟩
theorem om_X1_firstUnprinted : okM yX1_firstUnprinted cX1_firstUnprinted 4 (some .int) 0 := ⟨mw_661, mw_44, by decide +kernel, trivial⟩
theorem om_X2_init : okM yX2_init cX2_init 1 none 0 := ⟨mw_179, mw_43, by decide +kernel, trivial⟩
theorem om_X2_put : okM yX2_put cX2_put 7 none 2 := ⟨mw_445, mw_43, by decide +kernel, trivial⟩
theorem om_X2_partOf : okM yX2_partOf cX2_partOf 2 (some .long) 1 := ⟨mw_455, mw_43, by decide +kernel, trivial⟩
theorem om_X2_percent : okM yX2_percent cX2_percent 1 (some .int) 0 := ⟨mw_589, mw_43, by decide +kernel, trivial⟩
theorem om_X2_isAtLeast : okM yX2_isAtLeast cX2_isAtLeast 16 (some .boolean) 1 := ⟨mw_524, mw_43, by decide +kernel, trivial⟩
theorem om_X2_commonDivisor : okM yX2_commonDivisor cX2_commonDivisor 11 (some .long) 2 := ⟨mw_451, mw_43, by decide +kernel, trivial⟩
theorem om_X3_init : okM yX3_init cX3_init 1 none 0 := ⟨mw_160, mw_42, by decide +kernel, trivial⟩
theorem om_X3_look : okM yX3_look cX3_look 5 none 3 := ⟨mw_554, mw_42, by decide +kernel, trivial⟩
theorem om_X3_lookAt : okM yX3_lookAt cX3_lookAt 7 none 2 := ⟨mw_560, mw_42, by decide +kernel, trivial⟩
theorem om_X3_sideOfHeap : okM yX3_sideOfHeap cX3_sideOfHeap 10 (some .int) 3 := ⟨mw_568, mw_42, by decide +kernel, trivial⟩
theorem om_X3_putLuck : okM yX3_putLuck cX3_putLuck 7 none 1 := ⟨mw_576, mw_42, by decide +kernel, trivial⟩
theorem om_X4_init : okM yX4_init cX4_init 1 none 0 := ⟨mw_143, mw_41, by decide +kernel, trivial⟩
theorem om_X4_begin : okM yX4_begin cX4_begin 4 none 2 := ⟨mw_472, mw_41, by decide +kernel, trivial⟩
theorem om_X4_draw : okM yX4_draw cX4_draw 2 none 0 := ⟨mw_501, mw_41, by decide +kernel, trivial⟩
theorem om_X4_sort : okM yX4_sort cX4_sort 3 none 0 := ⟨mw_476, mw_41, by decide +kernel, trivial⟩
theorem om_X4_next : okM yX4_next cX4_next 5 (some .boolean) 0 := ⟨mw_488, mw_41, by decide +kernel, trivial⟩
theorem om_X4_swap : okM yX4_swap cX4_swap 4 none 2 := ⟨mw_480, mw_41, by decide +kernel, trivial⟩
theorem om_X5_init : okM yX5_init cX5_init 1 none 0 := ⟨mw_64, mw_37, by decide +kernel, trivial⟩
theorem om_X5_isFull : okM yX5_isFull cX5_isFull 1 (some .boolean) 0 := ⟨mw_295, mw_37, by decide +kernel, trivial⟩
theorem om_X5_add : okM yX5_add cX5_add 2 none 1 := ⟨mw_299, mw_37, by decide +kernel, trivial⟩
theorem om_X5_clear : okM yX5_clear cX5_clear 1 none 0 := ⟨mw_308, mw_37, by decide +kernel, trivial⟩
theorem om_X5_firstFault : okM yX5_firstFault cX5_firstFault 4 (some .int) 0 := ⟨mw_316, mw_37, by decide +kernel, trivial⟩
theorem om_X5_work : okM yX5_work cX5_work 3 none 1 := ⟨mw_352, mw_37, by decide +kernel, trivial⟩
theorem om_X5_workOne : okM yX5_workOne cX5_workOne 3 none 2 := ⟨mw_356, mw_37, by decide +kernel, trivial⟩
theorem om_X5_digitsBehind : okM yX5_digitsBehind cX5_digitsBehind 1 (some .int) 1 := ⟨mw_319, mw_37, by decide +kernel, trivial⟩
theorem om_X5_digitAt : okM yX5_digitAt cX5_digitAt 2 (some .int) 1 := ⟨mw_327, mw_37, by decide +kernel, trivial⟩
theorem om_X5_twoDigitsAt : okM yX5_twoDigitsAt cX5_twoDigitsAt 2 (some .int) 1 := ⟨mw_336, mw_37, by decide +kernel, trivial⟩
theorem om_X5_canStand : okM yX5_canStand cX5_canStand 4 (some .boolean) 2 := ⟨mw_323, mw_37, by decide +kernel, trivial⟩
theorem om_X5_canStandInYear : okM yX5_canStandInYear cX5_canStandInYear 5 (some .boolean) 3 := ⟨mw_332, mw_37, by decide +kernel, trivial⟩
theorem om_X5_smooth : okM yX5_smooth cX5_smooth 6 none 2 := ⟨mw_359, mw_37, by decide +kernel, trivial⟩
theorem om_X5_lag : okM yX5_lag cX5_lag 3 none 2 := ⟨mw_376, mw_37, by decide +kernel, trivial⟩
theorem om_X5_turn : okM yX5_turn cX5_turn 3 none 2 := ⟨mw_379, mw_37, by decide +kernel, trivial⟩
theorem om_X5_cut : okM yX5_cut cX5_cut 4 none 3 := ⟨mw_382, mw_37, by decide +kernel, trivial⟩
theorem om_X5_differ : okM yX5_differ cX5_differ 4 none 1 := ⟨mw_385, mw_37, by decide +kernel, trivial⟩
theorem om_X5_numberAt : okM yX5_numberAt cX5_numberAt 2 (some .int) 2 := ⟨mw_363, mw_37, by decide +kernel, trivial⟩
theorem om_X5_hold : okM yX5_hold cX5_hold 1 (some .int) 1 := ⟨mw_367, mw_37, by decide +kernel, trivial⟩
theorem om_X6_init : okM yX6_init cX6_init 1 none 0 := ⟨mw_224, mw_45, by decide +kernel, trivial⟩
theorem om_X6_believing : okM yX6_believing cX6_believing 6 (some .int) 2 := ⟨mw_647, mw_45, by decide +kernel, trivial⟩
theorem om_X6_fewestToTurn : okM yX6_fewestToTurn cX6_fewestToTurn 10 (some .int) 2 := ⟨mw_656, mw_45, by decide +kernel, trivial⟩
theorem om_X7_init : okM yX7_init cX7_init 1 none 0 := ⟨mw_116, mw_40, by decide +kernel, trivial⟩
theorem om_X7_lay : okM yX7_lay cX7_lay 6 none 2 := ⟨mw_419, mw_40, by decide +kernel, trivial⟩
theorem om_X7_weigh : okM yX7_weigh cX7_weigh 7 (some .long) 1 := ⟨mw_436, mw_40, by decide +kernel, trivial⟩
theorem om_X8_init : okM yX8_init cX8_init 2 none 0 := ⟨mw_109, mw_39, by decide +kernel, trivial⟩
theorem om_X8_lay : okM yX8_lay cX8_lay 5 none 3 := ⟨mw_413, mw_39, by decide +kernel, trivial⟩
theorem om_X8_firstGreatest : okM yX8_firstGreatest cX8_firstGreatest 8 (some .int) 1 := ⟨mw_431, mw_39, by decide +kernel, trivial⟩
theorem om_X8_greatest : okM yX8_greatest cX8_greatest 2 (some .long) 1 := ⟨mw_427, mw_39, by decide +kernel, trivial⟩
theorem om_X8_reach : okM yX8_reach cX8_reach 5 (some .boolean) 2 := ⟨mw_484, mw_39, by decide +kernel, trivial⟩
theorem om_X9_init : okM yX9_init cX9_init 3 none 0 := ⟨mw_54, mw_36, by decide +kernel, trivial⟩
theorem om_X9_year : okM yX9_year cX9_year 5 (some .int) 3 := ⟨mw_273, mw_36, by decide +kernel, trivial⟩
theorem om_X9_say : okM yX9_say cX9_say 2 (some .int) 1 := ⟨mw_291, mw_36, by decide +kernel, trivial⟩
theorem om_X9_wipe : okM yX9_wipe cX9_wipe 2 (some .int) 0 := ⟨mw_304, mw_36, by decide +kernel, trivial⟩
theorem om_X9_fault : okM yX9_fault cX9_fault 1 (some .int) 0 := ⟨mw_312, mw_36, by decide +kernel, trivial⟩
theorem om_X9_dealt : okM yX9_dealt cX9_dealt 4 (some .int) 2 := ⟨mw_340, mw_36, by decide +kernel, trivial⟩
theorem om_X9_share : okM yX9_share cX9_share 5 (some .long) 3 := ⟨mw_389, mw_36, by decide +kernel, trivial⟩
theorem om_X9_odds : okM yX9_odds cX9_odds 4 (some .long) 3 := ⟨mw_459, mw_36, by decide +kernel, trivial⟩
theorem om_X9_tried : okM yX9_tried cX9_tried 5 (some .long) 4 := ⟨mw_492, mw_36, by decide +kernel, trivial⟩
theorem om_X9_drawn : okM yX9_drawn cX9_drawn 11 (some .int) 4 := ⟨mw_496, mw_36, by decide +kernel, trivial⟩
theorem om_X9_together : okM yX9_together cX9_together 6 (some .long) 4 := ⟨mw_507, mw_36, by decide +kernel, trivial⟩
theorem om_X9_go : okM yX9_go cX9_go 6 (some .int) 2 := ⟨mw_520, mw_36, by decide +kernel, trivial⟩
theorem om_X9_waves : okM yX9_waves cX9_waves 6 (some .long) 3 := ⟨mw_528, mw_36, by decide +kernel, trivial⟩
theorem om_X9_found : okM yX9_found cX9_found 5 (some .int) 3 := ⟨mw_542, mw_36, by decide +kernel, trivial⟩
theorem om_X9_luck : okM yX9_luck cX9_luck 5 (some .long) 3 := ⟨mw_572, mw_36, by decide +kernel, trivial⟩
theorem om_X9_trial : okM yX9_trial cX9_trial 4 (some .int) 2 := ⟨mw_581, mw_36, by decide +kernel, trivial⟩
theorem om_X9_of : okM yX9_of cX9_of 3 (some .int) 2 := ⟨mw_599, mw_36, by decide +kernel, trivial⟩
theorem om_X9_print : okM yX9_print cX9_print 4 (some .int) 2 := ⟨mw_611, mw_36, by decide +kernel, trivial⟩
theorem om_X9_lean : okM yX9_lean cX9_lean 2 (some .long) 1 := ⟨mw_619, mw_36, by decide +kernel, trivial⟩
theorem om_X9_reads : okM yX9_reads cX9_reads 4 (some .int) 2 := ⟨mw_630, mw_36, by decide +kernel, trivial⟩
theorem om_X9_bar : okM yX9_bar cX9_bar 3 (some .int) 1 := ⟨mw_635, mw_36, by decide +kernel, trivial⟩
theorem om_X9_club : okM yX9_club cX9_club 1 (some .int) 0 := ⟨mw_639, mw_36, by decide +kernel, trivial⟩
theorem om_X9_least : okM yX9_least cX9_least 4 (some .int) 2 := ⟨mw_652, mw_36, by decide +kernel, trivial⟩
theorem om_X9_truth : okM yX9_truth cX9_truth 3 (some .int) 1 := ⟨mw_666, mw_36, by decide +kernel, trivial⟩
theorem om_X9_good : okM yX9_good cX9_good 2 (some .int) 1 := ⟨mw_670, mw_36, by decide +kernel, trivial⟩
theorem om_X9_best : okM yX9_best cX9_best 3 (some .int) 1 := ⟨mw_679, mw_36, by decide +kernel, trivial⟩
theorem om_X9_told : okM yX9_told cX9_told 2 (some .int) 1 := ⟨mw_688, mw_36, by decide +kernel, trivial⟩
theorem om_X9_isWithin : okM yX9_isWithin cX9_isWithin 3 (some .boolean) 3 := ⟨mw_279, mw_36, by decide +kernel, trivial⟩
theorem om_X9_isRow : okM yX9_isRow cX9_isRow 1 (some .boolean) 1 := ⟨mw_276, mw_36, by decide +kernel, trivial⟩
theorem om_X9_isYear : okM yX9_isYear cX9_isYear 1 (some .boolean) 1 := ⟨mw_283, mw_36, by decide +kernel, trivial⟩
theorem om_X9_isDivide : okM yX9_isDivide cX9_isDivide 1 (some .boolean) 1 := ⟨mw_545, mw_36, by decide +kernel, trivial⟩
theorem om_X9_isLength : okM yX9_isLength cX9_isLength 1 (some .boolean) 1 := ⟨mw_392, mw_36, by decide +kernel, trivial⟩
theorem om_X9_isPart : okM yX9_isPart cX9_isPart 1 (some .boolean) 1 := ⟨mw_395, mw_36, by decide +kernel, trivial⟩
theorem om_X9_isNumberOrNone : okM yX9_isNumberOrNone cX9_isNumberOrNone 1 (some .boolean) 1 := ⟨mw_286, mw_36, by decide +kernel, trivial⟩
theorem om_X9_refusalOf : okM yX9_refusalOf cX9_refusalOf 3 (some .int) 2 := ⟨mw_344, mw_36, by decide +kernel, trivial⟩
theorem om_X9_numbersIn : okM yX9_numbersIn cX9_numbersIn 3 (some .int) 1 := ⟨mw_695, mw_36, by decide +kernel, trivial⟩
theorem om_X9_takeRounds : okM yX9_takeRounds cX9_takeRounds 5 none 4 := ⟨mw_404, mw_36, by decide +kernel, trivial⟩
theorem om_X9_takeTwo : okM yX9_takeTwo cX9_takeTwo 3 none 2 := ⟨mw_511, mw_36, by decide +kernel, trivial⟩
theorem om_X9_putShare : okM yX9_putShare cX9_putShare 9 none 2 := ⟨mw_400, mw_36, by decide +kernel, trivial⟩
theorem om_X9_oddsOfGreatest : okM yX9_oddsOfGreatest cX9_oddsOfGreatest 7 (some .long) 4 := ⟨mw_463, mw_36, by decide +kernel, trivial⟩
theorem om_X9_countOrders : okM yX9_countOrders cX9_countOrders 6 none 0 := ⟨mw_468, mw_36, by decide +kernel, trivial⟩
theorem om_X9_putTogether : okM yX9_putTogether cX9_putTogether 20 none 2 := ⟨mw_515, mw_36, by decide +kernel, trivial⟩
theorem om_X9_topsOf : okM yX9_topsOf cX9_topsOf 7 (some .int) 3 := ⟨mw_532, mw_36, by decide +kernel, trivial⟩
theorem om_X9_lookLater : okM yX9_lookLater cX9_lookLater 3 none 2 := ⟨mw_549, mw_36, by decide +kernel, trivial⟩
theorem om_X10_init : okM yX10_init cX10_init 2 none 0 := ⟨mw_700, mw_46, by decide +kernel, trivial⟩
theorem om_X10_in : okM yX10_in cX10_in 6 (some .boolean) 3 := ⟨mw_789, mw_46, by decide +kernel, trivial⟩
theorem om_X10_ones : okM yX10_ones cX10_ones 3 (some .int) 1 := ⟨mw_990, mw_46, by decide +kernel, trivial⟩
theorem om_X10_lowest : okM yX10_lowest cX10_lowest 11 (some .long) 3 := ⟨mw_889, mw_46, by decide +kernel, trivial⟩
theorem om_X10_isPart : okM yX10_isPart cX10_isPart 1 (some .boolean) 1 := ⟨mw_863, mw_46, by decide +kernel, trivial⟩
theorem om_X10_isRow : okM yX10_isRow cX10_isRow 1 (some .boolean) 1 := ⟨mw_785, mw_46, by decide +kernel, trivial⟩
theorem om_X10_isYear : okM yX10_isYear cX10_isYear 1 (some .boolean) 1 := ⟨mw_793, mw_46, by decide +kernel, trivial⟩
theorem om_X10_year : okM yX10_year cX10_year 5 (some .int) 3 := ⟨mw_782, mw_46, by decide +kernel, trivial⟩
theorem om_X10_say : okM yX10_say cX10_say 2 (some .int) 1 := ⟨mw_801, mw_46, by decide +kernel, trivial⟩
theorem om_X10_wipe : okM yX10_wipe cX10_wipe 2 (some .int) 0 := ⟨mw_807, mw_46, by decide +kernel, trivial⟩
theorem om_X10_two : okM yX10_two cX10_two 2 (some .int) 1 := ⟨mw_827, mw_46, by decide +kernel, trivial⟩
theorem om_X10_mayStand : okM yX10_mayStand cX10_mayStand 6 (some .boolean) 2 := ⟨mw_822, mw_46, by decide +kernel, trivial⟩
theorem om_X10_digitsOf : okM yX10_digitsOf cX10_digitsOf 1 (some .int) 1 := ⟨mw_814, mw_46, by decide +kernel, trivial⟩
theorem om_X10_fault : okM yX10_fault cX10_fault 6 (some .int) 0 := ⟨mw_811, mw_46, by decide +kernel, trivial⟩
theorem om_X10_held : okM yX10_held cX10_held 2 (some .int) 1 := ⟨mw_848, mw_46, by decide +kernel, trivial⟩
theorem om_X10_wasAt : okM yX10_wasAt cX10_wasAt 2 (some .int) 1 := ⟨mw_845, mw_46, by decide +kernel, trivial⟩
theorem om_X10_becomes : okM yX10_becomes cX10_becomes 7 (some .int) 2 := ⟨mw_841, mw_46, by decide +kernel, trivial⟩
theorem om_X10_deal : okM yX10_deal cX10_deal 4 none 1 := ⟨mw_837, mw_46, by decide +kernel, trivial⟩
theorem om_X10_dealt : okM yX10_dealt cX10_dealt 3 (some .int) 2 := ⟨mw_831, mw_46, by decide +kernel, trivial⟩
theorem om_X10_layNumbers : okM yX10_layNumbers cX10_layNumbers 3 none 1 := ⟨mw_869, mw_46, by decide +kernel, trivial⟩
theorem om_X10_layHeaps : okM yX10_layHeaps cX10_layHeaps 3 none 1 := ⟨mw_886, mw_46, by decide +kernel, trivial⟩
theorem om_X10_sumOf : okM yX10_sumOf cX10_sumOf 4 (some .long) 0 := ⟨mw_877, mw_46, by decide +kernel, trivial⟩
theorem om_X10_upperOf : okM yX10_upperOf cX10_upperOf 7 (some .long) 1 := ⟨mw_882, mw_46, by decide +kernel, trivial⟩
theorem om_X10_lowerOf : okM yX10_lowerOf cX10_lowerOf 6 (some .long) 0 := ⟨mw_873, mw_46, by decide +kernel, trivial⟩
theorem om_X10_isLength : okM yX10_isLength cX10_isLength 1 (some .boolean) 1 := ⟨mw_858, mw_46, by decide +kernel, trivial⟩
theorem om_X10_share : okM yX10_share cX10_share 6 (some .long) 3 := ⟨mw_854, mw_46, by decide +kernel, trivial⟩
theorem om_X10_greatestOf : okM yX10_greatestOf cX10_greatestOf 8 (some .long) 2 := ⟨mw_906, mw_46, by decide +kernel, trivial⟩
theorem om_X10_exchange : okM yX10_exchange cX10_exchange 4 none 2 := ⟨mw_910, mw_46, by decide +kernel, trivial⟩
theorem om_X10_oddsOf : okM yX10_oddsOf cX10_oddsOf 10 (some .long) 3 := ⟨mw_902, mw_46, by decide +kernel, trivial⟩
theorem om_X10_odds : okM yX10_odds cX10_odds 4 (some .long) 3 := ⟨mw_893, mw_46, by decide +kernel, trivial⟩
theorem om_X10_tried : okM yX10_tried cX10_tried 5 (some .long) 4 := ⟨mw_897, mw_46, by decide +kernel, trivial⟩
theorem om_X10_drawn : okM yX10_drawn cX10_drawn 13 (some .int) 4 := ⟨mw_916, mw_46, by decide +kernel, trivial⟩
theorem om_X10_findTogether : okM yX10_findTogether cX10_findTogether 17 none 1 := ⟨mw_932, mw_46, by decide +kernel, trivial⟩
theorem om_X10_dealBoth : okM yX10_dealBoth cX10_dealBoth 4 none 2 := ⟨mw_928, mw_46, by decide +kernel, trivial⟩
theorem om_X10_together : okM yX10_together cX10_together 5 (some .long) 4 := ⟨mw_924, mw_46, by decide +kernel, trivial⟩
theorem om_X10_isLess : okM yX10_isLess cX10_isLess 21 (some .boolean) 4 := ⟨mw_939, mw_46, by decide +kernel, trivial⟩
theorem om_X10_go : okM yX10_go cX10_go 9 (some .int) 2 := ⟨mw_936, mw_46, by decide +kernel, trivial⟩
theorem om_X10_waves : okM yX10_waves cX10_waves 9 (some .long) 3 := ⟨mw_943, mw_46, by decide +kernel, trivial⟩
theorem om_X10_smooth : okM yX10_smooth cX10_smooth 5 (some .int) 3 := ⟨mw_947, mw_46, by decide +kernel, trivial⟩
theorem om_X10_findHeld : okM yX10_findHeld cX10_findHeld 13 none 2 := ⟨mw_960, mw_46, by decide +kernel, trivial⟩
theorem om_X10_isAhead : okM yX10_isAhead cX10_isAhead 1 (some .boolean) 1 := ⟨mw_954, mw_46, by decide +kernel, trivial⟩
theorem om_X10_found : okM yX10_found cX10_found 4 (some .int) 3 := ⟨mw_951, mw_46, by decide +kernel, trivial⟩
theorem om_X10_choose : okM yX10_choose cX10_choose 5 (some .long) 2 := ⟨mw_967, mw_46, by decide +kernel, trivial⟩
theorem om_X10_luck : okM yX10_luck cX10_luck 7 (some .long) 3 := ⟨mw_964, mw_46, by decide +kernel, trivial⟩
theorem om_X10_isTrial : okM yX10_isTrial cX10_isTrial 2 (some .boolean) 1 := ⟨mw_979, mw_46, by decide +kernel, trivial⟩
theorem om_X10_trial : okM yX10_trial cX10_trial 5 (some .int) 2 := ⟨mw_971, mw_46, by decide +kernel, trivial⟩
theorem om_X10_of : okM yX10_of cX10_of 3 (some .int) 2 := ⟨mw_975, mw_46, by decide +kernel, trivial⟩
theorem om_X10_print : okM yX10_print cX10_print 4 (some .int) 2 := ⟨mw_983, mw_46, by decide +kernel, trivial⟩
theorem om_X10_lean : okM yX10_lean cX10_lean 8 (some .long) 1 := ⟨mw_987, mw_46, by decide +kernel, trivial⟩
theorem om_X10_isMan : okM yX10_isMan cX10_isMan 1 (some .boolean) 1 := ⟨mw_997, mw_46, by decide +kernel, trivial⟩
theorem om_X10_reads : okM yX10_reads cX10_reads 4 (some .int) 2 := ⟨mw_994, mw_46, by decide +kernel, trivial⟩
theorem om_X10_bar : okM yX10_bar cX10_bar 3 (some .int) 1 := ⟨mw_1002, mw_46, by decide +kernel, trivial⟩
theorem om_X10_clubBy : okM yX10_clubBy cX10_clubBy 7 (some .int) 1 := ⟨mw_1010, mw_46, by decide +kernel, trivial⟩
theorem om_X10_club : okM yX10_club cX10_club 1 (some .int) 0 := ⟨mw_1006, mw_46, by decide +kernel, trivial⟩
theorem om_X10_least : okM yX10_least cX10_least 9 (some .int) 2 := ⟨mw_1014, mw_46, by decide +kernel, trivial⟩
theorem om_X10_truth : okM yX10_truth cX10_truth 3 (some .int) 1 := ⟨mw_1019, mw_46, by decide +kernel, trivial⟩
theorem om_X10_goodBy : okM yX10_goodBy cX10_goodBy 4 (some .int) 1 := ⟨mw_1028, mw_46, by decide +kernel, trivial⟩
theorem om_X10_good : okM yX10_good cX10_good 2 (some .int) 1 := ⟨mw_1023, mw_46, by decide +kernel, trivial⟩
theorem om_X10_best : okM yX10_best cX10_best 4 (some .int) 1 := ⟨mw_1032, mw_46, by decide +kernel, trivial⟩
theorem om_X10_told : okM yX10_told cX10_told 4 (some .int) 1 := ⟨mw_1036, mw_46, by decide +kernel, trivial⟩
theorem om_J6_bitCount_0f7a4 : okM yJ6_bitCount_0f7a4 cJ6_bitCount_0f7a4 1 (some .int) 1 := ⟨mw_535, mw_48, by decide +kernel, trivial⟩
theorem om_J13_compare_74951 : okM yJ13_compare_74951 cJ13_compare_74951 4 (some .int) 2 := ⟨mw_564, mw_49, by decide +kernel, trivial⟩
theorem om_J9_abs_067f4 : okM yJ9_abs_067f4 cJ9_abs_067f4 2 (some .long) 1 := ⟨mw_448, mw_47, by decide +kernel, trivial⟩
theorem om_J9_max_7cf53 : okM yJ9_max_7cf53 cJ9_max_7cf53 2 (some .int) 2 := ⟨mw_373, mw_47, by decide +kernel, trivial⟩
theorem om_J9_min_7cf53 : okM yJ9_min_7cf53 cJ9_min_7cf53 2 (some .int) 2 := ⟨mw_370, mw_47, by decide +kernel, trivial⟩
end
section
section RF
variable {X : Cx} {G : Gl} {cc : ByteArray} {nL : Nat} {own : String} {F Lo : Nat} {σ : Sto} {pc : Nat} {lv : List (Nat × Value)} {st : List Value}
theorem gf_0_0 (o : Ok X G cc nL own F Lo) {index : Nat} (hw : Cond.fieldLink own index "RoundRows" "rows" "[[I" ∈ TT) (d : decode cc pc = .ok (.getfield index, 3)) (kk : WS X G nL σ (pc + 3) lv (.ref (gad G 12) :: st)) : WS X G nL σ pc lv (.ref (gad G 0) :: st) := r_get o (C := RX9) (T := TX9) (N := 11) inX9 (by decide) rfl rfl 0 (by decide) rfl hw rfl d kk
theorem gf_0_1 (o : Ok X G cc nL own F Lo) {index : Nat} (hw : Cond.fieldLink own index "RoundRows" "pad" "LRoundRows$Pad;" ∈ TT) (d : decode cc pc = .ok (.getfield index, 3)) (kk : WS X G nL σ (pc + 3) lv (.ref (gad G 1) :: st)) : WS X G nL σ pc lv (.ref (gad G 0) :: st) := r_get o (C := RX9) (T := TX9) (N := 11) inX9 (by decide) rfl rfl 1 (by decide) rfl hw rfl d kk
theorem gf_0_2 (o : Ok X G cc nL own F Lo) {index : Nat} (hw : Cond.fieldLink own index "RoundRows" "dealtRow" "LRoundRows$Dealt;" ∈ TT) (d : decode cc pc = .ok (.getfield index, 3)) (kk : WS X G nL σ (pc + 3) lv (.ref (gad G 2) :: st)) : WS X G nL σ pc lv (.ref (gad G 0) :: st) := r_get o (C := RX9) (T := TX9) (N := 11) inX9 (by decide) rfl rfl 2 (by decide) rfl hw rfl d kk
theorem gf_0_3 (o : Ok X G cc nL own F Lo) {index : Nat} (hw : Cond.fieldLink own index "RoundRows" "otherRow" "LRoundRows$Dealt;" ∈ TT) (d : decode cc pc = .ok (.getfield index, 3)) (kk : WS X G nL σ (pc + 3) lv (.ref (gad G 3) :: st)) : WS X G nL σ pc lv (.ref (gad G 0) :: st) := r_get o (C := RX9) (T := TX9) (N := 11) inX9 (by decide) rfl rfl 3 (by decide) rfl hw rfl d kk
theorem gf_0_4 (o : Ok X G cc nL own F Lo) {index : Nat} (hw : Cond.fieldLink own index "RoundRows" "rounds" "LRoundRows$Rounds;" ∈ TT) (d : decode cc pc = .ok (.getfield index, 3)) (kk : WS X G nL σ (pc + 3) lv (.ref (gad G 4) :: st)) : WS X G nL σ pc lv (.ref (gad G 0) :: st) := r_get o (C := RX9) (T := TX9) (N := 11) inX9 (by decide) rfl rfl 4 (by decide) rfl hw rfl d kk
theorem gf_0_5 (o : Ok X G cc nL own F Lo) {index : Nat} (hw : Cond.fieldLink own index "RoundRows" "orders" "LRoundRows$Orders;" ∈ TT) (d : decode cc pc = .ok (.getfield index, 3)) (kk : WS X G nL σ (pc + 3) lv (.ref (gad G 5) :: st)) : WS X G nL σ pc lv (.ref (gad G 0) :: st) := r_get o (C := RX9) (T := TX9) (N := 11) inX9 (by decide) rfl rfl 5 (by decide) rfl hw rfl d kk
theorem gf_0_6 (o : Ok X G cc nL own F Lo) {index : Nat} (hw : Cond.fieldLink own index "RoundRows" "later" "LRoundRows$Later;" ∈ TT) (d : decode cc pc = .ok (.getfield index, 3)) (kk : WS X G nL σ (pc + 3) lv (.ref (gad G 6) :: st)) : WS X G nL σ pc lv (.ref (gad G 0) :: st) := r_get o (C := RX9) (T := TX9) (N := 11) inX9 (by decide) rfl rfl 6 (by decide) rfl hw rfl d kk
theorem gf_0_7 (o : Ok X G cc nL own F Lo) {index : Nat} (hw : Cond.fieldLink own index "RoundRows" "fraction" "LRoundRows$Fraction;" ∈ TT) (d : decode cc pc = .ok (.getfield index, 3)) (kk : WS X G nL σ (pc + 3) lv (.ref (gad G 7) :: st)) : WS X G nL σ pc lv (.ref (gad G 0) :: st) := r_get o (C := RX9) (T := TX9) (N := 11) inX9 (by decide) rfl rfl 7 (by decide) rfl hw rfl d kk
theorem gf_0_8 (o : Ok X G cc nL own F Lo) {index : Nat} (hw : Cond.fieldLink own index "RoundRows" "otherFraction" "LRoundRows$Fraction;" ∈ TT) (d : decode cc pc = .ok (.getfield index, 3)) (kk : WS X G nL σ (pc + 3) lv (.ref (gad G 8) :: st)) : WS X G nL σ pc lv (.ref (gad G 0) :: st) := r_get o (C := RX9) (T := TX9) (N := 11) inX9 (by decide) rfl rfl 8 (by decide) rfl hw rfl d kk
theorem gf_0_9 (o : Ok X G cc nL own F Lo) {index : Nat} (hw : Cond.fieldLink own index "RoundRows" "drawer" "LRoundRows$Drawer;" ∈ TT) (d : decode cc pc = .ok (.getfield index, 3)) (kk : WS X G nL σ (pc + 3) lv (.ref (gad G 9) :: st)) : WS X G nL σ pc lv (.ref (gad G 0) :: st) := r_get o (C := RX9) (T := TX9) (N := 11) inX9 (by decide) rfl rfl 9 (by decide) rfl hw rfl d kk
theorem gf_0_10 (o : Ok X G cc nL own F Lo) {index : Nat} (hw : Cond.fieldLink own index "RoundRows" "readers" "LRoundRows$Readers;" ∈ TT) (d : decode cc pc = .ok (.getfield index, 3)) (kk : WS X G nL σ (pc + 3) lv (.ref (gad G 10) :: st)) : WS X G nL σ pc lv (.ref (gad G 0) :: st) := r_get o (C := RX9) (T := TX9) (N := 11) inX9 (by decide) rfl rfl 10 (by decide) rfl hw rfl d kk
theorem gf_1_0 (o : Ok X G cc nL own F Lo) {index : Nat} (hw : Cond.fieldLink own index "RoundRows$Pad" "signs" "[I" ∈ TT) (d : decode cc pc = .ok (.getfield index, 3)) (kk : WS X G nL σ (pc + 3) lv (.ref (gad G 19) :: st)) : WS X G nL σ pc lv (.ref (gad G 1) :: st) := r_get o (C := RX5) (T := TX5) (N := 2) inX5 (by decide) rfl rfl 0 (by decide) rfl hw rfl d kk
theorem gf_1_1 (o : Ok X G cc nL own F Lo) {index : Nat} {v : Int32} (hv : (σ 1).1 1 = v) (hw : Cond.fieldLink own index "RoundRows$Pad" "count" "I" ∈ TT) (d : decode cc pc = .ok (.getfield index, 3)) (kk : WS X G nL σ (pc + 3) lv (.int v :: st)) : WS X G nL σ pc lv (.ref (gad G 1) :: st) := by
  subst hv
  exact r_get o (C := RX5) (T := TX5) (N := 2) inX5 (by decide) rfl rfl 1 (by decide) rfl hw rfl d kk
theorem pf_1_1 (o : Ok X G cc nL own F Lo) {index : Nat} {v : Int32} (hw : Cond.fieldLink own index "RoundRows$Pad" "count" "I" ∈ TT) (d : decode cc pc = .ok (.putfield index, 3)) (kk : WS X G nL (sti σ 1 1 v) (pc + 3) lv st) : WS X G nL σ pc lv (.int v :: .ref (gad G 1) :: st) := r_puti o (C := RX5) (T := TX5) (N := 2) inX5 tyX5 tyX5_ok nmX5 (by decide) rfl rfl 1 (by decide) rfl hw rfl rfl (Nat.le_of_ble_eq_true rfl) rfl d kk
theorem gfN_1_1 (o : Ok X G cc nL own F Lo) {index : Nat} {v : Int32} (hv : (σ 1).1 1 = v) (hw : Cond.fieldLinkNest own index "RoundRows$Pad" "count" "I" "RoundRows" ∈ TT) (d : decode cc pc = .ok (.getfield index, 3)) (kk : WS X G nL σ (pc + 3) lv (.int v :: st)) : WS X G nL σ pc lv (.ref (gad G 1) :: st) := by
  subst hv
  exact r_getN o (C := RX5) (T := TX5) (N := 2) inX5 (by decide) rfl rfl 1 (by decide) rfl hw rfl d kk
theorem pfN_1_1 (o : Ok X G cc nL own F Lo) {index : Nat} {v : Int32} (hw : Cond.fieldLinkNest own index "RoundRows$Pad" "count" "I" "RoundRows" ∈ TT) (d : decode cc pc = .ok (.putfield index, 3)) (kk : WS X G nL (sti σ 1 1 v) (pc + 3) lv st) : WS X G nL σ pc lv (.int v :: .ref (gad G 1) :: st) := r_putNi o (C := RX5) (T := TX5) (N := 2) inX5 tyX5 tyX5_ok nmX5 (by decide) rfl rfl 1 (by decide) rfl hw rfl rfl (Nat.le_of_ble_eq_true rfl) rfl d kk
theorem gf_2_0 (o : Ok X G cc nL own F Lo) {index : Nat} (hw : Cond.fieldLink own index "RoundRows$Dealt" "byYear" "[I" ∈ TT) (d : decode cc pc = .ok (.getfield index, 3)) (kk : WS X G nL σ (pc + 3) lv (.ref (gad G 20) :: st)) : WS X G nL σ pc lv (.ref (gad G 2) :: st) := r_get o (C := RX0) (T := TX0) (N := 4) inX0 (by decide) rfl rfl 0 (by decide) rfl hw rfl d kk
theorem gfN_2_0 (o : Ok X G cc nL own F Lo) {index : Nat} (hw : Cond.fieldLinkNest own index "RoundRows$Dealt" "byYear" "[I" "RoundRows" ∈ TT) (d : decode cc pc = .ok (.getfield index, 3)) (kk : WS X G nL σ (pc + 3) lv (.ref (gad G 20) :: st)) : WS X G nL σ pc lv (.ref (gad G 2) :: st) := r_getN o (C := RX0) (T := TX0) (N := 4) inX0 (by decide) rfl rfl 0 (by decide) rfl hw rfl d kk
theorem gf_2_1 (o : Ok X G cc nL own F Lo) {index : Nat} (hw : Cond.fieldLink own index "RoundRows$Dealt" "numbers" "[I" ∈ TT) (d : decode cc pc = .ok (.getfield index, 3)) (kk : WS X G nL σ (pc + 3) lv (.ref (gad G 21) :: st)) : WS X G nL σ pc lv (.ref (gad G 2) :: st) := r_get o (C := RX0) (T := TX0) (N := 4) inX0 (by decide) rfl rfl 1 (by decide) rfl hw rfl d kk
theorem gfN_2_1 (o : Ok X G cc nL own F Lo) {index : Nat} (hw : Cond.fieldLinkNest own index "RoundRows$Dealt" "numbers" "[I" "RoundRows" ∈ TT) (d : decode cc pc = .ok (.getfield index, 3)) (kk : WS X G nL σ (pc + 3) lv (.ref (gad G 21) :: st)) : WS X G nL σ pc lv (.ref (gad G 2) :: st) := r_getN o (C := RX0) (T := TX0) (N := 4) inX0 (by decide) rfl rfl 1 (by decide) rfl hw rfl d kk
theorem gf_2_2 (o : Ok X G cc nL own F Lo) {index : Nat} (hw : Cond.fieldLink own index "RoundRows$Dealt" "years" "[I" ∈ TT) (d : decode cc pc = .ok (.getfield index, 3)) (kk : WS X G nL σ (pc + 3) lv (.ref (gad G 22) :: st)) : WS X G nL σ pc lv (.ref (gad G 2) :: st) := r_get o (C := RX0) (T := TX0) (N := 4) inX0 (by decide) rfl rfl 2 (by decide) rfl hw rfl d kk
theorem gfN_2_2 (o : Ok X G cc nL own F Lo) {index : Nat} (hw : Cond.fieldLinkNest own index "RoundRows$Dealt" "years" "[I" "RoundRows" ∈ TT) (d : decode cc pc = .ok (.getfield index, 3)) (kk : WS X G nL σ (pc + 3) lv (.ref (gad G 22) :: st)) : WS X G nL σ pc lv (.ref (gad G 2) :: st) := r_getN o (C := RX0) (T := TX0) (N := 4) inX0 (by decide) rfl rfl 2 (by decide) rfl hw rfl d kk
theorem gf_2_3 (o : Ok X G cc nL own F Lo) {index : Nat} {v : Int32} (hv : (σ 2).1 3 = v) (hw : Cond.fieldLink own index "RoundRows$Dealt" "n" "I" ∈ TT) (d : decode cc pc = .ok (.getfield index, 3)) (kk : WS X G nL σ (pc + 3) lv (.int v :: st)) : WS X G nL σ pc lv (.ref (gad G 2) :: st) := by
  subst hv
  exact r_get o (C := RX0) (T := TX0) (N := 4) inX0 (by decide) rfl rfl 3 (by decide) rfl hw rfl d kk
theorem pf_2_3 (o : Ok X G cc nL own F Lo) {index : Nat} {v : Int32} (hw : Cond.fieldLink own index "RoundRows$Dealt" "n" "I" ∈ TT) (d : decode cc pc = .ok (.putfield index, 3)) (kk : WS X G nL (sti σ 2 3 v) (pc + 3) lv st) : WS X G nL σ pc lv (.int v :: .ref (gad G 2) :: st) := r_puti o (C := RX0) (T := TX0) (N := 4) inX0 tyX0 tyX0_ok nmX0 (by decide) rfl rfl 3 (by decide) rfl hw rfl rfl (Nat.le_of_ble_eq_true rfl) rfl d kk
theorem gfN_2_3 (o : Ok X G cc nL own F Lo) {index : Nat} {v : Int32} (hv : (σ 2).1 3 = v) (hw : Cond.fieldLinkNest own index "RoundRows$Dealt" "n" "I" "RoundRows" ∈ TT) (d : decode cc pc = .ok (.getfield index, 3)) (kk : WS X G nL σ (pc + 3) lv (.int v :: st)) : WS X G nL σ pc lv (.ref (gad G 2) :: st) := by
  subst hv
  exact r_getN o (C := RX0) (T := TX0) (N := 4) inX0 (by decide) rfl rfl 3 (by decide) rfl hw rfl d kk
theorem pfN_2_3 (o : Ok X G cc nL own F Lo) {index : Nat} {v : Int32} (hw : Cond.fieldLinkNest own index "RoundRows$Dealt" "n" "I" "RoundRows" ∈ TT) (d : decode cc pc = .ok (.putfield index, 3)) (kk : WS X G nL (sti σ 2 3 v) (pc + 3) lv st) : WS X G nL σ pc lv (.int v :: .ref (gad G 2) :: st) := r_putNi o (C := RX0) (T := TX0) (N := 4) inX0 tyX0 tyX0_ok nmX0 (by decide) rfl rfl 3 (by decide) rfl hw rfl rfl (Nat.le_of_ble_eq_true rfl) rfl d kk
theorem gf_3_0 (o : Ok X G cc nL own F Lo) {index : Nat} (hw : Cond.fieldLink own index "RoundRows$Dealt" "byYear" "[I" ∈ TT) (d : decode cc pc = .ok (.getfield index, 3)) (kk : WS X G nL σ (pc + 3) lv (.ref (gad G 23) :: st)) : WS X G nL σ pc lv (.ref (gad G 3) :: st) := r_get o (C := RX0) (T := TX0) (N := 4) inX0 (by decide) rfl rfl 0 (by decide) rfl hw rfl d kk
theorem gfN_3_0 (o : Ok X G cc nL own F Lo) {index : Nat} (hw : Cond.fieldLinkNest own index "RoundRows$Dealt" "byYear" "[I" "RoundRows" ∈ TT) (d : decode cc pc = .ok (.getfield index, 3)) (kk : WS X G nL σ (pc + 3) lv (.ref (gad G 23) :: st)) : WS X G nL σ pc lv (.ref (gad G 3) :: st) := r_getN o (C := RX0) (T := TX0) (N := 4) inX0 (by decide) rfl rfl 0 (by decide) rfl hw rfl d kk
theorem gf_3_1 (o : Ok X G cc nL own F Lo) {index : Nat} (hw : Cond.fieldLink own index "RoundRows$Dealt" "numbers" "[I" ∈ TT) (d : decode cc pc = .ok (.getfield index, 3)) (kk : WS X G nL σ (pc + 3) lv (.ref (gad G 24) :: st)) : WS X G nL σ pc lv (.ref (gad G 3) :: st) := r_get o (C := RX0) (T := TX0) (N := 4) inX0 (by decide) rfl rfl 1 (by decide) rfl hw rfl d kk
theorem gfN_3_1 (o : Ok X G cc nL own F Lo) {index : Nat} (hw : Cond.fieldLinkNest own index "RoundRows$Dealt" "numbers" "[I" "RoundRows" ∈ TT) (d : decode cc pc = .ok (.getfield index, 3)) (kk : WS X G nL σ (pc + 3) lv (.ref (gad G 24) :: st)) : WS X G nL σ pc lv (.ref (gad G 3) :: st) := r_getN o (C := RX0) (T := TX0) (N := 4) inX0 (by decide) rfl rfl 1 (by decide) rfl hw rfl d kk
theorem gf_3_2 (o : Ok X G cc nL own F Lo) {index : Nat} (hw : Cond.fieldLink own index "RoundRows$Dealt" "years" "[I" ∈ TT) (d : decode cc pc = .ok (.getfield index, 3)) (kk : WS X G nL σ (pc + 3) lv (.ref (gad G 25) :: st)) : WS X G nL σ pc lv (.ref (gad G 3) :: st) := r_get o (C := RX0) (T := TX0) (N := 4) inX0 (by decide) rfl rfl 2 (by decide) rfl hw rfl d kk
theorem gfN_3_2 (o : Ok X G cc nL own F Lo) {index : Nat} (hw : Cond.fieldLinkNest own index "RoundRows$Dealt" "years" "[I" "RoundRows" ∈ TT) (d : decode cc pc = .ok (.getfield index, 3)) (kk : WS X G nL σ (pc + 3) lv (.ref (gad G 25) :: st)) : WS X G nL σ pc lv (.ref (gad G 3) :: st) := r_getN o (C := RX0) (T := TX0) (N := 4) inX0 (by decide) rfl rfl 2 (by decide) rfl hw rfl d kk
theorem gf_3_3 (o : Ok X G cc nL own F Lo) {index : Nat} {v : Int32} (hv : (σ 3).1 3 = v) (hw : Cond.fieldLink own index "RoundRows$Dealt" "n" "I" ∈ TT) (d : decode cc pc = .ok (.getfield index, 3)) (kk : WS X G nL σ (pc + 3) lv (.int v :: st)) : WS X G nL σ pc lv (.ref (gad G 3) :: st) := by
  subst hv
  exact r_get o (C := RX0) (T := TX0) (N := 4) inX0 (by decide) rfl rfl 3 (by decide) rfl hw rfl d kk
theorem pf_3_3 (o : Ok X G cc nL own F Lo) {index : Nat} {v : Int32} (hw : Cond.fieldLink own index "RoundRows$Dealt" "n" "I" ∈ TT) (d : decode cc pc = .ok (.putfield index, 3)) (kk : WS X G nL (sti σ 3 3 v) (pc + 3) lv st) : WS X G nL σ pc lv (.int v :: .ref (gad G 3) :: st) := r_puti o (C := RX0) (T := TX0) (N := 4) inX0 tyX0 tyX0_ok nmX0 (by decide) rfl rfl 3 (by decide) rfl hw rfl rfl (Nat.le_of_ble_eq_true rfl) rfl d kk
theorem gfN_3_3 (o : Ok X G cc nL own F Lo) {index : Nat} {v : Int32} (hv : (σ 3).1 3 = v) (hw : Cond.fieldLinkNest own index "RoundRows$Dealt" "n" "I" "RoundRows" ∈ TT) (d : decode cc pc = .ok (.getfield index, 3)) (kk : WS X G nL σ (pc + 3) lv (.int v :: st)) : WS X G nL σ pc lv (.ref (gad G 3) :: st) := by
  subst hv
  exact r_getN o (C := RX0) (T := TX0) (N := 4) inX0 (by decide) rfl rfl 3 (by decide) rfl hw rfl d kk
theorem pfN_3_3 (o : Ok X G cc nL own F Lo) {index : Nat} {v : Int32} (hw : Cond.fieldLinkNest own index "RoundRows$Dealt" "n" "I" "RoundRows" ∈ TT) (d : decode cc pc = .ok (.putfield index, 3)) (kk : WS X G nL (sti σ 3 3 v) (pc + 3) lv st) : WS X G nL σ pc lv (.int v :: .ref (gad G 3) :: st) := r_putNi o (C := RX0) (T := TX0) (N := 4) inX0 tyX0 tyX0_ok nmX0 (by decide) rfl rfl 3 (by decide) rfl hw rfl rfl (Nat.le_of_ble_eq_true rfl) rfl d kk
theorem gf_4_0 (o : Ok X G cc nL own F Lo) {index : Nat} (hw : Cond.fieldLink own index "RoundRows$Rounds" "ofLength" "[LRoundRows$Round;" ∈ TT) (d : decode cc pc = .ok (.getfield index, 3)) (kk : WS X G nL σ (pc + 3) lv (.ref (gad G 31) :: st)) : WS X G nL σ pc lv (.ref (gad G 4) :: st) := r_get o (C := RX8) (T := TX8) (N := 3) inX8 (by decide) rfl rfl 0 (by decide) rfl hw rfl d kk
theorem gf_4_1 (o : Ok X G cc nL own F Lo) {index : Nat} {v : Int32} (hv : (σ 4).1 1 = v) (hw : Cond.fieldLink own index "RoundRows$Rounds" "from" "I" ∈ TT) (d : decode cc pc = .ok (.getfield index, 3)) (kk : WS X G nL σ (pc + 3) lv (.int v :: st)) : WS X G nL σ pc lv (.ref (gad G 4) :: st) := by
  subst hv
  exact r_get o (C := RX8) (T := TX8) (N := 3) inX8 (by decide) rfl rfl 1 (by decide) rfl hw rfl d kk
theorem pf_4_1 (o : Ok X G cc nL own F Lo) {index : Nat} {v : Int32} (hw : Cond.fieldLink own index "RoundRows$Rounds" "from" "I" ∈ TT) (d : decode cc pc = .ok (.putfield index, 3)) (kk : WS X G nL (sti σ 4 1 v) (pc + 3) lv st) : WS X G nL σ pc lv (.int v :: .ref (gad G 4) :: st) := r_puti o (C := RX8) (T := TX8) (N := 3) inX8 tyX8 tyX8_ok nmX8 (by decide) rfl rfl 1 (by decide) rfl hw rfl rfl (Nat.le_of_ble_eq_true rfl) rfl d kk
theorem gf_4_2 (o : Ok X G cc nL own F Lo) {index : Nat} {v : Int32} (hv : (σ 4).1 2 = v) (hw : Cond.fieldLink own index "RoundRows$Rounds" "to" "I" ∈ TT) (d : decode cc pc = .ok (.getfield index, 3)) (kk : WS X G nL σ (pc + 3) lv (.int v :: st)) : WS X G nL σ pc lv (.ref (gad G 4) :: st) := by
  subst hv
  exact r_get o (C := RX8) (T := TX8) (N := 3) inX8 (by decide) rfl rfl 2 (by decide) rfl hw rfl d kk
theorem pf_4_2 (o : Ok X G cc nL own F Lo) {index : Nat} {v : Int32} (hw : Cond.fieldLink own index "RoundRows$Rounds" "to" "I" ∈ TT) (d : decode cc pc = .ok (.putfield index, 3)) (kk : WS X G nL (sti σ 4 2 v) (pc + 3) lv st) : WS X G nL σ pc lv (.int v :: .ref (gad G 4) :: st) := r_puti o (C := RX8) (T := TX8) (N := 3) inX8 tyX8 tyX8_ok nmX8 (by decide) rfl rfl 2 (by decide) rfl hw rfl rfl (Nat.le_of_ble_eq_true rfl) rfl d kk
theorem gf_5_0 (o : Ok X G cc nL own F Lo) {index : Nat} (hw : Cond.fieldLink own index "RoundRows$Orders" "numbers" "[I" ∈ TT) (d : decode cc pc = .ok (.getfield index, 3)) (kk : WS X G nL σ (pc + 3) lv (.ref (gad G 26) :: st)) : WS X G nL σ pc lv (.ref (gad G 5) :: st) := r_get o (C := RX4) (T := TX4) (N := 3) inX4 (by decide) rfl rfl 0 (by decide) rfl hw rfl d kk
theorem gfN_5_0 (o : Ok X G cc nL own F Lo) {index : Nat} (hw : Cond.fieldLinkNest own index "RoundRows$Orders" "numbers" "[I" "RoundRows" ∈ TT) (d : decode cc pc = .ok (.getfield index, 3)) (kk : WS X G nL σ (pc + 3) lv (.ref (gad G 26) :: st)) : WS X G nL σ pc lv (.ref (gad G 5) :: st) := r_getN o (C := RX4) (T := TX4) (N := 3) inX4 (by decide) rfl rfl 0 (by decide) rfl hw rfl d kk
theorem gf_5_1 (o : Ok X G cc nL own F Lo) {index : Nat} {v : Int32} (hv : (σ 5).1 1 = v) (hw : Cond.fieldLink own index "RoundRows$Orders" "n" "I" ∈ TT) (d : decode cc pc = .ok (.getfield index, 3)) (kk : WS X G nL σ (pc + 3) lv (.int v :: st)) : WS X G nL σ pc lv (.ref (gad G 5) :: st) := by
  subst hv
  exact r_get o (C := RX4) (T := TX4) (N := 3) inX4 (by decide) rfl rfl 1 (by decide) rfl hw rfl d kk
theorem pf_5_1 (o : Ok X G cc nL own F Lo) {index : Nat} {v : Int32} (hw : Cond.fieldLink own index "RoundRows$Orders" "n" "I" ∈ TT) (d : decode cc pc = .ok (.putfield index, 3)) (kk : WS X G nL (sti σ 5 1 v) (pc + 3) lv st) : WS X G nL σ pc lv (.int v :: .ref (gad G 5) :: st) := r_puti o (C := RX4) (T := TX4) (N := 3) inX4 tyX4 tyX4_ok nmX4 (by decide) rfl rfl 1 (by decide) rfl hw rfl rfl (Nat.le_of_ble_eq_true rfl) rfl d kk
theorem gf_5_2 (o : Ok X G cc nL own F Lo) {index : Nat} {v : Int64} (hv : (σ 5).2 2 = v) (hw : Cond.fieldLink own index "RoundRows$Orders" "seed" "J" ∈ TT) (d : decode cc pc = .ok (.getfield index, 3)) (kk : WS X G nL σ (pc + 3) lv (.long v :: st)) : WS X G nL σ pc lv (.ref (gad G 5) :: st) := by
  subst hv
  exact r_get o (C := RX4) (T := TX4) (N := 3) inX4 (by decide) rfl rfl 2 (by decide) rfl hw rfl d kk
theorem pf_5_2 (o : Ok X G cc nL own F Lo) {index : Nat} {v : Int64} (hw : Cond.fieldLink own index "RoundRows$Orders" "seed" "J" ∈ TT) (d : decode cc pc = .ok (.putfield index, 3)) (kk : WS X G nL (stl σ 5 2 v) (pc + 3) lv st) : WS X G nL σ pc lv (.long v :: .ref (gad G 5) :: st) := r_putl o (C := RX4) (T := TX4) (N := 3) inX4 tyX4 tyX4_ok nmX4 (by decide) rfl rfl 2 (by decide) rfl hw rfl rfl (Nat.le_of_ble_eq_true rfl) rfl d kk
theorem gf_6_0 (o : Ok X G cc nL own F Lo) {index : Nat} {v : Int32} (hv : (σ 6).1 0 = v) (hw : Cond.fieldLink own index "RoundRows$Later" "length" "I" ∈ TT) (d : decode cc pc = .ok (.getfield index, 3)) (kk : WS X G nL σ (pc + 3) lv (.int v :: st)) : WS X G nL σ pc lv (.ref (gad G 6) :: st) := by
  subst hv
  exact r_get o (C := RX3) (T := TX3) (N := 3) inX3 (by decide) rfl rfl 0 (by decide) rfl hw rfl d kk
theorem pf_6_0 (o : Ok X G cc nL own F Lo) {index : Nat} {v : Int32} (hw : Cond.fieldLink own index "RoundRows$Later" "length" "I" ∈ TT) (d : decode cc pc = .ok (.putfield index, 3)) (kk : WS X G nL (sti σ 6 0 v) (pc + 3) lv st) : WS X G nL σ pc lv (.int v :: .ref (gad G 6) :: st) := r_puti o (C := RX3) (T := TX3) (N := 3) inX3 tyX3 tyX3_ok nmX3 (by decide) rfl rfl 0 (by decide) rfl hw rfl rfl (Nat.le_of_ble_eq_true rfl) rfl d kk
theorem gfN_6_0 (o : Ok X G cc nL own F Lo) {index : Nat} {v : Int32} (hv : (σ 6).1 0 = v) (hw : Cond.fieldLinkNest own index "RoundRows$Later" "length" "I" "RoundRows" ∈ TT) (d : decode cc pc = .ok (.getfield index, 3)) (kk : WS X G nL σ (pc + 3) lv (.int v :: st)) : WS X G nL σ pc lv (.ref (gad G 6) :: st) := by
  subst hv
  exact r_getN o (C := RX3) (T := TX3) (N := 3) inX3 (by decide) rfl rfl 0 (by decide) rfl hw rfl d kk
theorem pfN_6_0 (o : Ok X G cc nL own F Lo) {index : Nat} {v : Int32} (hw : Cond.fieldLinkNest own index "RoundRows$Later" "length" "I" "RoundRows" ∈ TT) (d : decode cc pc = .ok (.putfield index, 3)) (kk : WS X G nL (sti σ 6 0 v) (pc + 3) lv st) : WS X G nL σ pc lv (.int v :: .ref (gad G 6) :: st) := r_putNi o (C := RX3) (T := TX3) (N := 3) inX3 tyX3 tyX3_ok nmX3 (by decide) rfl rfl 0 (by decide) rfl hw rfl rfl (Nat.le_of_ble_eq_true rfl) rfl d kk
theorem gf_6_1 (o : Ok X G cc nL own F Lo) {index : Nat} {v : Int32} (hv : (σ 6).1 1 = v) (hw : Cond.fieldLink own index "RoundRows$Later" "held" "I" ∈ TT) (d : decode cc pc = .ok (.getfield index, 3)) (kk : WS X G nL σ (pc + 3) lv (.int v :: st)) : WS X G nL σ pc lv (.ref (gad G 6) :: st) := by
  subst hv
  exact r_get o (C := RX3) (T := TX3) (N := 3) inX3 (by decide) rfl rfl 1 (by decide) rfl hw rfl d kk
theorem pf_6_1 (o : Ok X G cc nL own F Lo) {index : Nat} {v : Int32} (hw : Cond.fieldLink own index "RoundRows$Later" "held" "I" ∈ TT) (d : decode cc pc = .ok (.putfield index, 3)) (kk : WS X G nL (sti σ 6 1 v) (pc + 3) lv st) : WS X G nL σ pc lv (.int v :: .ref (gad G 6) :: st) := r_puti o (C := RX3) (T := TX3) (N := 3) inX3 tyX3 tyX3_ok nmX3 (by decide) rfl rfl 1 (by decide) rfl hw rfl rfl (Nat.le_of_ble_eq_true rfl) rfl d kk
theorem gfN_6_1 (o : Ok X G cc nL own F Lo) {index : Nat} {v : Int32} (hv : (σ 6).1 1 = v) (hw : Cond.fieldLinkNest own index "RoundRows$Later" "held" "I" "RoundRows" ∈ TT) (d : decode cc pc = .ok (.getfield index, 3)) (kk : WS X G nL σ (pc + 3) lv (.int v :: st)) : WS X G nL σ pc lv (.ref (gad G 6) :: st) := by
  subst hv
  exact r_getN o (C := RX3) (T := TX3) (N := 3) inX3 (by decide) rfl rfl 1 (by decide) rfl hw rfl d kk
theorem pfN_6_1 (o : Ok X G cc nL own F Lo) {index : Nat} {v : Int32} (hw : Cond.fieldLinkNest own index "RoundRows$Later" "held" "I" "RoundRows" ∈ TT) (d : decode cc pc = .ok (.putfield index, 3)) (kk : WS X G nL (sti σ 6 1 v) (pc + 3) lv st) : WS X G nL σ pc lv (.int v :: .ref (gad G 6) :: st) := r_putNi o (C := RX3) (T := TX3) (N := 3) inX3 tyX3 tyX3_ok nmX3 (by decide) rfl rfl 1 (by decide) rfl hw rfl rfl (Nat.le_of_ble_eq_true rfl) rfl d kk
theorem gf_6_2 (o : Ok X G cc nL own F Lo) {index : Nat} {v : Int32} (hv : (σ 6).1 2 = v) (hw : Cond.fieldLink own index "RoundRows$Later" "counted" "I" ∈ TT) (d : decode cc pc = .ok (.getfield index, 3)) (kk : WS X G nL σ (pc + 3) lv (.int v :: st)) : WS X G nL σ pc lv (.ref (gad G 6) :: st) := by
  subst hv
  exact r_get o (C := RX3) (T := TX3) (N := 3) inX3 (by decide) rfl rfl 2 (by decide) rfl hw rfl d kk
theorem pf_6_2 (o : Ok X G cc nL own F Lo) {index : Nat} {v : Int32} (hw : Cond.fieldLink own index "RoundRows$Later" "counted" "I" ∈ TT) (d : decode cc pc = .ok (.putfield index, 3)) (kk : WS X G nL (sti σ 6 2 v) (pc + 3) lv st) : WS X G nL σ pc lv (.int v :: .ref (gad G 6) :: st) := r_puti o (C := RX3) (T := TX3) (N := 3) inX3 tyX3 tyX3_ok nmX3 (by decide) rfl rfl 2 (by decide) rfl hw rfl rfl (Nat.le_of_ble_eq_true rfl) rfl d kk
theorem gfN_6_2 (o : Ok X G cc nL own F Lo) {index : Nat} {v : Int32} (hv : (σ 6).1 2 = v) (hw : Cond.fieldLinkNest own index "RoundRows$Later" "counted" "I" "RoundRows" ∈ TT) (d : decode cc pc = .ok (.getfield index, 3)) (kk : WS X G nL σ (pc + 3) lv (.int v :: st)) : WS X G nL σ pc lv (.ref (gad G 6) :: st) := by
  subst hv
  exact r_getN o (C := RX3) (T := TX3) (N := 3) inX3 (by decide) rfl rfl 2 (by decide) rfl hw rfl d kk
theorem pfN_6_2 (o : Ok X G cc nL own F Lo) {index : Nat} {v : Int32} (hw : Cond.fieldLinkNest own index "RoundRows$Later" "counted" "I" "RoundRows" ∈ TT) (d : decode cc pc = .ok (.putfield index, 3)) (kk : WS X G nL (sti σ 6 2 v) (pc + 3) lv st) : WS X G nL σ pc lv (.int v :: .ref (gad G 6) :: st) := r_putNi o (C := RX3) (T := TX3) (N := 3) inX3 tyX3 tyX3_ok nmX3 (by decide) rfl rfl 2 (by decide) rfl hw rfl rfl (Nat.le_of_ble_eq_true rfl) rfl d kk
theorem gf_7_0 (o : Ok X G cc nL own F Lo) {index : Nat} {v : Int64} (hv : (σ 7).2 0 = v) (hw : Cond.fieldLink own index "RoundRows$Fraction" "upper" "J" ∈ TT) (d : decode cc pc = .ok (.getfield index, 3)) (kk : WS X G nL σ (pc + 3) lv (.long v :: st)) : WS X G nL σ pc lv (.ref (gad G 7) :: st) := by
  subst hv
  exact r_get o (C := RX2) (T := TX2) (N := 2) inX2 (by decide) rfl rfl 0 (by decide) rfl hw rfl d kk
theorem pf_7_0 (o : Ok X G cc nL own F Lo) {index : Nat} {v : Int64} (hw : Cond.fieldLink own index "RoundRows$Fraction" "upper" "J" ∈ TT) (d : decode cc pc = .ok (.putfield index, 3)) (kk : WS X G nL (stl σ 7 0 v) (pc + 3) lv st) : WS X G nL σ pc lv (.long v :: .ref (gad G 7) :: st) := r_putl o (C := RX2) (T := TX2) (N := 2) inX2 tyX2 tyX2_ok nmX2 (by decide) rfl rfl 0 (by decide) rfl hw rfl rfl (Nat.le_of_ble_eq_true rfl) rfl d kk
theorem gf_7_1 (o : Ok X G cc nL own F Lo) {index : Nat} {v : Int64} (hv : (σ 7).2 1 = v) (hw : Cond.fieldLink own index "RoundRows$Fraction" "lower" "J" ∈ TT) (d : decode cc pc = .ok (.getfield index, 3)) (kk : WS X G nL σ (pc + 3) lv (.long v :: st)) : WS X G nL σ pc lv (.ref (gad G 7) :: st) := by
  subst hv
  exact r_get o (C := RX2) (T := TX2) (N := 2) inX2 (by decide) rfl rfl 1 (by decide) rfl hw rfl d kk
theorem pf_7_1 (o : Ok X G cc nL own F Lo) {index : Nat} {v : Int64} (hw : Cond.fieldLink own index "RoundRows$Fraction" "lower" "J" ∈ TT) (d : decode cc pc = .ok (.putfield index, 3)) (kk : WS X G nL (stl σ 7 1 v) (pc + 3) lv st) : WS X G nL σ pc lv (.long v :: .ref (gad G 7) :: st) := r_putl o (C := RX2) (T := TX2) (N := 2) inX2 tyX2 tyX2_ok nmX2 (by decide) rfl rfl 1 (by decide) rfl hw rfl rfl (Nat.le_of_ble_eq_true rfl) rfl d kk
theorem gf_8_0 (o : Ok X G cc nL own F Lo) {index : Nat} {v : Int64} (hv : (σ 8).2 0 = v) (hw : Cond.fieldLink own index "RoundRows$Fraction" "upper" "J" ∈ TT) (d : decode cc pc = .ok (.getfield index, 3)) (kk : WS X G nL σ (pc + 3) lv (.long v :: st)) : WS X G nL σ pc lv (.ref (gad G 8) :: st) := by
  subst hv
  exact r_get o (C := RX2) (T := TX2) (N := 2) inX2 (by decide) rfl rfl 0 (by decide) rfl hw rfl d kk
theorem pf_8_0 (o : Ok X G cc nL own F Lo) {index : Nat} {v : Int64} (hw : Cond.fieldLink own index "RoundRows$Fraction" "upper" "J" ∈ TT) (d : decode cc pc = .ok (.putfield index, 3)) (kk : WS X G nL (stl σ 8 0 v) (pc + 3) lv st) : WS X G nL σ pc lv (.long v :: .ref (gad G 8) :: st) := r_putl o (C := RX2) (T := TX2) (N := 2) inX2 tyX2 tyX2_ok nmX2 (by decide) rfl rfl 0 (by decide) rfl hw rfl rfl (Nat.le_of_ble_eq_true rfl) rfl d kk
theorem gf_8_1 (o : Ok X G cc nL own F Lo) {index : Nat} {v : Int64} (hv : (σ 8).2 1 = v) (hw : Cond.fieldLink own index "RoundRows$Fraction" "lower" "J" ∈ TT) (d : decode cc pc = .ok (.getfield index, 3)) (kk : WS X G nL σ (pc + 3) lv (.long v :: st)) : WS X G nL σ pc lv (.ref (gad G 8) :: st) := by
  subst hv
  exact r_get o (C := RX2) (T := TX2) (N := 2) inX2 (by decide) rfl rfl 1 (by decide) rfl hw rfl d kk
theorem pf_8_1 (o : Ok X G cc nL own F Lo) {index : Nat} {v : Int64} (hw : Cond.fieldLink own index "RoundRows$Fraction" "lower" "J" ∈ TT) (d : decode cc pc = .ok (.putfield index, 3)) (kk : WS X G nL (stl σ 8 1 v) (pc + 3) lv st) : WS X G nL σ pc lv (.long v :: .ref (gad G 8) :: st) := r_putl o (C := RX2) (T := TX2) (N := 2) inX2 tyX2 tyX2_ok nmX2 (by decide) rfl rfl 1 (by decide) rfl hw rfl rfl (Nat.le_of_ble_eq_true rfl) rfl d kk
theorem gf_9_0 (o : Ok X G cc nL own F Lo) {index : Nat} (hw : Cond.fieldLink own index "RoundRows$Drawer" "rowOf" "[I" ∈ TT) (d : decode cc pc = .ok (.getfield index, 3)) (kk : WS X G nL σ (pc + 3) lv (.ref (gad G 27) :: st)) : WS X G nL σ pc lv (.ref (gad G 9) :: st) := r_get o (C := RX1) (T := TX1) (N := 6) inX1 (by decide) rfl rfl 0 (by decide) rfl hw rfl d kk
theorem gfN_9_0 (o : Ok X G cc nL own F Lo) {index : Nat} (hw : Cond.fieldLinkNest own index "RoundRows$Drawer" "rowOf" "[I" "RoundRows" ∈ TT) (d : decode cc pc = .ok (.getfield index, 3)) (kk : WS X G nL σ (pc + 3) lv (.ref (gad G 27) :: st)) : WS X G nL σ pc lv (.ref (gad G 9) :: st) := r_getN o (C := RX1) (T := TX1) (N := 6) inX1 (by decide) rfl rfl 0 (by decide) rfl hw rfl d kk
theorem gf_9_1 (o : Ok X G cc nL own F Lo) {index : Nat} (hw : Cond.fieldLink own index "RoundRows$Drawer" "lengthOf" "[I" ∈ TT) (d : decode cc pc = .ok (.getfield index, 3)) (kk : WS X G nL σ (pc + 3) lv (.ref (gad G 28) :: st)) : WS X G nL σ pc lv (.ref (gad G 9) :: st) := r_get o (C := RX1) (T := TX1) (N := 6) inX1 (by decide) rfl rfl 1 (by decide) rfl hw rfl d kk
theorem gfN_9_1 (o : Ok X G cc nL own F Lo) {index : Nat} (hw : Cond.fieldLinkNest own index "RoundRows$Drawer" "lengthOf" "[I" "RoundRows" ∈ TT) (d : decode cc pc = .ok (.getfield index, 3)) (kk : WS X G nL σ (pc + 3) lv (.ref (gad G 28) :: st)) : WS X G nL σ pc lv (.ref (gad G 9) :: st) := r_getN o (C := RX1) (T := TX1) (N := 6) inX1 (by decide) rfl rfl 1 (by decide) rfl hw rfl d kk
theorem gf_9_2 (o : Ok X G cc nL own F Lo) {index : Nat} (hw : Cond.fieldLink own index "RoundRows$Drawer" "percentOf" "[I" ∈ TT) (d : decode cc pc = .ok (.getfield index, 3)) (kk : WS X G nL σ (pc + 3) lv (.ref (gad G 29) :: st)) : WS X G nL σ pc lv (.ref (gad G 9) :: st) := r_get o (C := RX1) (T := TX1) (N := 6) inX1 (by decide) rfl rfl 2 (by decide) rfl hw rfl d kk
theorem gfN_9_2 (o : Ok X G cc nL own F Lo) {index : Nat} (hw : Cond.fieldLinkNest own index "RoundRows$Drawer" "percentOf" "[I" "RoundRows" ∈ TT) (d : decode cc pc = .ok (.getfield index, 3)) (kk : WS X G nL σ (pc + 3) lv (.ref (gad G 29) :: st)) : WS X G nL σ pc lv (.ref (gad G 9) :: st) := r_getN o (C := RX1) (T := TX1) (N := 6) inX1 (by decide) rfl rfl 2 (by decide) rfl hw rfl d kk
theorem gf_9_3 (o : Ok X G cc nL own F Lo) {index : Nat} {v : Int32} (hv : (σ 9).1 3 = v) (hw : Cond.fieldLink own index "RoundRows$Drawer" "count" "I" ∈ TT) (d : decode cc pc = .ok (.getfield index, 3)) (kk : WS X G nL σ (pc + 3) lv (.int v :: st)) : WS X G nL σ pc lv (.ref (gad G 9) :: st) := by
  subst hv
  exact r_get o (C := RX1) (T := TX1) (N := 6) inX1 (by decide) rfl rfl 3 (by decide) rfl hw rfl d kk
theorem pf_9_3 (o : Ok X G cc nL own F Lo) {index : Nat} {v : Int32} (hw : Cond.fieldLink own index "RoundRows$Drawer" "count" "I" ∈ TT) (d : decode cc pc = .ok (.putfield index, 3)) (kk : WS X G nL (sti σ 9 3 v) (pc + 3) lv st) : WS X G nL σ pc lv (.int v :: .ref (gad G 9) :: st) := r_puti o (C := RX1) (T := TX1) (N := 6) inX1 tyX1 tyX1_ok nmX1 (by decide) rfl rfl 3 (by decide) rfl hw rfl rfl (Nat.le_of_ble_eq_true rfl) rfl d kk
theorem gfN_9_3 (o : Ok X G cc nL own F Lo) {index : Nat} {v : Int32} (hv : (σ 9).1 3 = v) (hw : Cond.fieldLinkNest own index "RoundRows$Drawer" "count" "I" "RoundRows" ∈ TT) (d : decode cc pc = .ok (.getfield index, 3)) (kk : WS X G nL σ (pc + 3) lv (.int v :: st)) : WS X G nL σ pc lv (.ref (gad G 9) :: st) := by
  subst hv
  exact r_getN o (C := RX1) (T := TX1) (N := 6) inX1 (by decide) rfl rfl 3 (by decide) rfl hw rfl d kk
theorem pfN_9_3 (o : Ok X G cc nL own F Lo) {index : Nat} {v : Int32} (hw : Cond.fieldLinkNest own index "RoundRows$Drawer" "count" "I" "RoundRows" ∈ TT) (d : decode cc pc = .ok (.putfield index, 3)) (kk : WS X G nL (sti σ 9 3 v) (pc + 3) lv st) : WS X G nL σ pc lv (.int v :: .ref (gad G 9) :: st) := r_putNi o (C := RX1) (T := TX1) (N := 6) inX1 tyX1 tyX1_ok nmX1 (by decide) rfl rfl 3 (by decide) rfl hw rfl rfl (Nat.le_of_ble_eq_true rfl) rfl d kk
theorem gf_9_4 (o : Ok X G cc nL own F Lo) {index : Nat} {v : Int32} (hv : (σ 9).1 4 = v) (hw : Cond.fieldLink own index "RoundRows$Drawer" "printed" "I" ∈ TT) (d : decode cc pc = .ok (.getfield index, 3)) (kk : WS X G nL σ (pc + 3) lv (.int v :: st)) : WS X G nL σ pc lv (.ref (gad G 9) :: st) := by
  subst hv
  exact r_get o (C := RX1) (T := TX1) (N := 6) inX1 (by decide) rfl rfl 4 (by decide) rfl hw rfl d kk
theorem pf_9_4 (o : Ok X G cc nL own F Lo) {index : Nat} {v : Int32} (hw : Cond.fieldLink own index "RoundRows$Drawer" "printed" "I" ∈ TT) (d : decode cc pc = .ok (.putfield index, 3)) (kk : WS X G nL (sti σ 9 4 v) (pc + 3) lv st) : WS X G nL σ pc lv (.int v :: .ref (gad G 9) :: st) := r_puti o (C := RX1) (T := TX1) (N := 6) inX1 tyX1 tyX1_ok nmX1 (by decide) rfl rfl 4 (by decide) rfl hw rfl rfl (Nat.le_of_ble_eq_true rfl) rfl d kk
theorem gfN_9_4 (o : Ok X G cc nL own F Lo) {index : Nat} {v : Int32} (hv : (σ 9).1 4 = v) (hw : Cond.fieldLinkNest own index "RoundRows$Drawer" "printed" "I" "RoundRows" ∈ TT) (d : decode cc pc = .ok (.getfield index, 3)) (kk : WS X G nL σ (pc + 3) lv (.int v :: st)) : WS X G nL σ pc lv (.ref (gad G 9) :: st) := by
  subst hv
  exact r_getN o (C := RX1) (T := TX1) (N := 6) inX1 (by decide) rfl rfl 4 (by decide) rfl hw rfl d kk
theorem pfN_9_4 (o : Ok X G cc nL own F Lo) {index : Nat} {v : Int32} (hw : Cond.fieldLinkNest own index "RoundRows$Drawer" "printed" "I" "RoundRows" ∈ TT) (d : decode cc pc = .ok (.putfield index, 3)) (kk : WS X G nL (sti σ 9 4 v) (pc + 3) lv st) : WS X G nL σ pc lv (.int v :: .ref (gad G 9) :: st) := r_putNi o (C := RX1) (T := TX1) (N := 6) inX1 tyX1 tyX1_ok nmX1 (by decide) rfl rfl 4 (by decide) rfl hw rfl rfl (Nat.le_of_ble_eq_true rfl) rfl d kk
theorem gf_9_5 (o : Ok X G cc nL own F Lo) {index : Nat} {v : Int32} (hv : (σ 9).1 5 = v) (hw : Cond.fieldLink own index "RoundRows$Drawer" "trueOnes" "I" ∈ TT) (d : decode cc pc = .ok (.getfield index, 3)) (kk : WS X G nL σ (pc + 3) lv (.int v :: st)) : WS X G nL σ pc lv (.ref (gad G 9) :: st) := by
  subst hv
  exact r_get o (C := RX1) (T := TX1) (N := 6) inX1 (by decide) rfl rfl 5 (by decide) rfl hw rfl d kk
theorem pf_9_5 (o : Ok X G cc nL own F Lo) {index : Nat} {v : Int32} (hw : Cond.fieldLink own index "RoundRows$Drawer" "trueOnes" "I" ∈ TT) (d : decode cc pc = .ok (.putfield index, 3)) (kk : WS X G nL (sti σ 9 5 v) (pc + 3) lv st) : WS X G nL σ pc lv (.int v :: .ref (gad G 9) :: st) := r_puti o (C := RX1) (T := TX1) (N := 6) inX1 tyX1 tyX1_ok nmX1 (by decide) rfl rfl 5 (by decide) rfl hw rfl rfl (Nat.le_of_ble_eq_true rfl) rfl d kk
theorem gfN_9_5 (o : Ok X G cc nL own F Lo) {index : Nat} {v : Int32} (hv : (σ 9).1 5 = v) (hw : Cond.fieldLinkNest own index "RoundRows$Drawer" "trueOnes" "I" "RoundRows" ∈ TT) (d : decode cc pc = .ok (.getfield index, 3)) (kk : WS X G nL σ (pc + 3) lv (.int v :: st)) : WS X G nL σ pc lv (.ref (gad G 9) :: st) := by
  subst hv
  exact r_getN o (C := RX1) (T := TX1) (N := 6) inX1 (by decide) rfl rfl 5 (by decide) rfl hw rfl d kk
theorem pfN_9_5 (o : Ok X G cc nL own F Lo) {index : Nat} {v : Int32} (hw : Cond.fieldLinkNest own index "RoundRows$Drawer" "trueOnes" "I" "RoundRows" ∈ TT) (d : decode cc pc = .ok (.putfield index, 3)) (kk : WS X G nL (sti σ 9 5 v) (pc + 3) lv st) : WS X G nL σ pc lv (.int v :: .ref (gad G 9) :: st) := r_putNi o (C := RX1) (T := TX1) (N := 6) inX1 tyX1 tyX1_ok nmX1 (by decide) rfl rfl 5 (by decide) rfl hw rfl rfl (Nat.le_of_ble_eq_true rfl) rfl d kk
theorem gf_10_0 (o : Ok X G cc nL own F Lo) {index : Nat} (hw : Cond.fieldLink own index "RoundRows$Readers" "readBy" "[I" ∈ TT) (d : decode cc pc = .ok (.getfield index, 3)) (kk : WS X G nL σ (pc + 3) lv (.ref (gad G 30) :: st)) : WS X G nL σ pc lv (.ref (gad G 10) :: st) := r_get o (C := RX6) (T := TX6) (N := 2) inX6 (by decide) rfl rfl 0 (by decide) rfl hw rfl d kk
theorem gfN_10_0 (o : Ok X G cc nL own F Lo) {index : Nat} (hw : Cond.fieldLinkNest own index "RoundRows$Readers" "readBy" "[I" "RoundRows" ∈ TT) (d : decode cc pc = .ok (.getfield index, 3)) (kk : WS X G nL σ (pc + 3) lv (.ref (gad G 30) :: st)) : WS X G nL σ pc lv (.ref (gad G 10) :: st) := r_getN o (C := RX6) (T := TX6) (N := 2) inX6 (by decide) rfl rfl 0 (by decide) rfl hw rfl d kk
theorem gf_10_1 (o : Ok X G cc nL own F Lo) {index : Nat} {v : Int32} (hv : (σ 10).1 1 = v) (hw : Cond.fieldLink own index "RoundRows$Readers" "bar" "I" ∈ TT) (d : decode cc pc = .ok (.getfield index, 3)) (kk : WS X G nL σ (pc + 3) lv (.int v :: st)) : WS X G nL σ pc lv (.ref (gad G 10) :: st) := by
  subst hv
  exact r_get o (C := RX6) (T := TX6) (N := 2) inX6 (by decide) rfl rfl 1 (by decide) rfl hw rfl d kk
theorem pf_10_1 (o : Ok X G cc nL own F Lo) {index : Nat} {v : Int32} (hw : Cond.fieldLink own index "RoundRows$Readers" "bar" "I" ∈ TT) (d : decode cc pc = .ok (.putfield index, 3)) (kk : WS X G nL (sti σ 10 1 v) (pc + 3) lv st) : WS X G nL σ pc lv (.int v :: .ref (gad G 10) :: st) := r_puti o (C := RX6) (T := TX6) (N := 2) inX6 tyX6 tyX6_ok nmX6 (by decide) rfl rfl 1 (by decide) rfl hw rfl rfl (Nat.le_of_ble_eq_true rfl) rfl d kk
theorem gfN_10_1 (o : Ok X G cc nL own F Lo) {index : Nat} {v : Int32} (hv : (σ 10).1 1 = v) (hw : Cond.fieldLinkNest own index "RoundRows$Readers" "bar" "I" "RoundRows" ∈ TT) (d : decode cc pc = .ok (.getfield index, 3)) (kk : WS X G nL σ (pc + 3) lv (.int v :: st)) : WS X G nL σ pc lv (.ref (gad G 10) :: st) := by
  subst hv
  exact r_getN o (C := RX6) (T := TX6) (N := 2) inX6 (by decide) rfl rfl 1 (by decide) rfl hw rfl d kk
theorem pfN_10_1 (o : Ok X G cc nL own F Lo) {index : Nat} {v : Int32} (hw : Cond.fieldLinkNest own index "RoundRows$Readers" "bar" "I" "RoundRows" ∈ TT) (d : decode cc pc = .ok (.putfield index, 3)) (kk : WS X G nL (sti σ 10 1 v) (pc + 3) lv st) : WS X G nL σ pc lv (.int v :: .ref (gad G 10) :: st) := r_putNi o (C := RX6) (T := TX6) (N := 2) inX6 tyX6 tyX6_ok nmX6 (by decide) rfl rfl 1 (by decide) rfl hw rfl rfl (Nat.le_of_ble_eq_true rfl) rfl d kk
theorem gf_11_0 (o : Ok X G cc nL own F Lo) {index : Nat} (hw : Cond.fieldLink own index "RoundRowsModel" "years" "[I" ∈ TT) (d : decode cc pc = .ok (.getfield index, 3)) (kk : WS X G nL σ (pc + 3) lv (.ref (gad G 71) :: st)) : WS X G nL σ pc lv (.ref (gad G 11) :: st) := r_get o (C := RX10) (T := TX10) (N := 25) inX10 (by decide) rfl rfl 0 (by decide) rfl hw rfl d kk
theorem gf_11_1 (o : Ok X G cc nL own F Lo) {index : Nat} (hw : Cond.fieldLink own index "RoundRowsModel" "signs" "[I" ∈ TT) (d : decode cc pc = .ok (.getfield index, 3)) (kk : WS X G nL σ (pc + 3) lv (.ref (gad G 72) :: st)) : WS X G nL σ pc lv (.ref (gad G 11) :: st) := r_get o (C := RX10) (T := TX10) (N := 25) inX10 (by decide) rfl rfl 1 (by decide) rfl hw rfl d kk
theorem gf_11_2 (o : Ok X G cc nL own F Lo) {index : Nat} {v : Int32} (hv : (σ 11).1 2 = v) (hw : Cond.fieldLink own index "RoundRowsModel" "signMany" "I" ∈ TT) (d : decode cc pc = .ok (.getfield index, 3)) (kk : WS X G nL σ (pc + 3) lv (.int v :: st)) : WS X G nL σ pc lv (.ref (gad G 11) :: st) := by
  subst hv
  exact r_get o (C := RX10) (T := TX10) (N := 25) inX10 (by decide) rfl rfl 2 (by decide) rfl hw rfl d kk
theorem pf_11_2 (o : Ok X G cc nL own F Lo) {index : Nat} {v : Int32} (hw : Cond.fieldLink own index "RoundRowsModel" "signMany" "I" ∈ TT) (d : decode cc pc = .ok (.putfield index, 3)) (kk : WS X G nL (sti σ 11 2 v) (pc + 3) lv st) : WS X G nL σ pc lv (.int v :: .ref (gad G 11) :: st) := r_puti o (C := RX10) (T := TX10) (N := 25) inX10 tyX10 tyX10_ok nmX10 (by decide) rfl rfl 2 (by decide) rfl hw rfl rfl (Nat.le_of_ble_eq_true rfl) rfl d kk
theorem gf_11_3 (o : Ok X G cc nL own F Lo) {index : Nat} (hw : Cond.fieldLink own index "RoundRowsModel" "row" "[I" ∈ TT) (d : decode cc pc = .ok (.getfield index, 3)) (kk : WS X G nL σ (pc + 3) lv (.ref (gad G 73) :: st)) : WS X G nL σ pc lv (.ref (gad G 11) :: st) := r_get o (C := RX10) (T := TX10) (N := 25) inX10 (by decide) rfl rfl 3 (by decide) rfl hw rfl d kk
theorem gf_11_4 (o : Ok X G cc nL own F Lo) {index : Nat} (hw : Cond.fieldLink own index "RoundRowsModel" "rowWas" "[I" ∈ TT) (d : decode cc pc = .ok (.getfield index, 3)) (kk : WS X G nL σ (pc + 3) lv (.ref (gad G 74) :: st)) : WS X G nL σ pc lv (.ref (gad G 11) :: st) := r_get o (C := RX10) (T := TX10) (N := 25) inX10 (by decide) rfl rfl 4 (by decide) rfl hw rfl d kk
theorem gf_11_5 (o : Ok X G cc nL own F Lo) {index : Nat} (hw : Cond.fieldLink own index "RoundRowsModel" "place" "[I" ∈ TT) (d : decode cc pc = .ok (.getfield index, 3)) (kk : WS X G nL σ (pc + 3) lv (.ref (gad G 75) :: st)) : WS X G nL σ pc lv (.ref (gad G 11) :: st) := r_get o (C := RX10) (T := TX10) (N := 25) inX10 (by decide) rfl rfl 5 (by decide) rfl hw rfl d kk
theorem gf_11_6 (o : Ok X G cc nL own F Lo) {index : Nat} (hw : Cond.fieldLink own index "RoundRowsModel" "number" "[I" ∈ TT) (d : decode cc pc = .ok (.getfield index, 3)) (kk : WS X G nL σ (pc + 3) lv (.ref (gad G 76) :: st)) : WS X G nL σ pc lv (.ref (gad G 11) :: st) := r_get o (C := RX10) (T := TX10) (N := 25) inX10 (by decide) rfl rfl 6 (by decide) rfl hw rfl d kk
theorem gf_11_7 (o : Ok X G cc nL own F Lo) {index : Nat} {v : Int32} (hv : (σ 11).1 7 = v) (hw : Cond.fieldLink own index "RoundRowsModel" "many" "I" ∈ TT) (d : decode cc pc = .ok (.getfield index, 3)) (kk : WS X G nL σ (pc + 3) lv (.int v :: st)) : WS X G nL σ pc lv (.ref (gad G 11) :: st) := by
  subst hv
  exact r_get o (C := RX10) (T := TX10) (N := 25) inX10 (by decide) rfl rfl 7 (by decide) rfl hw rfl d kk
theorem pf_11_7 (o : Ok X G cc nL own F Lo) {index : Nat} {v : Int32} (hw : Cond.fieldLink own index "RoundRowsModel" "many" "I" ∈ TT) (d : decode cc pc = .ok (.putfield index, 3)) (kk : WS X G nL (sti σ 11 7 v) (pc + 3) lv st) : WS X G nL σ pc lv (.int v :: .ref (gad G 11) :: st) := r_puti o (C := RX10) (T := TX10) (N := 25) inX10 tyX10 tyX10_ok nmX10 (by decide) rfl rfl 7 (by decide) rfl hw rfl rfl (Nat.le_of_ble_eq_true rfl) rfl d kk
theorem gf_11_8 (o : Ok X G cc nL own F Lo) {index : Nat} (hw : Cond.fieldLink own index "RoundRowsModel" "heapSum" "[J" ∈ TT) (d : decode cc pc = .ok (.getfield index, 3)) (kk : WS X G nL σ (pc + 3) lv (.ref (gad G 77) :: st)) : WS X G nL σ pc lv (.ref (gad G 11) :: st) := r_get o (C := RX10) (T := TX10) (N := 25) inX10 (by decide) rfl rfl 8 (by decide) rfl hw rfl d kk
theorem gf_11_9 (o : Ok X G cc nL own F Lo) {index : Nat} (hw : Cond.fieldLink own index "RoundRowsModel" "heapMany" "[I" ∈ TT) (d : decode cc pc = .ok (.getfield index, 3)) (kk : WS X G nL σ (pc + 3) lv (.ref (gad G 78) :: st)) : WS X G nL σ pc lv (.ref (gad G 11) :: st) := r_get o (C := RX10) (T := TX10) (N := 25) inX10 (by decide) rfl rfl 9 (by decide) rfl hw rfl d kk
theorem gf_11_10 (o : Ok X G cc nL own F Lo) {index : Nat} (hw : Cond.fieldLink own index "RoundRowsModel" "turns" "[I" ∈ TT) (d : decode cc pc = .ok (.getfield index, 3)) (kk : WS X G nL σ (pc + 3) lv (.ref (gad G 79) :: st)) : WS X G nL σ pc lv (.ref (gad G 11) :: st) := r_get o (C := RX10) (T := TX10) (N := 25) inX10 (by decide) rfl rfl 10 (by decide) rfl hw rfl d kk
theorem gf_11_11 (o : Ok X G cc nL own F Lo) {index : Nat} (hw : Cond.fieldLink own index "RoundRowsModel" "other" "[I" ∈ TT) (d : decode cc pc = .ok (.getfield index, 3)) (kk : WS X G nL σ (pc + 3) lv (.ref (gad G 80) :: st)) : WS X G nL σ pc lv (.ref (gad G 11) :: st) := r_get o (C := RX10) (T := TX10) (N := 25) inX10 (by decide) rfl rfl 11 (by decide) rfl hw rfl d kk
theorem gf_11_12 (o : Ok X G cc nL own F Lo) {index : Nat} {v : Int64} (hv : (σ 11).2 12 = v) (hw : Cond.fieldLink own index "RoundRowsModel" "togetherUpper" "J" ∈ TT) (d : decode cc pc = .ok (.getfield index, 3)) (kk : WS X G nL σ (pc + 3) lv (.long v :: st)) : WS X G nL σ pc lv (.ref (gad G 11) :: st) := by
  subst hv
  exact r_get o (C := RX10) (T := TX10) (N := 25) inX10 (by decide) rfl rfl 12 (by decide) rfl hw rfl d kk
theorem pf_11_12 (o : Ok X G cc nL own F Lo) {index : Nat} {v : Int64} (hw : Cond.fieldLink own index "RoundRowsModel" "togetherUpper" "J" ∈ TT) (d : decode cc pc = .ok (.putfield index, 3)) (kk : WS X G nL (stl σ 11 12 v) (pc + 3) lv st) : WS X G nL σ pc lv (.long v :: .ref (gad G 11) :: st) := r_putl o (C := RX10) (T := TX10) (N := 25) inX10 tyX10 tyX10_ok nmX10 (by decide) rfl rfl 12 (by decide) rfl hw rfl rfl (Nat.le_of_ble_eq_true rfl) rfl d kk
theorem gf_11_13 (o : Ok X G cc nL own F Lo) {index : Nat} {v : Int64} (hv : (σ 11).2 13 = v) (hw : Cond.fieldLink own index "RoundRowsModel" "togetherLower" "J" ∈ TT) (d : decode cc pc = .ok (.getfield index, 3)) (kk : WS X G nL σ (pc + 3) lv (.long v :: st)) : WS X G nL σ pc lv (.ref (gad G 11) :: st) := by
  subst hv
  exact r_get o (C := RX10) (T := TX10) (N := 25) inX10 (by decide) rfl rfl 13 (by decide) rfl hw rfl d kk
theorem pf_11_13 (o : Ok X G cc nL own F Lo) {index : Nat} {v : Int64} (hw : Cond.fieldLink own index "RoundRowsModel" "togetherLower" "J" ∈ TT) (d : decode cc pc = .ok (.putfield index, 3)) (kk : WS X G nL (stl σ 11 13 v) (pc + 3) lv st) : WS X G nL σ pc lv (.long v :: .ref (gad G 11) :: st) := r_putl o (C := RX10) (T := TX10) (N := 25) inX10 tyX10 tyX10_ok nmX10 (by decide) rfl rfl 13 (by decide) rfl hw rfl rfl (Nat.le_of_ble_eq_true rfl) rfl d kk
theorem gf_11_14 (o : Ok X G cc nL own F Lo) {index : Nat} {v : Int32} (hv : (σ 11).1 14 = v) (hw : Cond.fieldLink own index "RoundRowsModel" "foundLength" "I" ∈ TT) (d : decode cc pc = .ok (.getfield index, 3)) (kk : WS X G nL σ (pc + 3) lv (.int v :: st)) : WS X G nL σ pc lv (.ref (gad G 11) :: st) := by
  subst hv
  exact r_get o (C := RX10) (T := TX10) (N := 25) inX10 (by decide) rfl rfl 14 (by decide) rfl hw rfl d kk
theorem pf_11_14 (o : Ok X G cc nL own F Lo) {index : Nat} {v : Int32} (hw : Cond.fieldLink own index "RoundRowsModel" "foundLength" "I" ∈ TT) (d : decode cc pc = .ok (.putfield index, 3)) (kk : WS X G nL (sti σ 11 14 v) (pc + 3) lv st) : WS X G nL σ pc lv (.int v :: .ref (gad G 11) :: st) := r_puti o (C := RX10) (T := TX10) (N := 25) inX10 tyX10 tyX10_ok nmX10 (by decide) rfl rfl 14 (by decide) rfl hw rfl rfl (Nat.le_of_ble_eq_true rfl) rfl d kk
theorem gf_11_15 (o : Ok X G cc nL own F Lo) {index : Nat} {v : Int32} (hv : (σ 11).1 15 = v) (hw : Cond.fieldLink own index "RoundRowsModel" "heldMany" "I" ∈ TT) (d : decode cc pc = .ok (.getfield index, 3)) (kk : WS X G nL σ (pc + 3) lv (.int v :: st)) : WS X G nL σ pc lv (.ref (gad G 11) :: st) := by
  subst hv
  exact r_get o (C := RX10) (T := TX10) (N := 25) inX10 (by decide) rfl rfl 15 (by decide) rfl hw rfl d kk
theorem pf_11_15 (o : Ok X G cc nL own F Lo) {index : Nat} {v : Int32} (hw : Cond.fieldLink own index "RoundRowsModel" "heldMany" "I" ∈ TT) (d : decode cc pc = .ok (.putfield index, 3)) (kk : WS X G nL (sti σ 11 15 v) (pc + 3) lv st) : WS X G nL σ pc lv (.int v :: .ref (gad G 11) :: st) := r_puti o (C := RX10) (T := TX10) (N := 25) inX10 tyX10 tyX10_ok nmX10 (by decide) rfl rfl 15 (by decide) rfl hw rfl rfl (Nat.le_of_ble_eq_true rfl) rfl d kk
theorem gf_11_16 (o : Ok X G cc nL own F Lo) {index : Nat} {v : Int32} (hv : (σ 11).1 16 = v) (hw : Cond.fieldLink own index "RoundRowsModel" "heldOf" "I" ∈ TT) (d : decode cc pc = .ok (.getfield index, 3)) (kk : WS X G nL σ (pc + 3) lv (.int v :: st)) : WS X G nL σ pc lv (.ref (gad G 11) :: st) := by
  subst hv
  exact r_get o (C := RX10) (T := TX10) (N := 25) inX10 (by decide) rfl rfl 16 (by decide) rfl hw rfl d kk
theorem pf_11_16 (o : Ok X G cc nL own F Lo) {index : Nat} {v : Int32} (hw : Cond.fieldLink own index "RoundRowsModel" "heldOf" "I" ∈ TT) (d : decode cc pc = .ok (.putfield index, 3)) (kk : WS X G nL (sti σ 11 16 v) (pc + 3) lv st) : WS X G nL σ pc lv (.int v :: .ref (gad G 11) :: st) := r_puti o (C := RX10) (T := TX10) (N := 25) inX10 tyX10 tyX10_ok nmX10 (by decide) rfl rfl 16 (by decide) rfl hw rfl rfl (Nat.le_of_ble_eq_true rfl) rfl d kk
theorem gf_11_17 (o : Ok X G cc nL own F Lo) {index : Nat} (hw : Cond.fieldLink own index "RoundRowsModel" "trialRow" "[I" ∈ TT) (d : decode cc pc = .ok (.getfield index, 3)) (kk : WS X G nL σ (pc + 3) lv (.ref (gad G 81) :: st)) : WS X G nL σ pc lv (.ref (gad G 11) :: st) := r_get o (C := RX10) (T := TX10) (N := 25) inX10 (by decide) rfl rfl 17 (by decide) rfl hw rfl d kk
theorem gf_11_18 (o : Ok X G cc nL own F Lo) {index : Nat} (hw : Cond.fieldLink own index "RoundRowsModel" "trialLength" "[I" ∈ TT) (d : decode cc pc = .ok (.getfield index, 3)) (kk : WS X G nL σ (pc + 3) lv (.ref (gad G 82) :: st)) : WS X G nL σ pc lv (.ref (gad G 11) :: st) := r_get o (C := RX10) (T := TX10) (N := 25) inX10 (by decide) rfl rfl 18 (by decide) rfl hw rfl d kk
theorem gf_11_19 (o : Ok X G cc nL own F Lo) {index : Nat} (hw : Cond.fieldLink own index "RoundRowsModel" "percent" "[I" ∈ TT) (d : decode cc pc = .ok (.getfield index, 3)) (kk : WS X G nL σ (pc + 3) lv (.ref (gad G 83) :: st)) : WS X G nL σ pc lv (.ref (gad G 11) :: st) := r_get o (C := RX10) (T := TX10) (N := 25) inX10 (by decide) rfl rfl 19 (by decide) rfl hw rfl d kk
theorem gf_11_20 (o : Ok X G cc nL own F Lo) {index : Nat} {v : Int32} (hv : (σ 11).1 20 = v) (hw : Cond.fieldLink own index "RoundRowsModel" "printed" "I" ∈ TT) (d : decode cc pc = .ok (.getfield index, 3)) (kk : WS X G nL σ (pc + 3) lv (.int v :: st)) : WS X G nL σ pc lv (.ref (gad G 11) :: st) := by
  subst hv
  exact r_get o (C := RX10) (T := TX10) (N := 25) inX10 (by decide) rfl rfl 20 (by decide) rfl hw rfl d kk
theorem pf_11_20 (o : Ok X G cc nL own F Lo) {index : Nat} {v : Int32} (hw : Cond.fieldLink own index "RoundRowsModel" "printed" "I" ∈ TT) (d : decode cc pc = .ok (.putfield index, 3)) (kk : WS X G nL (sti σ 11 20 v) (pc + 3) lv st) : WS X G nL σ pc lv (.int v :: .ref (gad G 11) :: st) := r_puti o (C := RX10) (T := TX10) (N := 25) inX10 tyX10 tyX10_ok nmX10 (by decide) rfl rfl 20 (by decide) rfl hw rfl rfl (Nat.le_of_ble_eq_true rfl) rfl d kk
theorem gf_11_21 (o : Ok X G cc nL own F Lo) {index : Nat} {v : Int32} (hv : (σ 11).1 21 = v) (hw : Cond.fieldLink own index "RoundRowsModel" "trials" "I" ∈ TT) (d : decode cc pc = .ok (.getfield index, 3)) (kk : WS X G nL σ (pc + 3) lv (.int v :: st)) : WS X G nL σ pc lv (.ref (gad G 11) :: st) := by
  subst hv
  exact r_get o (C := RX10) (T := TX10) (N := 25) inX10 (by decide) rfl rfl 21 (by decide) rfl hw rfl d kk
theorem pf_11_21 (o : Ok X G cc nL own F Lo) {index : Nat} {v : Int32} (hw : Cond.fieldLink own index "RoundRowsModel" "trials" "I" ∈ TT) (d : decode cc pc = .ok (.putfield index, 3)) (kk : WS X G nL (sti σ 11 21 v) (pc + 3) lv st) : WS X G nL σ pc lv (.int v :: .ref (gad G 11) :: st) := r_puti o (C := RX10) (T := TX10) (N := 25) inX10 tyX10 tyX10_ok nmX10 (by decide) rfl rfl 21 (by decide) rfl hw rfl rfl (Nat.le_of_ble_eq_true rfl) rfl d kk
theorem gf_11_22 (o : Ok X G cc nL own F Lo) {index : Nat} (hw : Cond.fieldLink own index "RoundRowsModel" "reading" "[I" ∈ TT) (d : decode cc pc = .ok (.getfield index, 3)) (kk : WS X G nL σ (pc + 3) lv (.ref (gad G 84) :: st)) : WS X G nL σ pc lv (.ref (gad G 11) :: st) := r_get o (C := RX10) (T := TX10) (N := 25) inX10 (by decide) rfl rfl 22 (by decide) rfl hw rfl d kk
theorem gf_11_23 (o : Ok X G cc nL own F Lo) {index : Nat} {v : Int32} (hv : (σ 11).1 23 = v) (hw : Cond.fieldLink own index "RoundRowsModel" "barIs" "I" ∈ TT) (d : decode cc pc = .ok (.getfield index, 3)) (kk : WS X G nL σ (pc + 3) lv (.int v :: st)) : WS X G nL σ pc lv (.ref (gad G 11) :: st) := by
  subst hv
  exact r_get o (C := RX10) (T := TX10) (N := 25) inX10 (by decide) rfl rfl 23 (by decide) rfl hw rfl d kk
theorem pf_11_23 (o : Ok X G cc nL own F Lo) {index : Nat} {v : Int32} (hw : Cond.fieldLink own index "RoundRowsModel" "barIs" "I" ∈ TT) (d : decode cc pc = .ok (.putfield index, 3)) (kk : WS X G nL (sti σ 11 23 v) (pc + 3) lv st) : WS X G nL σ pc lv (.int v :: .ref (gad G 11) :: st) := r_puti o (C := RX10) (T := TX10) (N := 25) inX10 tyX10 tyX10_ok nmX10 (by decide) rfl rfl 23 (by decide) rfl hw rfl rfl (Nat.le_of_ble_eq_true rfl) rfl d kk
theorem gf_11_24 (o : Ok X G cc nL own F Lo) {index : Nat} {v : Int32} (hv : (σ 11).1 24 = v) (hw : Cond.fieldLink own index "RoundRowsModel" "trueOnes" "I" ∈ TT) (d : decode cc pc = .ok (.getfield index, 3)) (kk : WS X G nL σ (pc + 3) lv (.int v :: st)) : WS X G nL σ pc lv (.ref (gad G 11) :: st) := by
  subst hv
  exact r_get o (C := RX10) (T := TX10) (N := 25) inX10 (by decide) rfl rfl 24 (by decide) rfl hw rfl d kk
theorem pf_11_24 (o : Ok X G cc nL own F Lo) {index : Nat} {v : Int32} (hw : Cond.fieldLink own index "RoundRowsModel" "trueOnes" "I" ∈ TT) (d : decode cc pc = .ok (.putfield index, 3)) (kk : WS X G nL (sti σ 11 24 v) (pc + 3) lv st) : WS X G nL σ pc lv (.int v :: .ref (gad G 11) :: st) := r_puti o (C := RX10) (T := TX10) (N := 25) inX10 tyX10 tyX10_ok nmX10 (by decide) rfl rfl 24 (by decide) rfl hw rfl rfl (Nat.le_of_ble_eq_true rfl) rfl d kk
theorem ceR {G : Gl} {r : Nat} (hr : r < 13) (x : Cn) : cellE G (32 + r) x = .inr (7, [.ref (gad G (45 + r)), .ref (gad G (58 + r)), .int (x.1 2)]) := by
  unfold cellE
  rw [if_neg (by omega), if_neg (by omega), if_neg (by omega), if_pos (by omega), show 32 + r + 13 = 45 + r by omega, show 32 + r + 26 = 58 + r by omega]
theorem ceP {G : Gl} {r : Nat} (hr : r < 13) (x : Cn) : cellE G (45 + r) x = .inl (gI G, 24, .inl x.1) := by
  unfold cellE
  rw [if_neg (by omega), if_neg (by omega), if_neg (by omega), if_neg (by omega), if_neg (by omega), if_neg (by omega)]
  have : lenI (45 + r) = 24 := by
    match r, hr with
    | 0, _ | 1, _ | 2, _ | 3, _ | 4, _ | 5, _ | 6, _ | 7, _ | 8, _ | 9, _ | 10, _ | 11, _ | 12, _ => rfl
  rw [this]
theorem ceJ {G : Gl} {r : Nat} (hr : r < 13) (x : Cn) : cellE G (58 + r) x = .inl (gJ G, 24, .inr (.inl x.2)) := by
  unfold cellE
  rw [if_neg (by omega), if_neg (by omega), if_neg (by omega), if_neg (by omega), if_pos (by omega)]
theorem ceY {G : Gl} {r : Nat} (hr : r < 6) (x : Cn) : cellE G (13 + r) x = .inl (gI G, 24, .inl x.1) := by
  match r, hr with
  | 0, _ | 1, _ | 2, _ | 3, _ | 4, _ | 5, _ => rfl
theorem gfR_0 (o : Ok X G cc nL own F Lo) {index r : Nat} (hr : r < 13) (hw : Cond.fieldLink own index "RoundRows$Round" "places" "[I" ∈ TT) (d : decode cc pc = .ok (.getfield index, 3)) (kk : WS X G nL σ (pc + 3) lv (.ref (gad G (45 + r)) :: st)) : WS X G nL σ pc lv (.ref (gad G (32 + r)) :: st) := r_get o (C := RX7) (T := TX7) (N := 3) inX7 (by omega) (ceR hr _) rfl 0 (by decide) rfl hw rfl d kk
theorem gfR_1 (o : Ok X G cc nL own F Lo) {index r : Nat} (hr : r < 13) (hw : Cond.fieldLink own index "RoundRows$Round" "weights" "[J" ∈ TT) (d : decode cc pc = .ok (.getfield index, 3)) (kk : WS X G nL σ (pc + 3) lv (.ref (gad G (58 + r)) :: st)) : WS X G nL σ pc lv (.ref (gad G (32 + r)) :: st) := r_get o (C := RX7) (T := TX7) (N := 3) inX7 (by omega) (ceR hr _) rfl 1 (by decide) rfl hw rfl d kk
theorem gfR_2 (o : Ok X G cc nL own F Lo) {index r : Nat} {v : Int32} (hr : r < 13) (hv : (σ (32 + r)).1 2 = v) (hw : Cond.fieldLink own index "RoundRows$Round" "n" "I" ∈ TT) (d : decode cc pc = .ok (.getfield index, 3)) (kk : WS X G nL σ (pc + 3) lv (.int v :: st)) : WS X G nL σ pc lv (.ref (gad G (32 + r)) :: st) := by
  subst hv
  exact r_get o (C := RX7) (T := TX7) (N := 3) inX7 (by omega) (ceR hr _) rfl 2 (by decide) rfl hw rfl d kk
theorem pfR_2 (o : Ok X G cc nL own F Lo) {index r : Nat} {v : Int32} (hr : r < 13) (hw : Cond.fieldLink own index "RoundRows$Round" "n" "I" ∈ TT) (d : decode cc pc = .ok (.putfield index, 3)) (kk : WS X G nL (sti σ (32 + r) 2 v) (pc + 3) lv st) : WS X G nL σ pc lv (.int v :: .ref (gad G (32 + r)) :: st) := r_puti o (C := RX7) (T := TX7) (N := 3) inX7 tyX7 tyX7_ok nmX7 (by omega) (ceR hr _) rfl 2 (by decide) rfl hw rfl rfl (Nat.le_of_ble_eq_true rfl) (ceR hr _) d kk
theorem ia_13 {G : Gl} (x : Cn) : cellE G 13 x = .inl (gI G, 24, .inl x.1) := rfl
theorem ia_14 {G : Gl} (x : Cn) : cellE G 14 x = .inl (gI G, 24, .inl x.1) := rfl
theorem ia_15 {G : Gl} (x : Cn) : cellE G 15 x = .inl (gI G, 24, .inl x.1) := rfl
theorem ia_16 {G : Gl} (x : Cn) : cellE G 16 x = .inl (gI G, 24, .inl x.1) := rfl
theorem ia_17 {G : Gl} (x : Cn) : cellE G 17 x = .inl (gI G, 24, .inl x.1) := rfl
theorem ia_18 {G : Gl} (x : Cn) : cellE G 18 x = .inl (gI G, 24, .inl x.1) := rfl
theorem ia_19 {G : Gl} (x : Cn) : cellE G 19 x = .inl (gI G, 20, .inl x.1) := rfl
theorem ia_20 {G : Gl} (x : Cn) : cellE G 20 x = .inl (gI G, 24, .inl x.1) := rfl
theorem ia_21 {G : Gl} (x : Cn) : cellE G 21 x = .inl (gI G, 24, .inl x.1) := rfl
theorem ia_22 {G : Gl} (x : Cn) : cellE G 22 x = .inl (gI G, 24, .inl x.1) := rfl
theorem ia_23 {G : Gl} (x : Cn) : cellE G 23 x = .inl (gI G, 24, .inl x.1) := rfl
theorem ia_24 {G : Gl} (x : Cn) : cellE G 24 x = .inl (gI G, 24, .inl x.1) := rfl
theorem ia_25 {G : Gl} (x : Cn) : cellE G 25 x = .inl (gI G, 24, .inl x.1) := rfl
theorem ia_26 {G : Gl} (x : Cn) : cellE G 26 x = .inl (gI G, 24, .inl x.1) := rfl
theorem ia_27 {G : Gl} (x : Cn) : cellE G 27 x = .inl (gI G, 20, .inl x.1) := rfl
theorem ia_28 {G : Gl} (x : Cn) : cellE G 28 x = .inl (gI G, 20, .inl x.1) := rfl
theorem ia_29 {G : Gl} (x : Cn) : cellE G 29 x = .inl (gI G, 20, .inl x.1) := rfl
theorem ia_30 {G : Gl} (x : Cn) : cellE G 30 x = .inl (gI G, 8, .inl x.1) := rfl
theorem ia_45 {G : Gl} (x : Cn) : cellE G 45 x = .inl (gI G, 24, .inl x.1) := rfl
theorem ia_46 {G : Gl} (x : Cn) : cellE G 46 x = .inl (gI G, 24, .inl x.1) := rfl
theorem ia_47 {G : Gl} (x : Cn) : cellE G 47 x = .inl (gI G, 24, .inl x.1) := rfl
theorem ia_48 {G : Gl} (x : Cn) : cellE G 48 x = .inl (gI G, 24, .inl x.1) := rfl
theorem ia_49 {G : Gl} (x : Cn) : cellE G 49 x = .inl (gI G, 24, .inl x.1) := rfl
theorem ia_50 {G : Gl} (x : Cn) : cellE G 50 x = .inl (gI G, 24, .inl x.1) := rfl
theorem ia_51 {G : Gl} (x : Cn) : cellE G 51 x = .inl (gI G, 24, .inl x.1) := rfl
theorem ia_52 {G : Gl} (x : Cn) : cellE G 52 x = .inl (gI G, 24, .inl x.1) := rfl
theorem ia_53 {G : Gl} (x : Cn) : cellE G 53 x = .inl (gI G, 24, .inl x.1) := rfl
theorem ia_54 {G : Gl} (x : Cn) : cellE G 54 x = .inl (gI G, 24, .inl x.1) := rfl
theorem ia_55 {G : Gl} (x : Cn) : cellE G 55 x = .inl (gI G, 24, .inl x.1) := rfl
theorem ia_56 {G : Gl} (x : Cn) : cellE G 56 x = .inl (gI G, 24, .inl x.1) := rfl
theorem ia_57 {G : Gl} (x : Cn) : cellE G 57 x = .inl (gI G, 24, .inl x.1) := rfl
theorem ia_71 {G : Gl} (x : Cn) : cellE G 71 x = .inl (gI G, 144, .inl x.1) := rfl
theorem ia_72 {G : Gl} (x : Cn) : cellE G 72 x = .inl (gI G, 20, .inl x.1) := rfl
theorem ia_73 {G : Gl} (x : Cn) : cellE G 73 x = .inl (gI G, 24, .inl x.1) := rfl
theorem ia_74 {G : Gl} (x : Cn) : cellE G 74 x = .inl (gI G, 24, .inl x.1) := rfl
theorem ia_75 {G : Gl} (x : Cn) : cellE G 75 x = .inl (gI G, 24, .inl x.1) := rfl
theorem ia_76 {G : Gl} (x : Cn) : cellE G 76 x = .inl (gI G, 24, .inl x.1) := rfl
theorem ia_78 {G : Gl} (x : Cn) : cellE G 78 x = .inl (gI G, 12, .inl x.1) := rfl
theorem ia_79 {G : Gl} (x : Cn) : cellE G 79 x = .inl (gI G, 8, .inl x.1) := rfl
theorem ia_80 {G : Gl} (x : Cn) : cellE G 80 x = .inl (gI G, 24, .inl x.1) := rfl
theorem ia_81 {G : Gl} (x : Cn) : cellE G 81 x = .inl (gI G, 20, .inl x.1) := rfl
theorem ia_82 {G : Gl} (x : Cn) : cellE G 82 x = .inl (gI G, 20, .inl x.1) := rfl
theorem ia_83 {G : Gl} (x : Cn) : cellE G 83 x = .inl (gI G, 20, .inl x.1) := rfl
theorem ia_84 {G : Gl} (x : Cn) : cellE G 84 x = .inl (gI G, 8, .inl x.1) := rfl
theorem la_58 {G : Gl} (x : Cn) : cellE G 58 x = .inl (gJ G, 24, .inr (.inl x.2)) := rfl
theorem la_59 {G : Gl} (x : Cn) : cellE G 59 x = .inl (gJ G, 24, .inr (.inl x.2)) := rfl
theorem la_60 {G : Gl} (x : Cn) : cellE G 60 x = .inl (gJ G, 24, .inr (.inl x.2)) := rfl
theorem la_61 {G : Gl} (x : Cn) : cellE G 61 x = .inl (gJ G, 24, .inr (.inl x.2)) := rfl
theorem la_62 {G : Gl} (x : Cn) : cellE G 62 x = .inl (gJ G, 24, .inr (.inl x.2)) := rfl
theorem la_63 {G : Gl} (x : Cn) : cellE G 63 x = .inl (gJ G, 24, .inr (.inl x.2)) := rfl
theorem la_64 {G : Gl} (x : Cn) : cellE G 64 x = .inl (gJ G, 24, .inr (.inl x.2)) := rfl
theorem la_65 {G : Gl} (x : Cn) : cellE G 65 x = .inl (gJ G, 24, .inr (.inl x.2)) := rfl
theorem la_66 {G : Gl} (x : Cn) : cellE G 66 x = .inl (gJ G, 24, .inr (.inl x.2)) := rfl
theorem la_67 {G : Gl} (x : Cn) : cellE G 67 x = .inl (gJ G, 24, .inr (.inl x.2)) := rfl
theorem la_68 {G : Gl} (x : Cn) : cellE G 68 x = .inl (gJ G, 24, .inr (.inl x.2)) := rfl
theorem la_69 {G : Gl} (x : Cn) : cellE G 69 x = .inl (gJ G, 24, .inr (.inl x.2)) := rfl
theorem la_70 {G : Gl} (x : Cn) : cellE G 70 x = .inl (gJ G, 24, .inr (.inl x.2)) := rfl
theorem la_77 {G : Gl} (x : Cn) : cellE G 77 x = .inl (gJ G, 12, .inr (.inl x.2)) := rfl
theorem r_ia (o : Ok X G cc nL own F Lo) {c n : Nat} (hc : c < 85) (he : ∀ x, cellE G c x = .inl (gI G, n, .inl x.1)) {f : Nat → Int32} (hf : (σ c).1 = f) {i : Int32} (j : Nat) (hj : i = nI j) (hn : j < n) (hb : n < 2 ^ 31) (d : decode cc pc = .ok (.iaload, 1)) (k : WS X G nL σ (pc + 1) lv (.int (f j) :: st)) : WS X G nL σ pc lv (.int i :: .ref (gad G c) :: st) := by
  subst hf
  exact r_iald o hc he j hj hn hb d k
theorem r_la (o : Ok X G cc nL own F Lo) {c n : Nat} (hc : c < 85) (he : ∀ x, cellE G c x = .inl (gJ G, n, .inr (.inl x.2))) {f : Nat → Int64} (hf : (σ c).2 = f) {i : Int32} (j : Nat) (hj : i = nI j) (hn : j < n) (hb : n < 2 ^ 31) (d : decode cc pc = .ok (.laload, 1)) (k : WS X G nL σ (pc + 1) lv (.long (f j) :: st)) : WS X G nL σ pc lv (.int i :: .ref (gad G c) :: st) := by
  subst hf
  exact r_lald o hc he j hj hn hb d k
end RF
/-! booleans -/
def b01 (b : Bool) : Int32 := match b with
  | true => nI 1
  | false => nI 0
theorem b01_eq0 (b : Bool) : (b01 b = 0) ↔ b = false := by cases b <;> decide
theorem b01_ne0 (b : Bool) : (¬ b01 b = 0) ↔ b = true := by cases b <;> decide
theorem b01_n (b : Bool) : narrow .boolean (.int (b01 b)) = .int (b01 b) := by cases b <;> rfl
theorem b01_t : nI 1 = b01 true := rfl
theorem b01_f : nI 0 = b01 false := rfl
theorem nI_inc (k : Nat) : nI k + Int32.ofInt 1 = nI (k + 1) := nI_1 k
theorem nI_dec {k : Nat} (h : 1 ≤ k) : nI k + Int32.ofInt (-1) = nI (k - 1) := by
  obtain ⟨j, rfl⟩ : ∃ j, k = j + 1 := ⟨k - 1, by omega⟩
  exact pk_m1 j
theorem nI_add' (a b : Nat) : nI a + nI b = nI (a + b) := nI_add a b
theorem nI_sub' {a b : Nat} (h : b ≤ a) : nI a - nI b = nI (a - b) := pk_sub h
theorem nI_mul' (a b : Nat) : nI a * nI b = nI (a * b) := pk_mul a b
theorem nI_rem' {a d : Nat} (ha : a < 2 ^ 31) (h0 : 0 < d) (hd : d < 2 ^ 31) : nI a - nI a / nI d * nI d = nI (a % d) := pk_rem ha h0 hd
theorem nI_z {k : Nat} (h0 : 0 < k) (h : k < 2 ^ 31) : ¬ nI k = 0 := nI_ne0 h0 h
end
section
section RM
variable {X : Cx} {G : Gl} {cc : ByteArray} {nL : Nat} {own : String} {F Lo : Nat} {σ : Sto} {pc : Nat} {lv : List (Nat × Value)} {st : List Value}
theorem r_absl (o : Ok X G cc nL own F Lo) {idx : Nat} (hlk : Cond.methodLink own idx Lib.MathLoose.abs_long.x ∈ TT) (hs : Cond.static Lib.MathLoose.abs_long.x ∈ TT) (hi : Cond.initialized "java/lang/Math" ∈ TT) (hcd : Cond.code Lib.MathLoose.abs_long.x Lib.MathLoose.abs_long.code 2 (some .long) ∈ TT) (hF : 1 ≤ F) (hL : (st.map fun v => v.category).sum + 13 ≤ Lo) {x : Int64} (d : decode cc pc = .ok (.invokestatic idx, 3)) (kk : WS X G nL σ (pc + 3) lv (.long (if 0 < x then x else -x) :: st)) : WS X G nL σ pc lv (.long x :: st) := fun H locs ls hP hS h =>
  va_mabs_long o.1 o.2.1 (by rw [o.2.2.1]; exact h.1.symm) o.2.2.2.1 (o.2.2.2.2.1 _ hlk) (o.2.2.2.2.1 _ hs) (o.2.2.2.2.1 _ hi) (o.2.2.2.2.1 _ hcd) (by rw [o.2.2.2.2.2.2.2.1]; exact hF) (by rw [o.2.2.2.2.2.2.2.2.1]; exact hL) (Nat.zero_le _) (Nat.zero_le _) d (kk H locs ls hP hS h)
end RM
def irm (x y : Int32) : Int32 := x - x / y * y
def lrm (x y : Int64) : Int64 := x - x / y * y
def ushr32 (x y : Int32) : Int32 := (x.toUInt32 >>> (y.toUInt32 &&& Int32.toUInt32 31)).toInt32
theorem nI_eq0 {k : Nat} (h : k < 2 ^ 31) : (nI k = 0) ↔ k = 0 := by rw [← nI_0]; exact nI_eq h (by decide)
theorem nI_lt0 {k : Nat} (h : k < 2 ^ 31) : (nI k < 0) ↔ k < 0 := by rw [← nI_0]; exact nI_ltI h (by decide)
theorem nI_ge0 {k : Nat} (h : k < 2 ^ 31) : (0 ≤ nI k) ↔ 0 ≤ k := by rw [← nI_0]; exact nI_leI (by decide) h
theorem nI_gt0 {k : Nat} (h : k < 2 ^ 31) : (0 < nI k) ↔ 0 < k := by rw [← nI_0]; exact nI_ltI (by decide) h
theorem nI_le0 {k : Nat} (h : k < 2 ^ 31) : (nI k ≤ 0) ↔ k ≤ 0 := by rw [← nI_0]; exact nI_leI h (by decide)
theorem nI_bv (k : Nat) : (nI k).toBitVec = BitVec.ofNat 32 k := rfl
theorem nI_and (a b : Nat) : nI a &&& nI b = nI (a &&& b) := by
  apply Int32.toBitVec_inj.mp
  rw [Int32.toBitVec_and, nI_bv, nI_bv, nI_bv]
  apply BitVec.eq_of_toNat_eq
  rw [BitVec.toNat_and, BitVec.toNat_ofNat, BitVec.toNat_ofNat, BitVec.toNat_ofNat, Nat.and_mod_two_pow]
theorem nI_or (a b : Nat) : nI a ||| nI b = nI (a ||| b) := by
  apply Int32.toBitVec_inj.mp
  rw [Int32.toBitVec_or, nI_bv, nI_bv, nI_bv]
  apply BitVec.eq_of_toNat_eq
  rw [BitVec.toNat_or, BitVec.toNat_ofNat, BitVec.toNat_ofNat, BitVec.toNat_ofNat, Nat.or_mod_two_pow]
theorem nI_sh {b : Nat} (hb : b < 32) : ((nI b &&& 31 : Int32).toBitVec.smod 32).toNat = b := by
  have h : ∀ b : Fin 32, ((nI b.val &&& 31 : Int32).toBitVec.smod 32).toNat = b.val := by decide
  exact h ⟨b, hb⟩
theorem nI_shl {a b : Nat} (hb : b < 32) : nI a <<< (nI b &&& 31) = nI (a * 2 ^ b) := by
  apply Int32.toBitVec_inj.mp
  apply BitVec.eq_of_toNat_eq
  rw [pk_shl _ _ b (nI_sh hb), nI_bv, nI_bv, BitVec.toNat_ofNat, BitVec.toNat_ofNat]
  rw [Nat.mod_mul_mod]
theorem nI_shr {a b : Nat} (ha : a < 2 ^ 31) (hb : b < 32) : nI a >>> (nI b &&& 31) = nI (a / 2 ^ b) := pk_shrN ha _ b (nI_sh hb)
end
section
theorem r_lv {X : Cx} {G : Gl} {nL : Nat} {σ : Sto} {pc : Nat} {lv lv' : List (Nat × Value)} {st : List Value} (h : lv = lv') (k : WS X G nL σ pc lv' st) : WS X G nL σ pc lv st := by rw [h]; exact k
theorem lk_def : ∀ {ps : List (Int × Int)} {d k : Int}, (ps.all fun a => decide (a.1 ≠ k)) = true → Op.lookupswitch.offset ps d k = d
  | [], _, _, _ => rfl
  | (a, o) :: r, d, k, h => by
    simp only [List.all_cons, Bool.and_eq_true, decide_eq_true_eq] at h
    rw [Op.lookupswitch.offset_cons, if_neg h.1]
    exact lk_def h.2
theorem neN {x : Int32} {k : Nat} (h : ¬ x = nI k) (hk : k < 2 ^ 31) : x.toInt ≠ k := fun e => h (by
  apply Int32.toInt_inj.mp
  rw [nI_toInt hk, e])
theorem nI_decm (j : Nat) : nI j + Int32.ofInt (-1) = nI j - 1 := by
  rw [Int32.sub_eq_add_neg]
  rfl
theorem nI_lt1 {k : Nat} (h : k < 2 ^ 31) : (nI k - 1 < 0) ↔ k = 0 := by
  cases k with
  | zero => exact ⟨fun _ => rfl, fun _ => by decide⟩
  | succ j =>
    rw [nI_pred]
    exact ⟨fun q => absurd q (nI_pos (by omega)), fun q => by omega⟩
/-! ints within -/
def inB (lo hi v : Int32) : Bool := decide (lo ≤ v) && decide (v ≤ hi)
def inL (lo hi v : Int64) : Bool := decide (lo ≤ v) && decide (v ≤ hi)
theorem fa_lt (a b : Int32) : a < b ↔ a.toInt < b.toInt := Int32.lt_iff_toInt_lt
theorem fa_le (a b : Int32) : a ≤ b ↔ a.toInt ≤ b.toInt := Int32.le_iff_toInt_le
theorem fa_lt64 (a b : Int64) : a < b ↔ a.toInt < b.toInt := Int64.lt_iff_toInt_lt
theorem fa_le64 (a b : Int64) : a ≤ b ↔ a.toInt ≤ b.toInt := Int64.le_iff_toInt_le
theorem inB_t {lo hi v : Int32} (h1 : ¬ v < lo) (h2 : ¬ hi < v) : inB lo hi v = true := by
  rw [fa_lt] at h1 h2
  unfold inB
  rw [decide_eq_true ((fa_le _ _).mpr (by omega)), decide_eq_true ((fa_le _ _).mpr (by omega))]
  rfl
theorem inB_f1 {lo hi v : Int32} (h1 : v < lo) : inB lo hi v = false := by
  rw [fa_lt] at h1
  unfold inB
  rw [decide_eq_false (fun h => by rw [fa_le] at h; omega)]
  rfl
theorem inB_f2 {lo hi v : Int32} (h1 : hi < v) : inB lo hi v = false := by
  rw [fa_lt] at h1
  unfold inB
  rw [decide_eq_false (p := v ≤ hi) (fun h => by rw [fa_le] at h; omega), Bool.and_false]
theorem inL_t {lo hi v : Int64} (h1 : ¬ v < lo) (h2 : ¬ hi < v) : inL lo hi v = true := by
  rw [fa_lt64] at h1 h2
  unfold inL
  rw [decide_eq_true ((fa_le64 _ _).mpr (by omega)), decide_eq_true ((fa_le64 _ _).mpr (by omega))]
  rfl
theorem inL_f1 {lo hi v : Int64} (h1 : v < lo) : inL lo hi v = false := by
  rw [fa_lt64] at h1
  unfold inL
  rw [decide_eq_false (fun h => by rw [fa_le64] at h; omega)]
  rfl
theorem inL_f2 {lo hi v : Int64} (h1 : hi < v) : inL lo hi v = false := by
  rw [fa_lt64] at h1
  unfold inL
  rw [decide_eq_false (p := v ≤ hi) (fun h => by rw [fa_le64] at h; omega), Bool.and_false]
theorem inL_w (lo hi v : Int32) : inL lo.toInt64 hi.toInt64 v.toInt64 = inB lo hi v := by
  unfold inL inB
  congr 1 <;> rw [decide_eq_decide, fa_le64, fa_le, Int32.toInt_toInt64, Int32.toInt_toInt64]
theorem inB_iff (lo hi v : Int32) : inB lo hi v = true ↔ lo.toInt ≤ v.toInt ∧ v.toInt ≤ hi.toInt := by
  unfold inB
  rw [Bool.and_eq_true, decide_eq_true_eq, decide_eq_true_eq, fa_le, fa_le]
theorem inB_nI {n : Nat} (hn : n < 2 ^ 31) {v : Int32} (h : inB (nI 0) (nI n) v = true) : v = nI v.toNatClampNeg ∧ v.toNatClampNeg ≤ n := by
  rw [inB_iff, nI_toInt hn, nI_toInt (by decide)] at h
  have h0 : ¬ v < 0 := by rw [fa_lt]; show ¬ v.toInt < 0; omega
  obtain ⟨j, hj, rfl⟩ := nI_of h0
  rw [nI_toInt hj] at h
  rw [nI_clamp hj]
  exact ⟨rfl, by omega⟩
theorem inB_N {a b k : Nat} (ha : a < 2 ^ 31) (hb : b < 2 ^ 31) (hk : k < 2 ^ 31) : inB (nI a) (nI b) (nI k) = (decide (a ≤ k) && decide (k ≤ b)) := by
  unfold inB
  congr 1 <;> rw [decide_eq_decide]
  · exact nI_leI ha hk
  · exact nI_leI hk hb
end
section
def nonB (v : Int32) : Bool := if v = -1000000 then true else inB (-99) (nI 99) v
set_option maxHeartbeats 4000000 in
set_option maxRecDepth 100000 in
theorem c_X9_isWithin (l : Launch) (G : Gl) (σ : Sto) (v : Int32) (lo : Int32) (hi : Int32) : CtI l G yX9_isWithin cX9_isWithin 3 (some .boolean) 0 0 [.int v, .int lo, .int hi] σ (fun r σ' => r = b01 (inB lo hi v) ∧ σ' = σ) := by
  refine CtI.of (by decide +kernel) (Nat.le_of_ble_eq_true rfl) (fun X o q => ?_)
  show WS X G 3 σ 0 [(0, .int v), (1, .int lo), (2, .int hi)] []
  refine r_iload_n o dX9_isWithin_0 0 rfl ?_
  refine r_iload_n o dX9_isWithin_1 1 rfl ?_
  refine r_icmp_lt o (tgt := 14) dX9_isWithin_2 (by decide) (fun h2 => ?_) (fun h2 => ?_)
  · skip
    refine r_iconst o (v := nI 0) dX9_isWithin_14 (by decide) ?_
    exact r_zreturn o q (by decide) dX9_isWithin_15 (⟨by first | (rw [inB_t h2 h7]; rfl) | (rw [inB_f2 h7]; rfl) | (rw [inB_f1 h2]; rfl), rfl⟩)
  · skip
    refine r_iload_n o dX9_isWithin_5 0 rfl ?_
    refine r_iload_n o dX9_isWithin_6 2 rfl ?_
    refine r_icmp_gt o (tgt := 14) dX9_isWithin_7 (by decide) (fun h7 => ?_) (fun h7 => ?_)
    · skip
      refine r_iconst o (v := nI 0) dX9_isWithin_14 (by decide) ?_
      exact r_zreturn o q (by decide) dX9_isWithin_15 (⟨by first | (rw [inB_t h2 h7]; rfl) | (rw [inB_f2 h7]; rfl) | (rw [inB_f1 h2]; rfl), rfl⟩)
    · skip
      refine r_iconst o (v := nI 1) dX9_isWithin_10 (by decide) ?_
      refine r_goto o (tgt := 15) dX9_isWithin_11 (by decide) ?_
      exact r_zreturn o q (by decide) dX9_isWithin_15 (⟨by first | (rw [inB_t h2 h7]; rfl) | (rw [inB_f2 h7]; rfl) | (rw [inB_f1 h2]; rfl), rfl⟩)
set_option maxHeartbeats 4000000 in
set_option maxRecDepth 100000 in
theorem c_X9_isRow (l : Launch) (G : Gl) (σ : Sto) (v : Int32) : CtI l G yX9_isRow cX9_isRow 1 (some .boolean) 1 22 [.int v] σ (fun r σ' => r = b01 (inB (nI 0) (nI 5) v) ∧ σ' = σ) := by
  refine CtI.of (by decide +kernel) (Nat.le_of_ble_eq_true rfl) (fun X o q => ?_)
  show WS X G 1 σ 0 [(0, .int v)] []
  refine r_iload_n o dX9_isRow_0 0 rfl ?_
  refine r_iconst o (v := nI 0) dX9_isRow_1 (by decide) ?_
  refine r_iconst o (v := nI 5) dX9_isRow_2 (by decide) ?_
  refine r_callSI o (As := [.int v, .int (nI 0), .int (nI 5)]) (st := []) (c_X9_isWithin (xl X) G σ v (nI 0) (nI 5)) om_X9_isWithin mw_278 mw_277 (by decide) rfl rfl (by decide) dX9_isRow_3 (fun r3 σ3 hp3 => ?_)
  obtain ⟨rfl, rfl⟩ := hp3
  exact r_zreturn o q (b01_n _) dX9_isRow_6 (⟨rfl, rfl⟩)
set_option maxHeartbeats 4000000 in
set_option maxRecDepth 100000 in
theorem c_X9_isYear (l : Launch) (G : Gl) (σ : Sto) (v : Int32) : CtI l G yX9_isYear cX9_isYear 1 (some .boolean) 1 22 [.int v] σ (fun r σ' => r = b01 (inB (nI 0) (nI 23) v) ∧ σ' = σ) := by
  refine CtI.of (by decide +kernel) (Nat.le_of_ble_eq_true rfl) (fun X o q => ?_)
  show WS X G 1 σ 0 [(0, .int v)] []
  refine r_iload_n o dX9_isYear_0 0 rfl ?_
  refine r_iconst o (v := nI 0) dX9_isYear_1 (by decide) ?_
  refine r_bipush o (v := nI 23) dX9_isYear_2 (by decide) ?_
  refine r_callSI o (As := [.int v, .int (nI 0), .int (nI 23)]) (st := []) (c_X9_isWithin (xl X) G σ v (nI 0) (nI 23)) om_X9_isWithin mw_278 mw_277 (by decide) rfl rfl (by decide) dX9_isYear_4 (fun r4 σ4 hp4 => ?_)
  obtain ⟨rfl, rfl⟩ := hp4
  exact r_zreturn o q (b01_n _) dX9_isYear_7 (⟨rfl, rfl⟩)
set_option maxHeartbeats 4000000 in
set_option maxRecDepth 100000 in
theorem c_X9_isDivide (l : Launch) (G : Gl) (σ : Sto) (v : Int32) : CtI l G yX9_isDivide cX9_isDivide 1 (some .boolean) 1 22 [.int v] σ (fun r σ' => r = b01 (inB (nI 4) (nI 22) v) ∧ σ' = σ) := by
  refine CtI.of (by decide +kernel) (Nat.le_of_ble_eq_true rfl) (fun X o q => ?_)
  show WS X G 1 σ 0 [(0, .int v)] []
  refine r_iload_n o dX9_isDivide_0 0 rfl ?_
  refine r_iconst o (v := nI 4) dX9_isDivide_1 (by decide) ?_
  refine r_bipush o (v := nI 22) dX9_isDivide_2 (by decide) ?_
  refine r_callSI o (As := [.int v, .int (nI 4), .int (nI 22)]) (st := []) (c_X9_isWithin (xl X) G σ v (nI 4) (nI 22)) om_X9_isWithin mw_278 mw_277 (by decide) rfl rfl (by decide) dX9_isDivide_4 (fun r4 σ4 hp4 => ?_)
  obtain ⟨rfl, rfl⟩ := hp4
  exact r_zreturn o q (b01_n _) dX9_isDivide_7 (⟨rfl, rfl⟩)
set_option maxHeartbeats 4000000 in
set_option maxRecDepth 100000 in
theorem c_X9_isLength (l : Launch) (G : Gl) (σ : Sto) (v : Int32) : CtI l G yX9_isLength cX9_isLength 1 (some .boolean) 1 22 [.int v] σ (fun r σ' => r = b01 (inB (nI 2) (nI 12) v) ∧ σ' = σ) := by
  refine CtI.of (by decide +kernel) (Nat.le_of_ble_eq_true rfl) (fun X o q => ?_)
  show WS X G 1 σ 0 [(0, .int v)] []
  refine r_iload_n o dX9_isLength_0 0 rfl ?_
  refine r_iconst o (v := nI 2) dX9_isLength_1 (by decide) ?_
  refine r_bipush o (v := nI 12) dX9_isLength_2 (by decide) ?_
  refine r_callSI o (As := [.int v, .int (nI 2), .int (nI 12)]) (st := []) (c_X9_isWithin (xl X) G σ v (nI 2) (nI 12)) om_X9_isWithin mw_278 mw_277 (by decide) rfl rfl (by decide) dX9_isLength_4 (fun r4 σ4 hp4 => ?_)
  obtain ⟨rfl, rfl⟩ := hp4
  exact r_zreturn o q (b01_n _) dX9_isLength_7 (⟨rfl, rfl⟩)
set_option maxHeartbeats 4000000 in
set_option maxRecDepth 100000 in
theorem c_X9_isPart (l : Launch) (G : Gl) (σ : Sto) (v : Int32) : CtI l G yX9_isPart cX9_isPart 1 (some .boolean) 1 22 [.int v] σ (fun r σ' => r = b01 (inB (nI 0) (nI 1) v) ∧ σ' = σ) := by
  refine CtI.of (by decide +kernel) (Nat.le_of_ble_eq_true rfl) (fun X o q => ?_)
  show WS X G 1 σ 0 [(0, .int v)] []
  refine r_iload_n o dX9_isPart_0 0 rfl ?_
  refine r_iconst o (v := nI 0) dX9_isPart_1 (by decide) ?_
  refine r_iconst o (v := nI 1) dX9_isPart_2 (by decide) ?_
  refine r_callSI o (As := [.int v, .int (nI 0), .int (nI 1)]) (st := []) (c_X9_isWithin (xl X) G σ v (nI 0) (nI 1)) om_X9_isWithin mw_278 mw_277 (by decide) rfl rfl (by decide) dX9_isPart_3 (fun r3 σ3 hp3 => ?_)
  obtain ⟨rfl, rfl⟩ := hp3
  exact r_zreturn o q (b01_n _) dX9_isPart_6 (⟨rfl, rfl⟩)
set_option maxHeartbeats 4000000 in
set_option maxRecDepth 100000 in
theorem c_X9_isNumberOrNone (l : Launch) (G : Gl) (σ : Sto) (v : Int32) : CtI l G yX9_isNumberOrNone cX9_isNumberOrNone 1 (some .boolean) 1 22 [.int v] σ (fun r σ' => r = b01 (nonB v) ∧ σ' = σ) := by
  refine CtI.of (by decide +kernel) (Nat.le_of_ble_eq_true rfl) (fun X o q => ?_)
  show WS X G 1 σ 0 [(0, .int v)] []
  refine r_iload_n o dX9_isNumberOrNone_0 0 rfl ?_
  refine r_ldc o mw_235 dX9_isNumberOrNone_1 ?_
  refine r_icmp_eq o (tgt := 17) dX9_isNumberOrNone_3 (by decide) (fun h3 => ?_) (fun h3 => ?_)
  · skip
    refine r_iconst o (v := nI 1) dX9_isNumberOrNone_17 (by decide) ?_
    refine r_goto o (tgt := 22) dX9_isNumberOrNone_18 (by decide) ?_
    exact r_zreturn o q (by decide) dX9_isNumberOrNone_22 (⟨by first | (unfold nonB; rw [h3]; rfl) | (unfold nonB; rw [h14, if_neg h3]; rfl), rfl⟩)
  · skip
    refine r_iload_n o dX9_isNumberOrNone_6 0 rfl ?_
    refine r_bipush o (v := (-99)) dX9_isNumberOrNone_7 (by decide) ?_
    refine r_bipush o (v := nI 99) dX9_isNumberOrNone_9 (by decide) ?_
    refine r_callSI o (As := [.int v, .int (-99), .int (nI 99)]) (st := []) (c_X9_isWithin (xl X) G σ v (-99) (nI 99)) om_X9_isWithin mw_278 mw_277 (by decide) rfl rfl (by decide) dX9_isNumberOrNone_11 (fun r11 σ11 hp11 => ?_)
    obtain ⟨rfl, rfl⟩ := hp11
    refine r_if_eq o (tgt := 21) dX9_isNumberOrNone_14 (by decide) (fun h14 => ?_) (fun h14 => ?_)
    · skip
      rw [b01_eq0] at h14
      refine r_iconst o (v := nI 0) dX9_isNumberOrNone_21 (by decide) ?_
      exact r_zreturn o q (by decide) dX9_isNumberOrNone_22 (⟨by first | (unfold nonB; rw [h3]; rfl) | (unfold nonB; rw [h14, if_neg h3]; rfl), rfl⟩)
    · skip
      rw [b01_ne0] at h14
      refine r_iconst o (v := nI 1) dX9_isNumberOrNone_17 (by decide) ?_
      refine r_goto o (tgt := 22) dX9_isNumberOrNone_18 (by decide) ?_
      exact r_zreturn o q (by decide) dX9_isNumberOrNone_22 (⟨by first | (unfold nonB; rw [h3]; rfl) | (unfold nonB; rw [h14, if_neg h3]; rfl), rfl⟩)
end
