section
/-- a private method of a class that the tables say can be made, by its rows of tables_1 -/
def lw_okq (q : MethodName × Nat) : Prop := (q.1.cls ≠ "java/lang/invoke/MethodHandle" ∧ q.1.cls ≠ "java/lang/invoke/VarHandle") ∧ Cond.instantiable q.1.cls q.2 ∈ tables_1 ∧ Cond.privateMethod q.1 ∈ tables_1 ∧ Cond.instanceMethod q.1 ∈ tables_1
theorem lw_p0 : lw_okq (⟨"RoadCobblers$Pad", "canGoOn", "(II)Z"⟩, 2) := ⟨⟨by decide +kernel, by decide +kernel⟩, List.mem_of_getElem? (i := 69) (by decide +kernel), List.mem_of_getElem? (i := 266) (by decide +kernel), List.mem_of_getElem? (i := 267) (by decide +kernel)⟩
theorem lw_p1 : lw_okq (⟨"RoadCobblers$Trial", "begin", "(LRoadCobblers$Shire;)V"⟩, 5) := ⟨⟨by decide +kernel, by decide +kernel⟩, List.mem_of_getElem? (i := 84) (by decide +kernel), List.mem_of_getElem? (i := 283) (by decide +kernel), List.mem_of_getElem? (i := 284) (by decide +kernel)⟩
theorem lw_p2 : lw_okq (⟨"RoadCobblers$Trial", "take", "(LRoadCobblers$Pad;I)I"⟩, 5) := ⟨⟨by decide +kernel, by decide +kernel⟩, List.mem_of_getElem? (i := 84) (by decide +kernel), List.mem_of_getElem? (i := 294) (by decide +kernel), List.mem_of_getElem? (i := 295) (by decide +kernel)⟩
theorem lw_p3 : lw_okq (⟨"RoadCobblers", "canBeDone", "()Z"⟩, 13) := ⟨⟨by decide +kernel, by decide +kernel⟩, List.mem_of_getElem? (i := 12) (by decide +kernel), List.mem_of_getElem? (i := 348) (by decide +kernel), List.mem_of_getElem? (i := 349) (by decide +kernel)⟩
theorem lw_p4 : lw_okq (⟨"RoadCobblers", "leastWay", "(IIZ)I"⟩, 13) := ⟨⟨by decide +kernel, by decide +kernel⟩, List.mem_of_getElem? (i := 12) (by decide +kernel), List.mem_of_getElem? (i := 390) (by decide +kernel), List.mem_of_getElem? (i := 391) (by decide +kernel)⟩
theorem lw_p5 : lw_okq (⟨"RoadCobblers", "lengthenFrom", "(IZ)V"⟩, 13) := ⟨⟨by decide +kernel, by decide +kernel⟩, List.mem_of_getElem? (i := 12) (by decide +kernel), List.mem_of_getElem? (i := 396) (by decide +kernel), List.mem_of_getElem? (i := 397) (by decide +kernel)⟩
theorem lw_p6 : lw_okq (⟨"RoadCobblers", "walksWithin", "(I)I"⟩, 13) := ⟨⟨by decide +kernel, by decide +kernel⟩, List.mem_of_getElem? (i := 12) (by decide +kernel), List.mem_of_getElem? (i := 419) (by decide +kernel), List.mem_of_getElem? (i := 420) (by decide +kernel)⟩
theorem lw_p7 : lw_okq (⟨"RoadCobblers", "fillLoads", "(II)V"⟩, 13) := ⟨⟨by decide +kernel, by decide +kernel⟩, List.mem_of_getElem? (i := 12) (by decide +kernel), List.mem_of_getElem? (i := 438) (by decide +kernel), List.mem_of_getElem? (i := 439) (by decide +kernel)⟩
theorem lw_p8 : lw_okq (⟨"RoadCobblers", "giveToOneMoreHand", "(I)V"⟩, 13) := ⟨⟨by decide +kernel, by decide +kernel⟩, List.mem_of_getElem? (i := 12) (by decide +kernel), List.mem_of_getElem? (i := 442) (by decide +kernel), List.mem_of_getElem? (i := 443) (by decide +kernel)⟩
theorem lw_p9 : lw_okq (⟨"RoadCobblers", "gatherFitting", "()I"⟩, 13) := ⟨⟨by decide +kernel, by decide +kernel⟩, List.mem_of_getElem? (i := 12) (by decide +kernel), List.mem_of_getElem? (i := 478) (by decide +kernel), List.mem_of_getElem? (i := 479) (by decide +kernel)⟩
theorem lw_p10 : lw_okq (⟨"RoadCobblers", "mostLeft", "(III)I"⟩, 13) := ⟨⟨by decide +kernel, by decide +kernel⟩, List.mem_of_getElem? (i := 12) (by decide +kernel), List.mem_of_getElem? (i := 494) (by decide +kernel), List.mem_of_getElem? (i := 495) (by decide +kernel)⟩
theorem lw_p11 : lw_okq (⟨"RoadCobblers", "winningTake", "(II)I"⟩, 13) := ⟨⟨by decide +kernel, by decide +kernel⟩, List.mem_of_getElem? (i := 12) (by decide +kernel), List.mem_of_getElem? (i := 503) (by decide +kernel), List.mem_of_getElem? (i := 504) (by decide +kernel)⟩
theorem lw_p12 : lw_okq (⟨"RoadCobblers", "fillChances", "(II)V"⟩, 13) := ⟨⟨by decide +kernel, by decide +kernel⟩, List.mem_of_getElem? (i := 12) (by decide +kernel), List.mem_of_getElem? (i := 511) (by decide +kernel), List.mem_of_getElem? (i := 512) (by decide +kernel)⟩
theorem lw_p13 : lw_okq (⟨"RoadCobblers$Trial", "takeDrawn", "(I)V"⟩, 5) := ⟨⟨by decide +kernel, by decide +kernel⟩, List.mem_of_getElem? (i := 84) (by decide +kernel), List.mem_of_getElem? (i := 527) (by decide +kernel), List.mem_of_getElem? (i := 528) (by decide +kernel)⟩
theorem lw_p14 : lw_okq (⟨"RoadCobblersModel", "asNow", "()V"⟩, 20) := ⟨⟨by decide +kernel, by decide +kernel⟩, List.mem_of_getElem? (i := 553) (by decide +kernel), List.mem_of_getElem? (i := 631) (by decide +kernel), List.mem_of_getElem? (i := 632) (by decide +kernel)⟩
theorem lw_p15 : lw_okq (⟨"RoadCobblersModel", "roadsOf", "()I"⟩, 20) := ⟨⟨by decide +kernel, by decide +kernel⟩, List.mem_of_getElem? (i := 553) (by decide +kernel), List.mem_of_getElem? (i := 635) (by decide +kernel), List.mem_of_getElem? (i := 636) (by decide +kernel)⟩
def lw_privs_1 : List (MethodName × Nat) := [(⟨"RoadCobblers$Pad", "canGoOn", "(II)Z"⟩, 2), (⟨"RoadCobblers$Trial", "begin", "(LRoadCobblers$Shire;)V"⟩, 5), (⟨"RoadCobblers$Trial", "take", "(LRoadCobblers$Pad;I)I"⟩, 5), (⟨"RoadCobblers", "canBeDone", "()Z"⟩, 13), (⟨"RoadCobblers", "leastWay", "(IIZ)I"⟩, 13), (⟨"RoadCobblers", "lengthenFrom", "(IZ)V"⟩, 13), (⟨"RoadCobblers", "walksWithin", "(I)I"⟩, 13), (⟨"RoadCobblers", "fillLoads", "(II)V"⟩, 13), (⟨"RoadCobblers", "giveToOneMoreHand", "(I)V"⟩, 13), (⟨"RoadCobblers", "gatherFitting", "()I"⟩, 13), (⟨"RoadCobblers", "mostLeft", "(III)I"⟩, 13), (⟨"RoadCobblers", "winningTake", "(II)I"⟩, 13), (⟨"RoadCobblers", "fillChances", "(II)V"⟩, 13), (⟨"RoadCobblers$Trial", "takeDrawn", "(I)V"⟩, 5), (⟨"RoadCobblersModel", "asNow", "()V"⟩, 20), (⟨"RoadCobblersModel", "roadsOf", "()I"⟩, 20)]
theorem lw_r1 : ∀ q ∈ lw_privs_1, lw_okq q := List.forall_mem_cons.mpr ⟨lw_p0, List.forall_mem_cons.mpr ⟨lw_p1, List.forall_mem_cons.mpr ⟨lw_p2, List.forall_mem_cons.mpr ⟨lw_p3, List.forall_mem_cons.mpr ⟨lw_p4, List.forall_mem_cons.mpr ⟨lw_p5, List.forall_mem_cons.mpr ⟨lw_p6, List.forall_mem_cons.mpr ⟨lw_p7, List.forall_mem_cons.mpr ⟨lw_p8, List.forall_mem_cons.mpr ⟨lw_p9, List.forall_mem_cons.mpr ⟨lw_p10, List.forall_mem_cons.mpr ⟨lw_p11, List.forall_mem_cons.mpr ⟨lw_p12, List.forall_mem_cons.mpr ⟨lw_p13, List.forall_mem_cons.mpr ⟨lw_p14, List.forall_mem_cons.mpr ⟨lw_p15, fun _ h => absurd h List.not_mem_nil⟩⟩⟩⟩⟩⟩⟩⟩⟩⟩⟩⟩⟩⟩⟩⟩
theorem lw_p16 : lw_okq (⟨"RoadCobblersModel", "faultOf", "()I"⟩, 20) := ⟨⟨by decide +kernel, by decide +kernel⟩, List.mem_of_getElem? (i := 553) (by decide +kernel), List.mem_of_getElem? (i := 658) (by decide +kernel), List.mem_of_getElem? (i := 659) (by decide +kernel)⟩
theorem lw_p17 : lw_okq (⟨"RoadCobblersModel", "goDays", "()I"⟩, 20) := ⟨⟨by decide +kernel, by decide +kernel⟩, List.mem_of_getElem? (i := 553) (by decide +kernel), List.mem_of_getElem? (i := 666) (by decide +kernel), List.mem_of_getElem? (i := 667) (by decide +kernel)⟩
theorem lw_p18 : lw_okq (⟨"RoadCobblersModel", "endDay", "()I"⟩, 20) := ⟨⟨by decide +kernel, by decide +kernel⟩, List.mem_of_getElem? (i := 553) (by decide +kernel), List.mem_of_getElem? (i := 670) (by decide +kernel), List.mem_of_getElem? (i := 671) (by decide +kernel)⟩
theorem lw_p19 : lw_okq (⟨"RoadCobblersModel", "bring", "(II)I"⟩, 20) := ⟨⟨by decide +kernel, by decide +kernel⟩, List.mem_of_getElem? (i := 553) (by decide +kernel), List.mem_of_getElem? (i := 674) (by decide +kernel), List.mem_of_getElem? (i := 675) (by decide +kernel)⟩
theorem lw_p20 : lw_okq (⟨"RoadCobblersModel", "barOf", "(II)I"⟩, 20) := ⟨⟨by decide +kernel, by decide +kernel⟩, List.mem_of_getElem? (i := 553) (by decide +kernel), List.mem_of_getElem? (i := 678) (by decide +kernel), List.mem_of_getElem? (i := 679) (by decide +kernel)⟩
theorem lw_p21 : lw_okq (⟨"RoadCobblersModel", "lay", "(III)V"⟩, 20) := ⟨⟨by decide +kernel, by decide +kernel⟩, List.mem_of_getElem? (i := 553) (by decide +kernel), List.mem_of_getElem? (i := 682) (by decide +kernel), List.mem_of_getElem? (i := 683) (by decide +kernel)⟩
theorem lw_p22 : lw_okq (⟨"RoadCobblersModel", "patch", "(IIII)I"⟩, 20) := ⟨⟨by decide +kernel, by decide +kernel⟩, List.mem_of_getElem? (i := 553) (by decide +kernel), List.mem_of_getElem? (i := 686) (by decide +kernel), List.mem_of_getElem? (i := 687) (by decide +kernel)⟩
theorem lw_p23 : lw_okq (⟨"RoadCobblersModel", "walk", "(II)I"⟩, 20) := ⟨⟨by decide +kernel, by decide +kernel⟩, List.mem_of_getElem? (i := 553) (by decide +kernel), List.mem_of_getElem? (i := 690) (by decide +kernel), List.mem_of_getElem? (i := 691) (by decide +kernel)⟩
theorem lw_p24 : lw_okq (⟨"RoadCobblersModel", "isThere", "(I)Z"⟩, 20) := ⟨⟨by decide +kernel, by decide +kernel⟩, List.mem_of_getElem? (i := 553) (by decide +kernel), List.mem_of_getElem? (i := 694) (by decide +kernel), List.mem_of_getElem? (i := 695) (by decide +kernel)⟩
theorem lw_p25 : lw_okq (⟨"RoadCobblersModel", "shoe", "(I)I"⟩, 20) := ⟨⟨by decide +kernel, by decide +kernel⟩, List.mem_of_getElem? (i := 553) (by decide +kernel), List.mem_of_getElem? (i := 701) (by decide +kernel), List.mem_of_getElem? (i := 702) (by decide +kernel)⟩
theorem lw_p26 : lw_okq (⟨"RoadCobblersModel", "barOfDays", "()I"⟩, 20) := ⟨⟨by decide +kernel, by decide +kernel⟩, List.mem_of_getElem? (i := 553) (by decide +kernel), List.mem_of_getElem? (i := 709) (by decide +kernel), List.mem_of_getElem? (i := 710) (by decide +kernel)⟩
theorem lw_p27 : lw_okq (⟨"RoadCobblersModel", "wearOf", "()I"⟩, 20) := ⟨⟨by decide +kernel, by decide +kernel⟩, List.mem_of_getElem? (i := 553) (by decide +kernel), List.mem_of_getElem? (i := 725) (by decide +kernel), List.mem_of_getElem? (i := 726) (by decide +kernel)⟩
theorem lw_p28 : lw_okq (⟨"RoadCobblersModel", "shutIn", "()I"⟩, 20) := ⟨⟨by decide +kernel, by decide +kernel⟩, List.mem_of_getElem? (i := 553) (by decide +kernel), List.mem_of_getElem? (i := 729) (by decide +kernel), List.mem_of_getElem? (i := 730) (by decide +kernel)⟩
theorem lw_p29 : lw_okq (⟨"RoadCobblersModel", "openFrom", "(I)I"⟩, 20) := ⟨⟨by decide +kernel, by decide +kernel⟩, List.mem_of_getElem? (i := 553) (by decide +kernel), List.mem_of_getElem? (i := 733) (by decide +kernel), List.mem_of_getElem? (i := 734) (by decide +kernel)⟩
theorem lw_p30 : lw_okq (⟨"RoadCobblersModel", "isOpen", "(II)Z"⟩, 20) := ⟨⟨by decide +kernel, by decide +kernel⟩, List.mem_of_getElem? (i := 553) (by decide +kernel), List.mem_of_getElem? (i := 737) (by decide +kernel), List.mem_of_getElem? (i := 738) (by decide +kernel)⟩
theorem lw_p31 : lw_okq (⟨"RoadCobblersModel", "partOf", "(I)I"⟩, 20) := ⟨⟨by decide +kernel, by decide +kernel⟩, List.mem_of_getElem? (i := 553) (by decide +kernel), List.mem_of_getElem? (i := 750) (by decide +kernel), List.mem_of_getElem? (i := 751) (by decide +kernel)⟩
def lw_privs_2 : List (MethodName × Nat) := [(⟨"RoadCobblersModel", "faultOf", "()I"⟩, 20), (⟨"RoadCobblersModel", "goDays", "()I"⟩, 20), (⟨"RoadCobblersModel", "endDay", "()I"⟩, 20), (⟨"RoadCobblersModel", "bring", "(II)I"⟩, 20), (⟨"RoadCobblersModel", "barOf", "(II)I"⟩, 20), (⟨"RoadCobblersModel", "lay", "(III)V"⟩, 20), (⟨"RoadCobblersModel", "patch", "(IIII)I"⟩, 20), (⟨"RoadCobblersModel", "walk", "(II)I"⟩, 20), (⟨"RoadCobblersModel", "isThere", "(I)Z"⟩, 20), (⟨"RoadCobblersModel", "shoe", "(I)I"⟩, 20), (⟨"RoadCobblersModel", "barOfDays", "()I"⟩, 20), (⟨"RoadCobblersModel", "wearOf", "()I"⟩, 20), (⟨"RoadCobblersModel", "shutIn", "()I"⟩, 20), (⟨"RoadCobblersModel", "openFrom", "(I)I"⟩, 20), (⟨"RoadCobblersModel", "isOpen", "(II)Z"⟩, 20), (⟨"RoadCobblersModel", "partOf", "(I)I"⟩, 20)]
theorem lw_r2 : ∀ q ∈ lw_privs_2, lw_okq q := List.forall_mem_cons.mpr ⟨lw_p16, List.forall_mem_cons.mpr ⟨lw_p17, List.forall_mem_cons.mpr ⟨lw_p18, List.forall_mem_cons.mpr ⟨lw_p19, List.forall_mem_cons.mpr ⟨lw_p20, List.forall_mem_cons.mpr ⟨lw_p21, List.forall_mem_cons.mpr ⟨lw_p22, List.forall_mem_cons.mpr ⟨lw_p23, List.forall_mem_cons.mpr ⟨lw_p24, List.forall_mem_cons.mpr ⟨lw_p25, List.forall_mem_cons.mpr ⟨lw_p26, List.forall_mem_cons.mpr ⟨lw_p27, List.forall_mem_cons.mpr ⟨lw_p28, List.forall_mem_cons.mpr ⟨lw_p29, List.forall_mem_cons.mpr ⟨lw_p30, List.forall_mem_cons.mpr ⟨lw_p31, fun _ h => absurd h List.not_mem_nil⟩⟩⟩⟩⟩⟩⟩⟩⟩⟩⟩⟩⟩⟩⟩⟩
theorem lw_p32 : lw_okq (⟨"RoadCobblersModel", "isFit", "(I)Z"⟩, 20) := ⟨⟨by decide +kernel, by decide +kernel⟩, List.mem_of_getElem? (i := 553) (by decide +kernel), List.mem_of_getElem? (i := 783) (by decide +kernel), List.mem_of_getElem? (i := 784) (by decide +kernel)⟩
def lw_privs_3 : List (MethodName × Nat) := [(⟨"RoadCobblersModel", "isFit", "(I)Z"⟩, 20)]
theorem lw_r3 : ∀ q ∈ lw_privs_3, lw_okq q := List.forall_mem_cons.mpr ⟨lw_p32, fun _ h => absurd h List.not_mem_nil⟩
def lw_privs : List (MethodName × Nat) := lw_privs_1 ++ (lw_privs_2 ++ (lw_privs_3))
def lw_tbl : List Cond := k2_sels lw_privs ++ tables_1
theorem lw_privs_ok : ∀ q ∈ lw_privs, lw_okq q := by
  show ∀ q ∈ lw_privs_1 ++ (lw_privs_2 ++ (lw_privs_3)), lw_okq q
  exact List.forall_mem_append.mpr ⟨lw_r1, List.forall_mem_append.mpr ⟨lw_r2, lw_r3⟩⟩
def RX0 : String := "RoadCobblers$Image"
def TX0 : u_T := fun k => match k with
  | 0 => ("RoadCobblers$Image", "shire", "LRoadCobblers$Shire;", true)
  | 1 => ("RoadCobblers$Image", "sights", "LRoadCobblers$Sights;", true)
  | _ => ("RoadCobblers$Image", "kept", "Z", false)
def tyX0 : Nat → FieldType := fun k => match k with
  | 0 => .object "RoadCobblers$Shire"
  | 1 => .object "RoadCobblers$Sights"
  | _ => .boolean
theorem nmX0 : ∀ a, a < 3 → ∀ b, b < 3 → a ≠ b → (TX0 a).2.1 ≠ (TX0 b).2.1 := by decide +kernel
theorem tyX0_ok : ∀ k, k < 3 → parseFieldDescriptor (TX0 k).2.2.1 = some (tyX0 k) := by decide +kernel
abbrev cX0_init : ByteArray := prog_2_method_1_code
def yX0_init : MethodName := ⟨RX0, "<init>", "()V"⟩
def RX1 : String := "RoadCobblers$Pad"
def TX1 : u_T := fun k => match k with
  | 0 => ("RoadCobblers$Pad", "signs", "[I", true)
  | _ => ("RoadCobblers$Pad", "count", "I", false)
def tyX1 : Nat → FieldType := fun k => match k with
  | 0 => .array .int
  | _ => .int
theorem nmX1 : ∀ a, a < 2 → ∀ b, b < 2 → a ≠ b → (TX1 a).2.1 ≠ (TX1 b).2.1 := by decide +kernel
theorem tyX1_ok : ∀ k, k < 2 → parseFieldDescriptor (TX1 k).2.2.1 = some (tyX1 k) := by decide +kernel
abbrev cX1_init : ByteArray := prog_3_method_1_code
def yX1_init : MethodName := ⟨RX1, "<init>", "()V"⟩
abbrev cX1_add : ByteArray := prog_3_method_2_code
def yX1_add : MethodName := ⟨RX1, "add", "(I)V"⟩
abbrev cX1_empty : ByteArray := prog_3_method_3_code
def yX1_empty : MethodName := ⟨RX1, "empty", "()V"⟩
abbrev cX1_signAt : ByteArray := prog_3_method_4_code
def yX1_signAt : MethodName := ⟨RX1, "signAt", "(I)I"⟩
abbrev cX1_placeAt : ByteArray := prog_3_method_5_code
def yX1_placeAt : MethodName := ⟨RX1, "placeAt", "(I)I"⟩
abbrev cX1_actLength : ByteArray := prog_3_method_6_code
def yX1_actLength : MethodName := ⟨RX1, "actLength", "(I)I"⟩
abbrev cX1_faultPlace : ByteArray := prog_3_method_7_code
def yX1_faultPlace : MethodName := ⟨RX1, "faultPlace", "()I"⟩
abbrev cX1_canGoOn : ByteArray := prog_3_method_8_code
def yX1_canGoOn : MethodName := ⟨RX1, "canGoOn", "(II)Z"⟩
def RX2 : String := "RoadCobblers$Shire"
def TX2 : u_T := fun k => match k with
  | 0 => ("RoadCobblers$Shire", "roads", "[I", true)
  | 1 => ("RoadCobblers$Shire", "places", "[I", true)
  | 2 => ("RoadCobblers$Shire", "irons", "[I", true)
  | 3 => ("RoadCobblers$Shire", "day", "I", false)
  | _ => ("RoadCobblers$Shire", "firstWorn", "I", false)
def tyX2 : Nat → FieldType := fun k => match k with
  | 0 => .array .int
  | 1 => .array .int
  | 2 => .array .int
  | 3 => .int
  | _ => .int
theorem nmX2 : ∀ a, a < 5 → ∀ b, b < 5 → a ≠ b → (TX2 a).2.1 ≠ (TX2 b).2.1 := by decide +kernel
theorem tyX2_ok : ∀ k, k < 5 → parseFieldDescriptor (TX2 k).2.2.1 = some (tyX2 k) := by decide +kernel
abbrev cX2_init : ByteArray := prog_4_method_1_code
def yX2_init : MethodName := ⟨RX2, "<init>", "()V"⟩
abbrev cX2_copyFrom : ByteArray := prog_4_method_2_code
def yX2_copyFrom : MethodName := ⟨RX2, "copyFrom", "(LRoadCobblers$Shire;)V"⟩
abbrev cX2_roadBetween : ByteArray := prog_4_method_3_code
def yX2_roadBetween : MethodName := ⟨RX2, "roadBetween", "(II)I"⟩
abbrev cX2_putRoad : ByteArray := prog_4_method_4_code
def yX2_putRoad : MethodName := ⟨RX2, "putRoad", "(III)V"⟩
abbrev cX2_isOpen : ByteArray := prog_4_method_5_code
def yX2_isOpen : MethodName := ⟨RX2, "isOpen", "(II)Z"⟩
abbrev cX2_openFrom : ByteArray := prog_4_method_6_code
def yX2_openFrom : MethodName := ⟨RX2, "openFrom", "(I)I"⟩
abbrev cX2_countRoads : ByteArray := prog_4_method_7_code
def yX2_countRoads : MethodName := ⟨RX2, "countRoads", "()I"⟩
abbrev cX2_countOpen : ByteArray := prog_4_method_8_code
def yX2_countOpen : MethodName := ⟨RX2, "countOpen", "()I"⟩
abbrev cX2_addWear : ByteArray := prog_4_method_9_code
def yX2_addWear : MethodName := ⟨RX2, "addWear", "()I"⟩
abbrev cX2_reached : ByteArray := prog_4_method_10_code
def yX2_reached : MethodName := ⟨RX2, "reached", "(II)I"⟩
abbrev cX2_isThere : ByteArray := prog_4_method_11_code
def yX2_isThere : MethodName := ⟨RX2, "isThere", "(I)Z"⟩
abbrev cX2_placeOf : ByteArray := prog_4_method_12_code
def yX2_placeOf : MethodName := ⟨RX2, "placeOf", "(I)I"⟩
abbrev cX2_ironOf : ByteArray := prog_4_method_13_code
def yX2_ironOf : MethodName := ⟨RX2, "ironOf", "(I)I"⟩
abbrev cX2_putWalker : ByteArray := prog_4_method_14_code
def yX2_putWalker : MethodName := ⟨RX2, "putWalker", "(IIZ)V"⟩
abbrev cX2_walkersThere : ByteArray := prog_4_method_15_code
def yX2_walkersThere : MethodName := ⟨RX2, "walkersThere", "()I"⟩
abbrev cX2_shutIn : ByteArray := prog_4_method_16_code
def yX2_shutIn : MethodName := ⟨RX2, "shutIn", "()I"⟩
abbrev cX2_walk : ByteArray := prog_4_method_17_code
def yX2_walk : MethodName := ⟨RX2, "walk", "(II)I"⟩
abbrev cX2_changeIron : ByteArray := prog_4_method_18_code
def yX2_changeIron : MethodName := ⟨RX2, "changeIron", "(I)I"⟩
abbrev cX2_bringIn : ByteArray := prog_4_method_19_code
def yX2_bringIn : MethodName := ⟨RX2, "bringIn", "(II)I"⟩
abbrev cX2_patch : ByteArray := prog_4_method_20_code
def yX2_patch : MethodName := ⟨RX2, "patch", "(IIII)I"⟩
abbrev cX2_passDay : ByteArray := prog_4_method_21_code
def yX2_passDay : MethodName := ⟨RX2, "passDay", "()I"⟩
def RX3 : String := "RoadCobblers$Sights"
def TX3 : u_T := fun k => match k with
  | 0 => ("RoadCobblers$Sights", "kinds", "[I", true)
  | 1 => ("RoadCobblers$Sights", "days", "[I", true)
  | 2 => ("RoadCobblers$Sights", "values", "[I", true)
  | _ => ("RoadCobblers$Sights", "count", "I", false)
def tyX3 : Nat → FieldType := fun k => match k with
  | 0 => .array .int
  | 1 => .array .int
  | 2 => .array .int
  | _ => .int
theorem nmX3 : ∀ a, a < 4 → ∀ b, b < 4 → a ≠ b → (TX3 a).2.1 ≠ (TX3 b).2.1 := by decide +kernel
theorem tyX3_ok : ∀ k, k < 4 → parseFieldDescriptor (TX3 k).2.2.1 = some (tyX3 k) := by decide +kernel
abbrev cX3_init : ByteArray := prog_5_method_1_code
def yX3_init : MethodName := ⟨RX3, "<init>", "()V"⟩
abbrev cX3_copyFrom : ByteArray := prog_5_method_2_code
def yX3_copyFrom : MethodName := ⟨RX3, "copyFrom", "(LRoadCobblers$Sights;)V"⟩
abbrev cX3_add : ByteArray := prog_5_method_3_code
def yX3_add : MethodName := ⟨RX3, "add", "(III)V"⟩
abbrev cX3_allowGuess : ByteArray := prog_5_method_4_code
def yX3_allowGuess : MethodName := ⟨RX3, "allowGuess", "(I)Z"⟩
def RX4 : String := "RoadCobblers$Trial"
def TX4 : u_T := fun k => match k with
  | 0 => ("RoadCobblers$Trial", "shire", "LRoadCobblers$Shire;", true)
  | 1 => ("RoadCobblers$Trial", "acts", "I", false)
  | 2 => ("RoadCobblers$Trial", "failedAct", "I", false)
  | 3 => ("RoadCobblers$Trial", "reason", "I", false)
  | _ => ("RoadCobblers$Trial", "wornAct", "I", false)
def tyX4 : Nat → FieldType := fun k => match k with
  | 0 => .object "RoadCobblers$Shire"
  | 1 => .int
  | 2 => .int
  | 3 => .int
  | _ => .int
theorem nmX4 : ∀ a, a < 5 → ∀ b, b < 5 → a ≠ b → (TX4 a).2.1 ≠ (TX4 b).2.1 := by decide +kernel
theorem tyX4_ok : ∀ k, k < 5 → parseFieldDescriptor (TX4 k).2.2.1 = some (tyX4 k) := by decide +kernel
abbrev cX4_init : ByteArray := prog_6_method_1_code
def yX4_init : MethodName := ⟨RX4, "<init>", "()V"⟩
abbrev cX4_follow : ByteArray := prog_6_method_2_code
def yX4_follow : MethodName := ⟨RX4, "follow", "(LRoadCobblers$Pad;LRoadCobblers$Shire;)V"⟩
abbrev cX4_begin : ByteArray := prog_6_method_3_code
def yX4_begin : MethodName := ⟨RX4, "begin", "(LRoadCobblers$Shire;)V"⟩
abbrev cX4_take : ByteArray := prog_6_method_4_code
def yX4_take : MethodName := ⟨RX4, "take", "(LRoadCobblers$Pad;I)I"⟩
abbrev cX4_followDraws : ByteArray := prog_6_method_5_code
def yX4_followDraws : MethodName := ⟨RX4, "followDraws", "(IILRoadCobblers$Shire;)V"⟩
abbrev cX4_takeDrawn : ByteArray := prog_6_method_6_code
def yX4_takeDrawn : MethodName := ⟨RX4, "takeDrawn", "(I)V"⟩
def RX5 : String := "RoadCobblers"
def TX5 : u_T := fun k => match k with
  | 0 => ("RoadCobblers", "shire", "LRoadCobblers$Shire;", true)
  | 1 => ("RoadCobblers", "sights", "LRoadCobblers$Sights;", true)
  | 2 => ("RoadCobblers", "pad", "LRoadCobblers$Pad;", true)
  | 3 => ("RoadCobblers", "trial", "LRoadCobblers$Trial;", true)
  | 4 => ("RoadCobblers", "firstImage", "LRoadCobblers$Image;", true)
  | 5 => ("RoadCobblers", "secondImage", "LRoadCobblers$Image;", true)
  | 6 => ("RoadCobblers", "lengths", "[I", true)
  | 7 => ("RoadCobblers", "loads", "[I", true)
  | 8 => ("RoadCobblers", "fewest", "[I", true)
  | 9 => ("RoadCobblers", "fitting", "[I", true)
  | 10 => ("RoadCobblers", "tally", "[I", true)
  | 11 => ("RoadCobblers", "firstTakes", "[I", true)
  | _ => ("RoadCobblers", "chances", "[J", true)
def tyX5 : Nat → FieldType := fun k => match k with
  | 0 => .object "RoadCobblers$Shire"
  | 1 => .object "RoadCobblers$Sights"
  | 2 => .object "RoadCobblers$Pad"
  | 3 => .object "RoadCobblers$Trial"
  | 4 => .object "RoadCobblers$Image"
  | 5 => .object "RoadCobblers$Image"
  | 6 => .array .int
  | 7 => .array .int
  | 8 => .array .int
  | 9 => .array .int
  | 10 => .array .int
  | 11 => .array .int
  | _ => .array .long
theorem nmX5 : ∀ a, a < 13 → ∀ b, b < 13 → a ≠ b → (TX5 a).2.1 ≠ (TX5 b).2.1 := by decide +kernel
theorem tyX5_ok : ∀ k, k < 13 → parseFieldDescriptor (TX5 k).2.2.1 = some (tyX5 k) := by decide +kernel
abbrev cX5_init : ByteArray := prog_1_method_1_code
def yX5_init : MethodName := ⟨RX5, "<init>", "()V"⟩
abbrev cX5_road : ByteArray := prog_1_method_2_code
def yX5_road : MethodName := ⟨RX5, "road", "(III)I"⟩
abbrev cX5_walker : ByteArray := prog_1_method_3_code
def yX5_walker : MethodName := ⟨RX5, "walker", "(IIZ)I"⟩
abbrev cX5_say : ByteArray := prog_1_method_4_code
def yX5_say : MethodName := ⟨RX5, "say", "(I)I"⟩
abbrev cX5_wipe : ByteArray := prog_1_method_5_code
def yX5_wipe : MethodName := ⟨RX5, "wipe", "()I"⟩
abbrev cX5_fault : ByteArray := prog_1_method_6_code
def yX5_fault : MethodName := ⟨RX5, "fault", "()I"⟩
abbrev cX5_judge : ByteArray := prog_1_method_7_code
def yX5_judge : MethodName := ⟨RX5, "judge", "(I)I"⟩
abbrev cX5_done : ByteArray := prog_1_method_8_code
def yX5_done : MethodName := ⟨RX5, "done", "()I"⟩
abbrev cX5_behind : ByteArray := prog_1_method_9_code
def yX5_behind : MethodName := ⟨RX5, "behind", "(II)I"⟩
abbrev cX5_goes : ByteArray := prog_1_method_10_code
def yX5_goes : MethodName := ⟨RX5, "goes", "(II)I"⟩
abbrev cX5_then : ByteArray := prog_1_method_11_code
def yX5_then : MethodName := ⟨RX5, "then", "(I)I"⟩
abbrev cX5_way : ByteArray := prog_1_method_12_code
def yX5_way : MethodName := ⟨RX5, "way", "(III)I"⟩
abbrev cX5_parts : ByteArray := prog_1_method_13_code
def yX5_parts : MethodName := ⟨RX5, "parts", "(I)I"⟩
abbrev cX5_strokes : ByteArray := prog_1_method_14_code
def yX5_strokes : MethodName := ⟨RX5, "strokes", "()I"⟩
abbrev cX5_mended : ByteArray := prog_1_method_15_code
def yX5_mended : MethodName := ⟨RX5, "mended", "(III)I"⟩
abbrev cX5_pays : ByteArray := prog_1_method_16_code
def yX5_pays : MethodName := ⟨RX5, "pays", "(IIII)J"⟩
abbrev cX5_seen : ByteArray := prog_1_method_17_code
def yX5_seen : MethodName := ⟨RX5, "seen", "(ZII)I"⟩
abbrev cX5_forget : ByteArray := prog_1_method_18_code
def yX5_forget : MethodName := ⟨RX5, "forget", "()I"⟩
abbrev cX5_who : ByteArray := prog_1_method_19_code
def yX5_who : MethodName := ⟨RX5, "who", "(I)I"⟩
abbrev cX5_ask : ByteArray := prog_1_method_20_code
def yX5_ask : MethodName := ⟨RX5, "ask", "(I)I"⟩
abbrev cX5_tacks : ByteArray := prog_1_method_21_code
def yX5_tacks : MethodName := ⟨RX5, "tacks", "(III)I"⟩
abbrev cX5_wet : ByteArray := prog_1_method_22_code
def yX5_wet : MethodName := ⟨RX5, "wet", "(IIIII)J"⟩
abbrev cX5_year : ByteArray := prog_1_method_23_code
def yX5_year : MethodName := ⟨RX5, "year", "(III)I"⟩
abbrev cX5_image : ByteArray := prog_1_method_24_code
def yX5_image : MethodName := ⟨RX5, "image", "(I)I"⟩
abbrev cX5_restore : ByteArray := prog_1_method_25_code
def yX5_restore : MethodName := ⟨RX5, "restore", "(I)I"⟩
abbrev cX5_told : ByteArray := prog_1_method_26_code
def yX5_told : MethodName := ⟨RX5, "told", "(I)I"⟩
abbrev cX5_canBeDone : ByteArray := prog_1_method_27_code
def yX5_canBeDone : MethodName := ⟨RX5, "canBeDone", "()Z"⟩
abbrev cX5_leastWay : ByteArray := prog_1_method_28_code
def yX5_leastWay : MethodName := ⟨RX5, "leastWay", "(IIZ)I"⟩
abbrev cX5_lengthenFrom : ByteArray := prog_1_method_29_code
def yX5_lengthenFrom : MethodName := ⟨RX5, "lengthenFrom", "(IZ)V"⟩
abbrev cX5_walksWithin : ByteArray := prog_1_method_30_code
def yX5_walksWithin : MethodName := ⟨RX5, "walksWithin", "(I)I"⟩
abbrev cX5_fillLoads : ByteArray := prog_1_method_31_code
def yX5_fillLoads : MethodName := ⟨RX5, "fillLoads", "(II)V"⟩
abbrev cX5_giveToOneMoreHand : ByteArray := prog_1_method_32_code
def yX5_giveToOneMoreHand : MethodName := ⟨RX5, "giveToOneMoreHand", "(I)V"⟩
abbrev cX5_gatherFitting : ByteArray := prog_1_method_33_code
def yX5_gatherFitting : MethodName := ⟨RX5, "gatherFitting", "()I"⟩
abbrev cX5_mostLeft : ByteArray := prog_1_method_34_code
def yX5_mostLeft : MethodName := ⟨RX5, "mostLeft", "(III)I"⟩
abbrev cX5_winningTake : ByteArray := prog_1_method_35_code
def yX5_winningTake : MethodName := ⟨RX5, "winningTake", "(II)I"⟩
abbrev cX5_fillChances : ByteArray := prog_1_method_36_code
def yX5_fillChances : MethodName := ⟨RX5, "fillChances", "(II)V"⟩
abbrev cX5_within : ByteArray := prog_1_method_37_code
def yX5_within : MethodName := ⟨RX5, "within", "(III)Z"⟩
abbrev cX5_isPlace : ByteArray := prog_1_method_38_code
def yX5_isPlace : MethodName := ⟨RX5, "isPlace", "(I)Z"⟩
abbrev cX5_isWalker : ByteArray := prog_1_method_39_code
def yX5_isWalker : MethodName := ⟨RX5, "isWalker", "(I)Z"⟩
abbrev cX5_areTwoPlaces : ByteArray := prog_1_method_40_code
def yX5_areTwoPlaces : MethodName := ⟨RX5, "areTwoPlaces", "(II)Z"⟩
abbrev cX5_nameOfRoad : ByteArray := prog_1_method_41_code
def yX5_nameOfRoad : MethodName := ⟨RX5, "nameOfRoad", "(II)I"⟩
abbrev cX5_holds : ByteArray := prog_1_method_42_code
def yX5_holds : MethodName := ⟨RX5, "holds", "(II)Z"⟩
abbrev cX5_at : ByteArray := prog_1_method_43_code
def yX5_at : MethodName := ⟨RX5, "at", "([II)I"⟩
abbrev cX5_put : ByteArray := prog_1_method_44_code
def yX5_put : MethodName := ⟨RX5, "put", "([III)V"⟩
abbrev cX5_copy : ByteArray := prog_1_method_45_code
def yX5_copy : MethodName := ⟨RX5, "copy", "([I[I)V"⟩
abbrev cX5_powerOfTen : ByteArray := prog_1_method_46_code
def yX5_powerOfTen : MethodName := ⟨RX5, "powerOfTen", "(I)J"⟩
abbrev cX5_digit : ByteArray := prog_1_method_47_code
def yX5_digit : MethodName := ⟨RX5, "digit", "(II)I"⟩
abbrev cX5_hasDigits : ByteArray := prog_1_method_48_code
def yX5_hasDigits : MethodName := ⟨RX5, "hasDigits", "(II)Z"⟩
abbrev cX5_countUsers : ByteArray := prog_1_method_49_code
def yX5_countUsers : MethodName := ⟨RX5, "countUsers", "(III)I"⟩
abbrev cX5_lowestTerms : ByteArray := prog_1_method_50_code
def yX5_lowestTerms : MethodName := ⟨RX5, "lowestTerms", "(JJI)J"⟩
abbrev cX5_commonDivisor : ByteArray := prog_1_method_51_code
def yX5_commonDivisor : MethodName := ⟨RX5, "commonDivisor", "(JJ)J"⟩
abbrev cX5_reading : ByteArray := prog_1_method_52_code
def yX5_reading : MethodName := ⟨RX5, "reading", "(III)I"⟩
def RX6 : String := "RoadCobblersModel"
def TX6 : u_T := fun k => match k with
  | 0 => ("RoadCobblersModel", "book", "[I", true)
  | 1 => ("RoadCobblersModel", "now", "[I", true)
  | 2 => ("RoadCobblersModel", "there", "I", false)
  | 3 => ("RoadCobblersModel", "sights", "I", false)
  | 4 => ("RoadCobblersModel", "sight", "[I", true)
  | 5 => ("RoadCobblersModel", "signs", "I", false)
  | 6 => ("RoadCobblersModel", "pad", "[I", true)
  | 7 => ("RoadCobblersModel", "wornAt", "I", false)
  | 8 => ("RoadCobblersModel", "wornRoad", "I", false)
  | 9 => ("RoadCobblersModel", "reason", "I", false)
  | 10 => ("RoadCobblersModel", "acts", "I", false)
  | 11 => ("RoadCobblersModel", "cost", "[I", true)
  | 12 => ("RoadCobblersModel", "digits", "[I", true)
  | 13 => ("RoadCobblersModel", "hands", "[I", true)
  | 14 => ("RoadCobblersModel", "counts", "[I", true)
  | 15 => ("RoadCobblersModel", "fitting", "[I", true)
  | 16 => ("RoadCobblersModel", "wins", "[Z", true)
  | 17 => ("RoadCobblersModel", "ways", "[J", true)
  | 18 => ("RoadCobblersModel", "image", "[I", true)
  | _ => ("RoadCobblersModel", "isKept", "[Z", true)
def tyX6 : Nat → FieldType := fun k => match k with
  | 0 => .array .int
  | 1 => .array .int
  | 2 => .int
  | 3 => .int
  | 4 => .array .int
  | 5 => .int
  | 6 => .array .int
  | 7 => .int
  | 8 => .int
  | 9 => .int
  | 10 => .int
  | 11 => .array .int
  | 12 => .array .int
  | 13 => .array .int
  | 14 => .array .int
  | 15 => .array .int
  | 16 => .array .boolean
  | 17 => .array .long
  | 18 => .array .int
  | _ => .array .boolean
theorem nmX6 : ∀ a, a < 20 → ∀ b, b < 20 → a ≠ b → (TX6 a).2.1 ≠ (TX6 b).2.1 := by decide +kernel
theorem tyX6_ok : ∀ k, k < 20 → parseFieldDescriptor (TX6 k).2.2.1 = some (tyX6 k) := by decide +kernel
abbrev cX6_init : ByteArray := prog_8_method_1_code
def yX6_init : MethodName := ⟨RX6, "<init>", "()V"⟩
abbrev cX6_in : ByteArray := prog_8_method_2_code
def yX6_in : MethodName := ⟨RX6, "in", "(III)Z"⟩
abbrev cX6_has : ByteArray := prog_8_method_3_code
def yX6_has : MethodName := ⟨RX6, "has", "(II)Z"⟩
abbrev cX6_bits : ByteArray := prog_8_method_4_code
def yX6_bits : MethodName := ⟨RX6, "bits", "(I)I"⟩
abbrev cX6_isPlace : ByteArray := prog_8_method_5_code
def yX6_isPlace : MethodName := ⟨RX6, "isPlace", "(I)Z"⟩
abbrev cX6_isThere : ByteArray := prog_8_method_6_code
def yX6_isThere : MethodName := ⟨RX6, "isThere", "(I)Z"⟩
abbrev cX6_roadsOf : ByteArray := prog_8_method_7_code
def yX6_roadsOf : MethodName := ⟨RX6, "roadsOf", "()I"⟩
abbrev cX6_road : ByteArray := prog_8_method_8_code
def yX6_road : MethodName := ⟨RX6, "road", "(III)I"⟩
abbrev cX6_walker : ByteArray := prog_8_method_9_code
def yX6_walker : MethodName := ⟨RX6, "walker", "(IIZ)I"⟩
abbrev cX6_say : ByteArray := prog_8_method_10_code
def yX6_say : MethodName := ⟨RX6, "say", "(I)I"⟩
abbrev cX6_wipe : ByteArray := prog_8_method_11_code
def yX6_wipe : MethodName := ⟨RX6, "wipe", "()I"⟩
abbrev cX6_faultOf : ByteArray := prog_8_method_12_code
def yX6_faultOf : MethodName := ⟨RX6, "faultOf", "()I"⟩
abbrev cX6_fault : ByteArray := prog_8_method_13_code
def yX6_fault : MethodName := ⟨RX6, "fault", "()I"⟩
abbrev cX6_asNow : ByteArray := prog_8_method_14_code
def yX6_asNow : MethodName := ⟨RX6, "asNow", "()V"⟩
abbrev cX6_lay : ByteArray := prog_8_method_15_code
def yX6_lay : MethodName := ⟨RX6, "lay", "(III)V"⟩
abbrev cX6_barOf : ByteArray := prog_8_method_16_code
def yX6_barOf : MethodName := ⟨RX6, "barOf", "(II)I"⟩
abbrev cX6_walk : ByteArray := prog_8_method_17_code
def yX6_walk : MethodName := ⟨RX6, "walk", "(II)I"⟩
abbrev cX6_shoe : ByteArray := prog_8_method_18_code
def yX6_shoe : MethodName := ⟨RX6, "shoe", "(I)I"⟩
abbrev cX6_bring : ByteArray := prog_8_method_19_code
def yX6_bring : MethodName := ⟨RX6, "bring", "(II)I"⟩
abbrev cX6_patch : ByteArray := prog_8_method_20_code
def yX6_patch : MethodName := ⟨RX6, "patch", "(IIII)I"⟩
abbrev cX6_endDay : ByteArray := prog_8_method_21_code
def yX6_endDay : MethodName := ⟨RX6, "endDay", "()I"⟩
abbrev cX6_isOpen : ByteArray := prog_8_method_22_code
def yX6_isOpen : MethodName := ⟨RX6, "isOpen", "(II)Z"⟩
abbrev cX6_openFrom : ByteArray := prog_8_method_23_code
def yX6_openFrom : MethodName := ⟨RX6, "openFrom", "(I)I"⟩
abbrev cX6_shutIn : ByteArray := prog_8_method_24_code
def yX6_shutIn : MethodName := ⟨RX6, "shutIn", "()I"⟩
abbrev cX6_wearOf : ByteArray := prog_8_method_25_code
def yX6_wearOf : MethodName := ⟨RX6, "wearOf", "()I"⟩
abbrev cX6_goDays : ByteArray := prog_8_method_26_code
def yX6_goDays : MethodName := ⟨RX6, "goDays", "()I"⟩
abbrev cX6_judge : ByteArray := prog_8_method_27_code
def yX6_judge : MethodName := ⟨RX6, "judge", "(I)I"⟩
abbrev cX6_barOfDays : ByteArray := prog_8_method_28_code
def yX6_barOfDays : MethodName := ⟨RX6, "barOfDays", "()I"⟩
abbrev cX6_done : ByteArray := prog_8_method_29_code
def yX6_done : MethodName := ⟨RX6, "done", "()I"⟩
abbrev cX6_behind : ByteArray := prog_8_method_30_code
def yX6_behind : MethodName := ⟨RX6, "behind", "(II)I"⟩
abbrev cX6_goes : ByteArray := prog_8_method_31_code
def yX6_goes : MethodName := ⟨RX6, "goes", "(II)I"⟩
abbrev cX6_then : ByteArray := prog_8_method_32_code
def yX6_then : MethodName := ⟨RX6, "then", "(I)I"⟩
abbrev cX6_way : ByteArray := prog_8_method_33_code
def yX6_way : MethodName := ⟨RX6, "way", "(III)I"⟩
abbrev cX6_partOf : ByteArray := prog_8_method_34_code
def yX6_partOf : MethodName := ⟨RX6, "partOf", "(I)I"⟩
abbrev cX6_parts : ByteArray := prog_8_method_35_code
def yX6_parts : MethodName := ⟨RX6, "parts", "(I)I"⟩
abbrev cX6_strokes : ByteArray := prog_8_method_36_code
def yX6_strokes : MethodName := ⟨RX6, "strokes", "()I"⟩
abbrev cX6_mended : ByteArray := prog_8_method_37_code
def yX6_mended : MethodName := ⟨RX6, "mended", "(III)I"⟩
abbrev cX6_lowest : ByteArray := prog_8_method_38_code
def yX6_lowest : MethodName := ⟨RX6, "lowest", "(JJI)J"⟩
abbrev cX6_pays : ByteArray := prog_8_method_39_code
def yX6_pays : MethodName := ⟨RX6, "pays", "(IIII)J"⟩
abbrev cX6_seen : ByteArray := prog_8_method_40_code
def yX6_seen : MethodName := ⟨RX6, "seen", "(ZII)I"⟩
abbrev cX6_forget : ByteArray := prog_8_method_41_code
def yX6_forget : MethodName := ⟨RX6, "forget", "()I"⟩
abbrev cX6_tellOf : ByteArray := prog_8_method_42_code
def yX6_tellOf : MethodName := ⟨RX6, "tellOf", "(III)I"⟩
abbrev cX6_isFit : ByteArray := prog_8_method_43_code
def yX6_isFit : MethodName := ⟨RX6, "isFit", "(I)Z"⟩
abbrev cX6_who : ByteArray := prog_8_method_44_code
def yX6_who : MethodName := ⟨RX6, "who", "(I)I"⟩
abbrev cX6_ask : ByteArray := prog_8_method_45_code
def yX6_ask : MethodName := ⟨RX6, "ask", "(I)I"⟩
abbrev cX6_tacks : ByteArray := prog_8_method_46_code
def yX6_tacks : MethodName := ⟨RX6, "tacks", "(III)I"⟩
abbrev cX6_wet : ByteArray := prog_8_method_47_code
def yX6_wet : MethodName := ⟨RX6, "wet", "(IIIII)J"⟩
abbrev cX6_year : ByteArray := prog_8_method_48_code
def yX6_year : MethodName := ⟨RX6, "year", "(III)I"⟩
abbrev cX6_image : ByteArray := prog_8_method_49_code
def yX6_image : MethodName := ⟨RX6, "image", "(I)I"⟩
abbrev cX6_restore : ByteArray := prog_8_method_50_code
def yX6_restore : MethodName := ⟨RX6, "restore", "(I)I"⟩
abbrev cX6_told : ByteArray := prog_8_method_51_code
def yX6_told : MethodName := ⟨RX6, "told", "(I)I"⟩
def RJ6 : String := "java/lang/Integer"
def TJ6 : u_T := fun k => match k with
  | _ => ("", "", "", false)
def tyJ6 : Nat → FieldType := fun k => match k with
  | _ => .int
theorem nmJ6 : ∀ a, a < 0 → ∀ b, b < 0 → a ≠ b → (TJ6 a).2.1 ≠ (TJ6 b).2.1 := by decide +kernel
theorem tyJ6_ok : ∀ k, k < 0 → parseFieldDescriptor (TJ6 k).2.2.1 = some (tyJ6 k) := by decide +kernel
abbrev cJ6_bitCount_0f7a4 : ByteArray := prog_9_method_49_code
def yJ6_bitCount_0f7a4 : MethodName := ⟨RJ6, "bitCount", "(I)I"⟩
def RJ9 : String := "java/lang/Math"
def TJ9 : u_T := fun k => match k with
  | _ => ("", "", "", false)
def tyJ9 : Nat → FieldType := fun k => match k with
  | _ => .int
theorem nmJ9 : ∀ a, a < 0 → ∀ b, b < 0 → a ≠ b → (TJ9 a).2.1 ≠ (TJ9 b).2.1 := by decide +kernel
theorem tyJ9_ok : ∀ k, k < 0 → parseFieldDescriptor (TJ9 k).2.2.1 = some (tyJ9 k) := by decide +kernel
abbrev cJ9_max_7cf53 : ByteArray := prog_10_method_65_code
def yJ9_max_7cf53 : MethodName := ⟨RJ9, "max", "(II)I"⟩
abbrev cJ9_min_7cf53 : ByteArray := prog_10_method_69_code
def yJ9_min_7cf53 : MethodName := ⟨RJ9, "min", "(II)I"⟩
def RJ7 : String := "java/util/Arrays"
def TJ7 : u_T := fun k => match k with
  | _ => ("", "", "", false)
def tyJ7 : Nat → FieldType := fun k => match k with
  | _ => .int
theorem nmJ7 : ∀ a, a < 0 → ∀ b, b < 0 → a ≠ b → (TJ7 a).2.1 ≠ (TJ7 b).2.1 := by decide +kernel
theorem tyJ7_ok : ∀ k, k < 0 → parseFieldDescriptor (TJ7 k).2.2.1 = some (tyJ7 k) := by decide +kernel
abbrev cJ7_fill_d0a16 : ByteArray := prog_11_method_101_code
def yJ7_fill_d0a16 : MethodName := ⟨RJ7, "fill", "([JJ)V"⟩
abbrev cJ7_fill_53178 : ByteArray := prog_11_method_103_code
def yJ7_fill_53178 : MethodName := ⟨RJ7, "fill", "([II)V"⟩
def RL : String := "RoadCobblersLaw"
abbrev cL_law : ByteArray := code
def yL_law : MethodName := ⟨RL, "law", "([I)Z"⟩
abbrev vwCl : List vw_C := [(RX0, TX0, 3), (RX1, TX1, 2), (RX2, TX2, 5), (RX3, TX3, 4), (RX4, TX4, 5), (RX5, TX5, 13), (RX6, TX6, 20)]
/-- the words of the tables that stay good along a run -/
def TT : List Cond := lw_tbl.filter goodWord
theorem TTin {w : Cond} (i : Nat) (h : lw_tbl[i]? = some w) (g : goodWord w = true) : w ∈ TT := List.mem_filter.mpr ⟨List.mem_of_getElem? h, g⟩
theorem TTgood : ∀ w ∈ TT, (w.onTables && w.keeps) = true ∨ ∃ ty, w = .arrayClass ty := fun w h => good_of_word (List.mem_filter.mp h).2
theorem TTall : ∀ w ∈ TT, w ∈ lw_tbl := fun w h => (List.mem_filter.mp h).1
/-- the links between nest mates -/
def isNest : Cond → Bool
  | .fieldLinkNest _ _ _ _ _ _ => true
  | .methodLinkNest _ _ _ _ => true
  | _ => false
def NW : List Cond := lw_tbl.filter isNest
theorem NWin {w : Cond} (i : Nat) (h : lw_tbl[i]? = some w) (g : isNest w = true) : w ∈ NW := List.mem_filter.mpr ⟨List.mem_of_getElem? h, g⟩
theorem NWall : ∀ w ∈ NW, w ∈ lw_tbl := fun w h => (List.mem_filter.mp h).1
theorem inX0 : ∀ w ∈ u_ws RX0 TX0 3, w ∈ TT := by decide +kernel
theorem inX1 : ∀ w ∈ u_ws RX1 TX1 2, w ∈ TT := by decide +kernel
theorem inX2 : ∀ w ∈ u_ws RX2 TX2 5, w ∈ TT := by decide +kernel
theorem inX3 : ∀ w ∈ u_ws RX3 TX3 4, w ∈ TT := by decide +kernel
theorem inX4 : ∀ w ∈ u_ws RX4 TX4 5, w ∈ TT := by decide +kernel
theorem inX5 : ∀ w ∈ u_ws RX5 TX5 13, w ∈ TT := by decide +kernel
theorem inX6 : ∀ w ∈ u_ws RX6 TX6 20, w ∈ TT := by decide +kernel
theorem wd_0 : Cond.selects RX1 yX1_canGoOn yX1_canGoOn ∈ TT := TTin 0 (by decide +kernel) (by decide +kernel)
theorem wd_1 : Cond.selects RX4 yX4_begin yX4_begin ∈ TT := TTin 1 (by decide +kernel) (by decide +kernel)
theorem wd_2 : Cond.selects RX4 yX4_take yX4_take ∈ TT := TTin 2 (by decide +kernel) (by decide +kernel)
theorem wd_3 : Cond.selects RX5 yX5_canBeDone yX5_canBeDone ∈ TT := TTin 3 (by decide +kernel) (by decide +kernel)
theorem wd_4 : Cond.selects RX5 yX5_leastWay yX5_leastWay ∈ TT := TTin 4 (by decide +kernel) (by decide +kernel)
theorem wd_5 : Cond.selects RX5 yX5_lengthenFrom yX5_lengthenFrom ∈ TT := TTin 5 (by decide +kernel) (by decide +kernel)
theorem wd_6 : Cond.selects RX5 yX5_walksWithin yX5_walksWithin ∈ TT := TTin 6 (by decide +kernel) (by decide +kernel)
theorem wd_7 : Cond.selects RX5 yX5_fillLoads yX5_fillLoads ∈ TT := TTin 7 (by decide +kernel) (by decide +kernel)
theorem wd_8 : Cond.selects RX5 yX5_giveToOneMoreHand yX5_giveToOneMoreHand ∈ TT := TTin 8 (by decide +kernel) (by decide +kernel)
theorem wd_9 : Cond.selects RX5 yX5_gatherFitting yX5_gatherFitting ∈ TT := TTin 9 (by decide +kernel) (by decide +kernel)
theorem wd_10 : Cond.selects RX5 yX5_mostLeft yX5_mostLeft ∈ TT := TTin 10 (by decide +kernel) (by decide +kernel)
theorem wd_11 : Cond.selects RX5 yX5_winningTake yX5_winningTake ∈ TT := TTin 11 (by decide +kernel) (by decide +kernel)
theorem wd_12 : Cond.selects RX5 yX5_fillChances yX5_fillChances ∈ TT := TTin 12 (by decide +kernel) (by decide +kernel)
theorem wd_13 : Cond.selects RX4 yX4_takeDrawn yX4_takeDrawn ∈ TT := TTin 13 (by decide +kernel) (by decide +kernel)
theorem wd_14 : Cond.selects RX6 yX6_asNow yX6_asNow ∈ TT := TTin 14 (by decide +kernel) (by decide +kernel)
theorem wd_15 : Cond.selects RX6 yX6_roadsOf yX6_roadsOf ∈ TT := TTin 15 (by decide +kernel) (by decide +kernel)
theorem wd_16 : Cond.selects RX6 yX6_faultOf yX6_faultOf ∈ TT := TTin 16 (by decide +kernel) (by decide +kernel)
theorem wd_17 : Cond.selects RX6 yX6_goDays yX6_goDays ∈ TT := TTin 17 (by decide +kernel) (by decide +kernel)
theorem wd_18 : Cond.selects RX6 yX6_endDay yX6_endDay ∈ TT := TTin 18 (by decide +kernel) (by decide +kernel)
theorem wd_19 : Cond.selects RX6 yX6_bring yX6_bring ∈ TT := TTin 19 (by decide +kernel) (by decide +kernel)
theorem wd_20 : Cond.selects RX6 yX6_barOf yX6_barOf ∈ TT := TTin 20 (by decide +kernel) (by decide +kernel)
theorem wd_21 : Cond.selects RX6 yX6_lay yX6_lay ∈ TT := TTin 21 (by decide +kernel) (by decide +kernel)
theorem wd_22 : Cond.selects RX6 yX6_patch yX6_patch ∈ TT := TTin 22 (by decide +kernel) (by decide +kernel)
theorem wd_23 : Cond.selects RX6 yX6_walk yX6_walk ∈ TT := TTin 23 (by decide +kernel) (by decide +kernel)
theorem wd_24 : Cond.selects RX6 yX6_isThere yX6_isThere ∈ TT := TTin 24 (by decide +kernel) (by decide +kernel)
theorem wd_25 : Cond.selects RX6 yX6_shoe yX6_shoe ∈ TT := TTin 25 (by decide +kernel) (by decide +kernel)
theorem wd_26 : Cond.selects RX6 yX6_barOfDays yX6_barOfDays ∈ TT := TTin 26 (by decide +kernel) (by decide +kernel)
theorem wd_27 : Cond.selects RX6 yX6_wearOf yX6_wearOf ∈ TT := TTin 27 (by decide +kernel) (by decide +kernel)
theorem wd_28 : Cond.selects RX6 yX6_shutIn yX6_shutIn ∈ TT := TTin 28 (by decide +kernel) (by decide +kernel)
theorem wd_29 : Cond.selects RX6 yX6_openFrom yX6_openFrom ∈ TT := TTin 29 (by decide +kernel) (by decide +kernel)
theorem wd_30 : Cond.selects RX6 yX6_isOpen yX6_isOpen ∈ TT := TTin 30 (by decide +kernel) (by decide +kernel)
theorem wd_31 : Cond.selects RX6 yX6_partOf yX6_partOf ∈ TT := TTin 31 (by decide +kernel) (by decide +kernel)
theorem wd_32 : Cond.selects RX6 yX6_isFit yX6_isFit ∈ TT := TTin 32 (by decide +kernel) (by decide +kernel)
theorem wd_33 : Cond.initialized RL ∈ TT := TTin 33 (by decide +kernel) (by decide +kernel)
theorem wd_34 : Cond.initialized RX5 ∈ TT := TTin 34 (by decide +kernel) (by decide +kernel)
theorem wd_35 : Cond.initialized RX2 ∈ TT := TTin 35 (by decide +kernel) (by decide +kernel)
theorem wd_36 : Cond.initialized RJ7 ∈ TT := TTin 36 (by decide +kernel) (by decide +kernel)
theorem wd_37 : Cond.initialized RX3 ∈ TT := TTin 37 (by decide +kernel) (by decide +kernel)
theorem wd_38 : Cond.initialized RX1 ∈ TT := TTin 38 (by decide +kernel) (by decide +kernel)
theorem wd_39 : Cond.initialized RX4 ∈ TT := TTin 39 (by decide +kernel) (by decide +kernel)
theorem wd_40 : Cond.initialized RX0 ∈ TT := TTin 40 (by decide +kernel) (by decide +kernel)
theorem wd_41 : Cond.initialized RX6 ∈ TT := TTin 41 (by decide +kernel) (by decide +kernel)
theorem wd_42 : Cond.initialized RJ6 ∈ TT := TTin 42 (by decide +kernel) (by decide +kernel)
theorem wd_43 : Cond.initialized RJ9 ∈ TT := TTin 43 (by decide +kernel) (by decide +kernel)
theorem wd_44 : Cond.classLink RL 7 RX5 ∈ TT := TTin 44 (by decide +kernel) (by decide +kernel)
theorem wd_45 : Cond.instantiable RX5 13 ∈ TT := TTin 45 (by decide +kernel) (by decide +kernel)
theorem wd_46 : Cond.methodLink RL 9 yX5_init ∈ TT := TTin 46 (by decide +kernel) (by decide +kernel)
theorem wd_47 : Cond.instanceMethod yX5_init ∈ TT := TTin 47 (by decide +kernel) (by decide +kernel)
theorem wd_48 : Cond.code yX5_init cX5_init 1 none ∈ TT := TTin 48 (by decide +kernel) (by decide +kernel)
theorem wd_49 : Cond.methodLink RX5 3 objectInit ∈ TT := TTin 49 (by decide +kernel) (by decide +kernel)
theorem wd_50 : Cond.instanceMethod objectInit ∈ TT := TTin 50 (by decide +kernel) (by decide +kernel)
theorem wd_51 : Cond.code objectInit ⟨#[0xb1]⟩ 1 none ∈ TT := TTin 51 (by decide +kernel) (by decide +kernel)
theorem wd_52 : Cond.classLink RX5 9 RX2 ∈ TT := TTin 52 (by decide +kernel) (by decide +kernel)
theorem wd_53 : Cond.instantiable RX2 5 ∈ TT := TTin 53 (by decide +kernel) (by decide +kernel)
theorem wd_54 : Cond.methodLink RX5 11 yX2_init ∈ TT := TTin 54 (by decide +kernel) (by decide +kernel)
theorem wd_55 : Cond.instanceMethod yX2_init ∈ TT := TTin 55 (by decide +kernel) (by decide +kernel)
theorem wd_56 : Cond.code yX2_init cX2_init 1 none ∈ TT := TTin 56 (by decide +kernel) (by decide +kernel)
theorem wd_57 : Cond.methodLink RX2 3 objectInit ∈ TT := TTin 57 (by decide +kernel) (by decide +kernel)
theorem wd_58 : Cond.methodLink RX2 28 yJ7_fill_53178 ∈ TT := TTin 58 (by decide +kernel) (by decide +kernel)
theorem wd_59 : Cond.static yJ7_fill_53178 ∈ TT := TTin 59 (by decide +kernel) (by decide +kernel)
theorem wd_60 : Cond.code yJ7_fill_53178 cJ7_fill_53178 4 none ∈ TT := TTin 60 (by decide +kernel) (by decide +kernel)
theorem wd_61 : Cond.fieldLink RX2 9 "RoadCobblers$Shire" "roads" "[I" ∈ TT := TTin 61 (by decide +kernel) (by decide +kernel)
theorem wd_62 : Cond.fieldLink RX2 15 "RoadCobblers$Shire" "places" "[I" ∈ TT := TTin 62 (by decide +kernel) (by decide +kernel)
theorem wd_63 : Cond.fieldLink RX2 18 "RoadCobblers$Shire" "irons" "[I" ∈ TT := TTin 63 (by decide +kernel) (by decide +kernel)
theorem wd_64 : Cond.fieldLink RX2 21 "RoadCobblers$Shire" "day" "I" ∈ TT := TTin 64 (by decide +kernel) (by decide +kernel)
theorem nw_65 : Cond.fieldLinkNest RX5 161 "RoadCobblers$Shire" "day" "I" "RoadCobblers" ∈ NW := NWin 65 (by decide +kernel) (by decide +kernel)
theorem wd_66 : Cond.fieldLink RX2 25 "RoadCobblers$Shire" "firstWorn" "I" ∈ TT := TTin 66 (by decide +kernel) (by decide +kernel)
theorem nw_67 : Cond.fieldLinkNest RX4 44 "RoadCobblers$Shire" "firstWorn" "I" "RoadCobblers" ∈ NW := NWin 67 (by decide +kernel) (by decide +kernel)
theorem nw_68 : Cond.fieldLinkNest RX5 167 "RoadCobblers$Shire" "firstWorn" "I" "RoadCobblers" ∈ NW := NWin 68 (by decide +kernel) (by decide +kernel)
theorem wd_80 : Cond.arrayClass .int ∈ TT := TTin 80 (by decide +kernel) (by decide +kernel)
theorem wd_81 : Cond.classLink RX5 16 RX3 ∈ TT := TTin 81 (by decide +kernel) (by decide +kernel)
theorem wd_82 : Cond.instantiable RX3 4 ∈ TT := TTin 82 (by decide +kernel) (by decide +kernel)
theorem nw_83 : Cond.methodLinkNest RX5 18 yX3_init "RoadCobblers" ∈ NW := NWin 83 (by decide +kernel) (by decide +kernel)
theorem wd_84 : Cond.instanceMethod yX3_init ∈ TT := TTin 84 (by decide +kernel) (by decide +kernel)
theorem wd_85 : Cond.code yX3_init cX3_init 1 none ∈ TT := TTin 85 (by decide +kernel) (by decide +kernel)
theorem wd_86 : Cond.methodLink RX3 3 objectInit ∈ TT := TTin 86 (by decide +kernel) (by decide +kernel)
theorem wd_87 : Cond.fieldLink RX3 9 "RoadCobblers$Sights" "kinds" "[I" ∈ TT := TTin 87 (by decide +kernel) (by decide +kernel)
theorem wd_88 : Cond.fieldLink RX3 15 "RoadCobblers$Sights" "days" "[I" ∈ TT := TTin 88 (by decide +kernel) (by decide +kernel)
theorem wd_89 : Cond.fieldLink RX3 18 "RoadCobblers$Sights" "values" "[I" ∈ TT := TTin 89 (by decide +kernel) (by decide +kernel)
theorem wd_90 : Cond.fieldLink RX3 21 "RoadCobblers$Sights" "count" "I" ∈ TT := TTin 90 (by decide +kernel) (by decide +kernel)
theorem nw_91 : Cond.fieldLinkNest RX5 222 "RoadCobblers$Sights" "count" "I" "RoadCobblers" ∈ NW := NWin 91 (by decide +kernel) (by decide +kernel)
theorem wd_101 : Cond.classLink RX5 23 RX1 ∈ TT := TTin 101 (by decide +kernel) (by decide +kernel)
theorem wd_102 : Cond.instantiable RX1 2 ∈ TT := TTin 102 (by decide +kernel) (by decide +kernel)
theorem nw_103 : Cond.methodLinkNest RX5 25 yX1_init "RoadCobblers" ∈ NW := NWin 103 (by decide +kernel) (by decide +kernel)
theorem wd_104 : Cond.instanceMethod yX1_init ∈ TT := TTin 104 (by decide +kernel) (by decide +kernel)
theorem wd_105 : Cond.code yX1_init cX1_init 1 none ∈ TT := TTin 105 (by decide +kernel) (by decide +kernel)
theorem wd_106 : Cond.methodLink RX1 3 objectInit ∈ TT := TTin 106 (by decide +kernel) (by decide +kernel)
theorem wd_107 : Cond.fieldLink RX1 9 "RoadCobblers$Pad" "signs" "[I" ∈ TT := TTin 107 (by decide +kernel) (by decide +kernel)
theorem wd_108 : Cond.fieldLink RX1 15 "RoadCobblers$Pad" "count" "I" ∈ TT := TTin 108 (by decide +kernel) (by decide +kernel)
theorem nw_109 : Cond.fieldLinkNest RX4 35 "RoadCobblers$Pad" "count" "I" "RoadCobblers" ∈ NW := NWin 109 (by decide +kernel) (by decide +kernel)
theorem nw_110 : Cond.fieldLinkNest RX5 106 "RoadCobblers$Pad" "count" "I" "RoadCobblers" ∈ NW := NWin 110 (by decide +kernel) (by decide +kernel)
theorem wd_116 : Cond.classLink RX5 30 RX4 ∈ TT := TTin 116 (by decide +kernel) (by decide +kernel)
theorem wd_117 : Cond.instantiable RX4 5 ∈ TT := TTin 117 (by decide +kernel) (by decide +kernel)
theorem nw_118 : Cond.methodLinkNest RX5 32 yX4_init "RoadCobblers" ∈ NW := NWin 118 (by decide +kernel) (by decide +kernel)
theorem wd_119 : Cond.instanceMethod yX4_init ∈ TT := TTin 119 (by decide +kernel) (by decide +kernel)
theorem wd_120 : Cond.code yX4_init cX4_init 1 none ∈ TT := TTin 120 (by decide +kernel) (by decide +kernel)
theorem wd_121 : Cond.methodLink RX4 3 objectInit ∈ TT := TTin 121 (by decide +kernel) (by decide +kernel)
theorem wd_122 : Cond.classLink RX4 9 RX2 ∈ TT := TTin 122 (by decide +kernel) (by decide +kernel)
theorem wd_123 : Cond.methodLink RX4 11 yX2_init ∈ TT := TTin 123 (by decide +kernel) (by decide +kernel)
theorem wd_124 : Cond.fieldLink RX4 12 "RoadCobblers$Trial" "shire" "LRoadCobblers$Shire;" ∈ TT := TTin 124 (by decide +kernel) (by decide +kernel)
theorem nw_125 : Cond.fieldLinkNest RX5 134 "RoadCobblers$Trial" "shire" "LRoadCobblers$Shire;" "RoadCobblers" ∈ NW := NWin 125 (by decide +kernel) (by decide +kernel)
theorem wd_126 : Cond.fieldLink RX4 18 "RoadCobblers$Trial" "acts" "I" ∈ TT := TTin 126 (by decide +kernel) (by decide +kernel)
theorem nw_127 : Cond.fieldLinkNest RX5 139 "RoadCobblers$Trial" "acts" "I" "RoadCobblers" ∈ NW := NWin 127 (by decide +kernel) (by decide +kernel)
theorem wd_128 : Cond.fieldLink RX4 22 "RoadCobblers$Trial" "failedAct" "I" ∈ TT := TTin 128 (by decide +kernel) (by decide +kernel)
theorem nw_129 : Cond.fieldLinkNest RX5 124 "RoadCobblers$Trial" "failedAct" "I" "RoadCobblers" ∈ NW := NWin 129 (by decide +kernel) (by decide +kernel)
theorem wd_130 : Cond.fieldLink RX4 25 "RoadCobblers$Trial" "reason" "I" ∈ TT := TTin 130 (by decide +kernel) (by decide +kernel)
theorem nw_131 : Cond.fieldLinkNest RX5 127 "RoadCobblers$Trial" "reason" "I" "RoadCobblers" ∈ NW := NWin 131 (by decide +kernel) (by decide +kernel)
theorem wd_132 : Cond.fieldLink RX4 28 "RoadCobblers$Trial" "wornAct" "I" ∈ TT := TTin 132 (by decide +kernel) (by decide +kernel)
theorem nw_133 : Cond.fieldLinkNest RX5 164 "RoadCobblers$Trial" "wornAct" "I" "RoadCobblers" ∈ NW := NWin 133 (by decide +kernel) (by decide +kernel)
theorem wd_145 : Cond.classLink RX5 37 RX0 ∈ TT := TTin 145 (by decide +kernel) (by decide +kernel)
theorem wd_146 : Cond.instantiable RX0 3 ∈ TT := TTin 146 (by decide +kernel) (by decide +kernel)
theorem nw_147 : Cond.methodLinkNest RX5 39 yX0_init "RoadCobblers" ∈ NW := NWin 147 (by decide +kernel) (by decide +kernel)
theorem wd_148 : Cond.instanceMethod yX0_init ∈ TT := TTin 148 (by decide +kernel) (by decide +kernel)
theorem wd_149 : Cond.code yX0_init cX0_init 1 none ∈ TT := TTin 149 (by decide +kernel) (by decide +kernel)
theorem wd_150 : Cond.methodLink RX0 1 objectInit ∈ TT := TTin 150 (by decide +kernel) (by decide +kernel)
theorem wd_151 : Cond.classLink RX0 7 RX2 ∈ TT := TTin 151 (by decide +kernel) (by decide +kernel)
theorem wd_152 : Cond.methodLink RX0 9 yX2_init ∈ TT := TTin 152 (by decide +kernel) (by decide +kernel)
theorem wd_153 : Cond.classLink RX0 16 RX3 ∈ TT := TTin 153 (by decide +kernel) (by decide +kernel)
theorem nw_154 : Cond.methodLinkNest RX0 18 yX3_init "RoadCobblers" ∈ NW := NWin 154 (by decide +kernel) (by decide +kernel)
theorem wd_155 : Cond.fieldLink RX0 10 "RoadCobblers$Image" "shire" "LRoadCobblers$Shire;" ∈ TT := TTin 155 (by decide +kernel) (by decide +kernel)
theorem nw_156 : Cond.fieldLinkNest RX5 250 "RoadCobblers$Image" "shire" "LRoadCobblers$Shire;" "RoadCobblers" ∈ NW := NWin 156 (by decide +kernel) (by decide +kernel)
theorem wd_157 : Cond.fieldLink RX0 19 "RoadCobblers$Image" "sights" "LRoadCobblers$Sights;" ∈ TT := TTin 157 (by decide +kernel) (by decide +kernel)
theorem nw_158 : Cond.fieldLinkNest RX5 251 "RoadCobblers$Image" "sights" "LRoadCobblers$Sights;" "RoadCobblers" ∈ NW := NWin 158 (by decide +kernel) (by decide +kernel)
theorem wd_159 : Cond.fieldLink RX0 23 "RoadCobblers$Image" "kept" "Z" ∈ TT := TTin 159 (by decide +kernel) (by decide +kernel)
theorem nw_160 : Cond.fieldLinkNest RX5 255 "RoadCobblers$Image" "kept" "Z" "RoadCobblers" ∈ NW := NWin 160 (by decide +kernel) (by decide +kernel)
theorem wd_168 : Cond.fieldLink RX5 12 "RoadCobblers" "shire" "LRoadCobblers$Shire;" ∈ TT := TTin 168 (by decide +kernel) (by decide +kernel)
theorem wd_169 : Cond.fieldLink RX5 19 "RoadCobblers" "sights" "LRoadCobblers$Sights;" ∈ TT := TTin 169 (by decide +kernel) (by decide +kernel)
theorem wd_170 : Cond.fieldLink RX5 26 "RoadCobblers" "pad" "LRoadCobblers$Pad;" ∈ TT := TTin 170 (by decide +kernel) (by decide +kernel)
theorem wd_171 : Cond.fieldLink RX5 33 "RoadCobblers" "trial" "LRoadCobblers$Trial;" ∈ TT := TTin 171 (by decide +kernel) (by decide +kernel)
theorem wd_172 : Cond.fieldLink RX5 40 "RoadCobblers" "firstImage" "LRoadCobblers$Image;" ∈ TT := TTin 172 (by decide +kernel) (by decide +kernel)
theorem wd_173 : Cond.fieldLink RX5 44 "RoadCobblers" "secondImage" "LRoadCobblers$Image;" ∈ TT := TTin 173 (by decide +kernel) (by decide +kernel)
theorem wd_174 : Cond.fieldLink RX5 47 "RoadCobblers" "lengths" "[I" ∈ TT := TTin 174 (by decide +kernel) (by decide +kernel)
theorem wd_175 : Cond.fieldLink RX5 51 "RoadCobblers" "loads" "[I" ∈ TT := TTin 175 (by decide +kernel) (by decide +kernel)
theorem wd_176 : Cond.fieldLink RX5 54 "RoadCobblers" "fewest" "[I" ∈ TT := TTin 176 (by decide +kernel) (by decide +kernel)
theorem wd_177 : Cond.fieldLink RX5 57 "RoadCobblers" "fitting" "[I" ∈ TT := TTin 177 (by decide +kernel) (by decide +kernel)
theorem wd_178 : Cond.fieldLink RX5 60 "RoadCobblers" "tally" "[I" ∈ TT := TTin 178 (by decide +kernel) (by decide +kernel)
theorem wd_179 : Cond.fieldLink RX5 63 "RoadCobblers" "firstTakes" "[I" ∈ TT := TTin 179 (by decide +kernel) (by decide +kernel)
theorem wd_180 : Cond.fieldLink RX5 66 "RoadCobblers" "chances" "[J" ∈ TT := TTin 180 (by decide +kernel) (by decide +kernel)
theorem wd_208 : Cond.arrayClass .long ∈ TT := TTin 208 (by decide +kernel) (by decide +kernel)
theorem wd_209 : Cond.methodLink RL 13 yX5_road ∈ TT := TTin 209 (by decide +kernel) (by decide +kernel)
theorem wd_210 : Cond.instanceMethod yX5_road ∈ TT := TTin 210 (by decide +kernel) (by decide +kernel)
theorem wd_211 : Cond.selects RX5 yX5_road yX5_road ∈ TT := TTin 211 (by decide +kernel) (by decide +kernel)
theorem wd_212 : Cond.code yX5_road cX5_road 4 (some .int) ∈ TT := TTin 212 (by decide +kernel) (by decide +kernel)
theorem wd_213 : Cond.methodLink RX5 70 yX5_areTwoPlaces ∈ TT := TTin 213 (by decide +kernel) (by decide +kernel)
theorem wd_214 : Cond.static yX5_areTwoPlaces ∈ TT := TTin 214 (by decide +kernel) (by decide +kernel)
theorem wd_215 : Cond.code yX5_areTwoPlaces cX5_areTwoPlaces 2 (some .boolean) ∈ TT := TTin 215 (by decide +kernel) (by decide +kernel)
theorem wd_216 : Cond.methodLink RX5 74 yX5_within ∈ TT := TTin 216 (by decide +kernel) (by decide +kernel)
theorem wd_217 : Cond.static yX5_within ∈ TT := TTin 217 (by decide +kernel) (by decide +kernel)
theorem wd_218 : Cond.code yX5_within cX5_within 3 (some .boolean) ∈ TT := TTin 218 (by decide +kernel) (by decide +kernel)
theorem wd_219 : Cond.methodLink RX5 78 yX2_putRoad ∈ TT := TTin 219 (by decide +kernel) (by decide +kernel)
theorem wd_220 : Cond.instanceMethod yX2_putRoad ∈ TT := TTin 220 (by decide +kernel) (by decide +kernel)
theorem wd_221 : Cond.selects RX2 yX2_putRoad yX2_putRoad ∈ TT := TTin 221 (by decide +kernel) (by decide +kernel)
theorem wd_222 : Cond.code yX2_putRoad cX2_putRoad 4 none ∈ TT := TTin 222 (by decide +kernel) (by decide +kernel)
theorem nw_223 : Cond.methodLinkNest RX2 38 yX5_areTwoPlaces "RoadCobblers" ∈ NW := NWin 223 (by decide +kernel) (by decide +kernel)
theorem nw_224 : Cond.methodLinkNest RX2 46 yX5_put "RoadCobblers" ∈ NW := NWin 224 (by decide +kernel) (by decide +kernel)
theorem wd_225 : Cond.static yX5_put ∈ TT := TTin 225 (by decide +kernel) (by decide +kernel)
theorem wd_226 : Cond.code yX5_put cX5_put 3 none ∈ TT := TTin 226 (by decide +kernel) (by decide +kernel)
theorem wd_227 : Cond.methodLink RX5 82 yX2_countRoads ∈ TT := TTin 227 (by decide +kernel) (by decide +kernel)
theorem wd_228 : Cond.instanceMethod yX2_countRoads ∈ TT := TTin 228 (by decide +kernel) (by decide +kernel)
theorem wd_229 : Cond.selects RX2 yX2_countRoads yX2_countRoads ∈ TT := TTin 229 (by decide +kernel) (by decide +kernel)
theorem wd_230 : Cond.code yX2_countRoads cX2_countRoads 3 (some .int) ∈ TT := TTin 230 (by decide +kernel) (by decide +kernel)
theorem wd_231 : Cond.methodLink RL 18 yX5_walker ∈ TT := TTin 231 (by decide +kernel) (by decide +kernel)
theorem wd_232 : Cond.instanceMethod yX5_walker ∈ TT := TTin 232 (by decide +kernel) (by decide +kernel)
theorem wd_233 : Cond.selects RX5 yX5_walker yX5_walker ∈ TT := TTin 233 (by decide +kernel) (by decide +kernel)
theorem wd_234 : Cond.code yX5_walker cX5_walker 4 (some .int) ∈ TT := TTin 234 (by decide +kernel) (by decide +kernel)
theorem wd_235 : Cond.methodLink RX5 86 yX5_isWalker ∈ TT := TTin 235 (by decide +kernel) (by decide +kernel)
theorem wd_236 : Cond.static yX5_isWalker ∈ TT := TTin 236 (by decide +kernel) (by decide +kernel)
theorem wd_237 : Cond.code yX5_isWalker cX5_isWalker 1 (some .boolean) ∈ TT := TTin 237 (by decide +kernel) (by decide +kernel)
theorem wd_238 : Cond.methodLink RX5 90 yX5_isPlace ∈ TT := TTin 238 (by decide +kernel) (by decide +kernel)
theorem wd_239 : Cond.static yX5_isPlace ∈ TT := TTin 239 (by decide +kernel) (by decide +kernel)
theorem wd_240 : Cond.code yX5_isPlace cX5_isPlace 1 (some .boolean) ∈ TT := TTin 240 (by decide +kernel) (by decide +kernel)
theorem wd_241 : Cond.methodLink RX5 93 yX2_putWalker ∈ TT := TTin 241 (by decide +kernel) (by decide +kernel)
theorem wd_242 : Cond.instanceMethod yX2_putWalker ∈ TT := TTin 242 (by decide +kernel) (by decide +kernel)
theorem wd_243 : Cond.selects RX2 yX2_putWalker yX2_putWalker ∈ TT := TTin 243 (by decide +kernel) (by decide +kernel)
theorem wd_244 : Cond.code yX2_putWalker cX2_putWalker 4 none ∈ TT := TTin 244 (by decide +kernel) (by decide +kernel)
theorem wd_245 : Cond.methodLink RX5 97 yX2_walkersThere ∈ TT := TTin 245 (by decide +kernel) (by decide +kernel)
theorem wd_246 : Cond.instanceMethod yX2_walkersThere ∈ TT := TTin 246 (by decide +kernel) (by decide +kernel)
theorem wd_247 : Cond.selects RX2 yX2_walkersThere yX2_walkersThere ∈ TT := TTin 247 (by decide +kernel) (by decide +kernel)
theorem wd_248 : Cond.code yX2_walkersThere cX2_walkersThere 3 (some .int) ∈ TT := TTin 248 (by decide +kernel) (by decide +kernel)
theorem wd_249 : Cond.methodLink RX2 77 yX2_isThere ∈ TT := TTin 249 (by decide +kernel) (by decide +kernel)
theorem wd_250 : Cond.instanceMethod yX2_isThere ∈ TT := TTin 250 (by decide +kernel) (by decide +kernel)
theorem wd_251 : Cond.selects RX2 yX2_isThere yX2_isThere ∈ TT := TTin 251 (by decide +kernel) (by decide +kernel)
theorem wd_252 : Cond.code yX2_isThere cX2_isThere 2 (some .boolean) ∈ TT := TTin 252 (by decide +kernel) (by decide +kernel)
theorem nw_253 : Cond.methodLinkNest RX2 73 yX5_isWalker "RoadCobblers" ∈ NW := NWin 253 (by decide +kernel) (by decide +kernel)
theorem nw_254 : Cond.methodLinkNest RX2 42 yX5_at "RoadCobblers" ∈ NW := NWin 254 (by decide +kernel) (by decide +kernel)
theorem wd_255 : Cond.static yX5_at ∈ TT := TTin 255 (by decide +kernel) (by decide +kernel)
theorem wd_256 : Cond.code yX5_at cX5_at 2 (some .int) ∈ TT := TTin 256 (by decide +kernel) (by decide +kernel)
theorem wd_257 : Cond.methodLink RX5 100 yJ6_bitCount_0f7a4 ∈ TT := TTin 257 (by decide +kernel) (by decide +kernel)
theorem wd_258 : Cond.static yJ6_bitCount_0f7a4 ∈ TT := TTin 258 (by decide +kernel) (by decide +kernel)
theorem wd_259 : Cond.code yJ6_bitCount_0f7a4 cJ6_bitCount_0f7a4 1 (some .int) ∈ TT := TTin 259 (by decide +kernel) (by decide +kernel)
theorem wd_260 : Cond.constant RJ6 265 (1431655765) ∈ TT := TTin 260 (by decide +kernel) (by decide +kernel)
theorem wd_261 : Cond.constant RJ6 266 (858993459) ∈ TT := TTin 261 (by decide +kernel) (by decide +kernel)
theorem wd_262 : Cond.constant RJ6 267 (252645135) ∈ TT := TTin 262 (by decide +kernel) (by decide +kernel)
theorem wd_263 : Cond.methodLink RL 23 yX5_say ∈ TT := TTin 263 (by decide +kernel) (by decide +kernel)
theorem wd_264 : Cond.instanceMethod yX5_say ∈ TT := TTin 264 (by decide +kernel) (by decide +kernel)
theorem wd_265 : Cond.selects RX5 yX5_say yX5_say ∈ TT := TTin 265 (by decide +kernel) (by decide +kernel)
theorem wd_266 : Cond.code yX5_say cX5_say 2 (some .int) ∈ TT := TTin 266 (by decide +kernel) (by decide +kernel)
theorem wd_267 : Cond.methodLink RX5 110 yX1_add ∈ TT := TTin 267 (by decide +kernel) (by decide +kernel)
theorem wd_268 : Cond.instanceMethod yX1_add ∈ TT := TTin 268 (by decide +kernel) (by decide +kernel)
theorem wd_269 : Cond.selects RX1 yX1_add yX1_add ∈ TT := TTin 269 (by decide +kernel) (by decide +kernel)
theorem wd_270 : Cond.code yX1_add cX1_add 2 none ∈ TT := TTin 270 (by decide +kernel) (by decide +kernel)
theorem nw_271 : Cond.methodLinkNest RX1 19 yX5_put "RoadCobblers" ∈ NW := NWin 271 (by decide +kernel) (by decide +kernel)
theorem wd_272 : Cond.methodLink RL 28 yX5_wipe ∈ TT := TTin 272 (by decide +kernel) (by decide +kernel)
theorem wd_273 : Cond.instanceMethod yX5_wipe ∈ TT := TTin 273 (by decide +kernel) (by decide +kernel)
theorem wd_274 : Cond.selects RX5 yX5_wipe yX5_wipe ∈ TT := TTin 274 (by decide +kernel) (by decide +kernel)
theorem wd_275 : Cond.code yX5_wipe cX5_wipe 2 (some .int) ∈ TT := TTin 275 (by decide +kernel) (by decide +kernel)
theorem wd_276 : Cond.methodLink RX5 114 yX1_empty ∈ TT := TTin 276 (by decide +kernel) (by decide +kernel)
theorem wd_277 : Cond.instanceMethod yX1_empty ∈ TT := TTin 277 (by decide +kernel) (by decide +kernel)
theorem wd_278 : Cond.selects RX1 yX1_empty yX1_empty ∈ TT := TTin 278 (by decide +kernel) (by decide +kernel)
theorem wd_279 : Cond.code yX1_empty cX1_empty 1 none ∈ TT := TTin 279 (by decide +kernel) (by decide +kernel)
theorem wd_280 : Cond.methodLink RL 33 yX5_fault ∈ TT := TTin 280 (by decide +kernel) (by decide +kernel)
theorem wd_281 : Cond.instanceMethod yX5_fault ∈ TT := TTin 281 (by decide +kernel) (by decide +kernel)
theorem wd_282 : Cond.selects RX5 yX5_fault yX5_fault ∈ TT := TTin 282 (by decide +kernel) (by decide +kernel)
theorem wd_283 : Cond.code yX5_fault cX5_fault 1 (some .int) ∈ TT := TTin 283 (by decide +kernel) (by decide +kernel)
theorem wd_284 : Cond.methodLink RX5 117 yX1_faultPlace ∈ TT := TTin 284 (by decide +kernel) (by decide +kernel)
theorem wd_285 : Cond.instanceMethod yX1_faultPlace ∈ TT := TTin 285 (by decide +kernel) (by decide +kernel)
theorem wd_286 : Cond.selects RX1 yX1_faultPlace yX1_faultPlace ∈ TT := TTin 286 (by decide +kernel) (by decide +kernel)
theorem wd_287 : Cond.code yX1_faultPlace cX1_faultPlace 5 (some .int) ∈ TT := TTin 287 (by decide +kernel) (by decide +kernel)
theorem wd_288 : Cond.methodLink RX1 35 yX1_actLength ∈ TT := TTin 288 (by decide +kernel) (by decide +kernel)
theorem wd_289 : Cond.instanceMethod yX1_actLength ∈ TT := TTin 289 (by decide +kernel) (by decide +kernel)
theorem wd_290 : Cond.selects RX1 yX1_actLength yX1_actLength ∈ TT := TTin 290 (by decide +kernel) (by decide +kernel)
theorem wd_291 : Cond.code yX1_actLength cX1_actLength 3 (some .int) ∈ TT := TTin 291 (by decide +kernel) (by decide +kernel)
theorem wd_292 : Cond.methodLink RX1 27 yX1_signAt ∈ TT := TTin 292 (by decide +kernel) (by decide +kernel)
theorem wd_293 : Cond.instanceMethod yX1_signAt ∈ TT := TTin 293 (by decide +kernel) (by decide +kernel)
theorem wd_294 : Cond.selects RX1 yX1_signAt yX1_signAt ∈ TT := TTin 294 (by decide +kernel) (by decide +kernel)
theorem wd_295 : Cond.code yX1_signAt cX1_signAt 2 (some .int) ∈ TT := TTin 295 (by decide +kernel) (by decide +kernel)
theorem nw_296 : Cond.methodLinkNest RX1 23 yX5_at "RoadCobblers" ∈ NW := NWin 296 (by decide +kernel) (by decide +kernel)
theorem nw_297 : Cond.methodLinkNest RX1 31 yX5_isWalker "RoadCobblers" ∈ NW := NWin 297 (by decide +kernel) (by decide +kernel)
theorem wd_298 : Cond.methodLink RX1 38 yX1_canGoOn ∈ TT := TTin 298 (by decide +kernel) (by decide +kernel)
theorem wd_300 : Cond.instanceMethod yX1_canGoOn ∈ TT := TTin 300 (by decide +kernel) (by decide +kernel)
theorem wd_301 : Cond.code yX1_canGoOn cX1_canGoOn 4 (some .boolean) ∈ TT := TTin 301 (by decide +kernel) (by decide +kernel)
theorem wd_302 : Cond.methodLink RX1 42 yX1_placeAt ∈ TT := TTin 302 (by decide +kernel) (by decide +kernel)
theorem wd_303 : Cond.instanceMethod yX1_placeAt ∈ TT := TTin 303 (by decide +kernel) (by decide +kernel)
theorem wd_304 : Cond.selects RX1 yX1_placeAt yX1_placeAt ∈ TT := TTin 304 (by decide +kernel) (by decide +kernel)
theorem wd_305 : Cond.code yX1_placeAt cX1_placeAt 2 (some .int) ∈ TT := TTin 305 (by decide +kernel) (by decide +kernel)
theorem nw_306 : Cond.methodLinkNest RX1 45 yX5_isPlace "RoadCobblers" ∈ NW := NWin 306 (by decide +kernel) (by decide +kernel)
theorem wd_307 : Cond.methodLink RL 37 yX5_judge ∈ TT := TTin 307 (by decide +kernel) (by decide +kernel)
theorem wd_308 : Cond.instanceMethod yX5_judge ∈ TT := TTin 308 (by decide +kernel) (by decide +kernel)
theorem wd_309 : Cond.selects RX5 yX5_judge yX5_judge ∈ TT := TTin 309 (by decide +kernel) (by decide +kernel)
theorem wd_310 : Cond.code yX5_judge cX5_judge 2 (some .int) ∈ TT := TTin 310 (by decide +kernel) (by decide +kernel)
theorem wd_311 : Cond.methodLink RX5 120 yX4_follow ∈ TT := TTin 311 (by decide +kernel) (by decide +kernel)
theorem wd_312 : Cond.instanceMethod yX4_follow ∈ TT := TTin 312 (by decide +kernel) (by decide +kernel)
theorem wd_313 : Cond.selects RX4 yX4_follow yX4_follow ∈ TT := TTin 313 (by decide +kernel) (by decide +kernel)
theorem wd_314 : Cond.code yX4_follow cX4_follow 6 none ∈ TT := TTin 314 (by decide +kernel) (by decide +kernel)
theorem wd_315 : Cond.methodLink RX4 31 yX4_begin ∈ TT := TTin 315 (by decide +kernel) (by decide +kernel)
theorem wd_317 : Cond.instanceMethod yX4_begin ∈ TT := TTin 317 (by decide +kernel) (by decide +kernel)
theorem wd_318 : Cond.code yX4_begin cX4_begin 2 none ∈ TT := TTin 318 (by decide +kernel) (by decide +kernel)
theorem wd_319 : Cond.methodLink RX4 51 yX2_copyFrom ∈ TT := TTin 319 (by decide +kernel) (by decide +kernel)
theorem wd_320 : Cond.instanceMethod yX2_copyFrom ∈ TT := TTin 320 (by decide +kernel) (by decide +kernel)
theorem wd_321 : Cond.selects RX2 yX2_copyFrom yX2_copyFrom ∈ TT := TTin 321 (by decide +kernel) (by decide +kernel)
theorem wd_322 : Cond.code yX2_copyFrom cX2_copyFrom 2 none ∈ TT := TTin 322 (by decide +kernel) (by decide +kernel)
theorem nw_323 : Cond.methodLinkNest RX2 34 yX5_copy "RoadCobblers" ∈ NW := NWin 323 (by decide +kernel) (by decide +kernel)
theorem wd_324 : Cond.static yX5_copy ∈ TT := TTin 324 (by decide +kernel) (by decide +kernel)
theorem wd_325 : Cond.code yX5_copy cX5_copy 3 none ∈ TT := TTin 325 (by decide +kernel) (by decide +kernel)
theorem wd_326 : Cond.methodLink RX4 40 yX4_take ∈ TT := TTin 326 (by decide +kernel) (by decide +kernel)
theorem wd_328 : Cond.instanceMethod yX4_take ∈ TT := TTin 328 (by decide +kernel) (by decide +kernel)
theorem wd_329 : Cond.code yX4_take cX4_take 6 (some .int) ∈ TT := TTin 329 (by decide +kernel) (by decide +kernel)
theorem wd_330 : Cond.methodLink RX4 54 yX1_signAt ∈ TT := TTin 330 (by decide +kernel) (by decide +kernel)
theorem wd_331 : Cond.methodLink RX4 57 yX2_passDay ∈ TT := TTin 331 (by decide +kernel) (by decide +kernel)
theorem wd_332 : Cond.instanceMethod yX2_passDay ∈ TT := TTin 332 (by decide +kernel) (by decide +kernel)
theorem wd_333 : Cond.selects RX2 yX2_passDay yX2_passDay ∈ TT := TTin 333 (by decide +kernel) (by decide +kernel)
theorem wd_334 : Cond.code yX2_passDay cX2_passDay 2 (some .int) ∈ TT := TTin 334 (by decide +kernel) (by decide +kernel)
theorem wd_335 : Cond.methodLink RX4 61 yX1_placeAt ∈ TT := TTin 335 (by decide +kernel) (by decide +kernel)
theorem wd_336 : Cond.methodLink RX4 64 yX2_bringIn ∈ TT := TTin 336 (by decide +kernel) (by decide +kernel)
theorem wd_337 : Cond.instanceMethod yX2_bringIn ∈ TT := TTin 337 (by decide +kernel) (by decide +kernel)
theorem wd_338 : Cond.selects RX2 yX2_bringIn yX2_bringIn ∈ TT := TTin 338 (by decide +kernel) (by decide +kernel)
theorem wd_339 : Cond.code yX2_bringIn cX2_bringIn 4 (some .int) ∈ TT := TTin 339 (by decide +kernel) (by decide +kernel)
theorem wd_340 : Cond.methodLink RX2 50 yX2_roadBetween ∈ TT := TTin 340 (by decide +kernel) (by decide +kernel)
theorem wd_341 : Cond.instanceMethod yX2_roadBetween ∈ TT := TTin 341 (by decide +kernel) (by decide +kernel)
theorem wd_342 : Cond.selects RX2 yX2_roadBetween yX2_roadBetween ∈ TT := TTin 342 (by decide +kernel) (by decide +kernel)
theorem wd_343 : Cond.code yX2_roadBetween cX2_roadBetween 3 (some .int) ∈ TT := TTin 343 (by decide +kernel) (by decide +kernel)
theorem wd_344 : Cond.methodLink RX2 91 yX2_putRoad ∈ TT := TTin 344 (by decide +kernel) (by decide +kernel)
theorem wd_345 : Cond.methodLink RX4 68 yX2_patch ∈ TT := TTin 345 (by decide +kernel) (by decide +kernel)
theorem wd_346 : Cond.instanceMethod yX2_patch ∈ TT := TTin 346 (by decide +kernel) (by decide +kernel)
theorem wd_347 : Cond.selects RX2 yX2_patch yX2_patch ∈ TT := TTin 347 (by decide +kernel) (by decide +kernel)
theorem wd_348 : Cond.code yX2_patch cX2_patch 7 (some .int) ∈ TT := TTin 348 (by decide +kernel) (by decide +kernel)
theorem nw_349 : Cond.methodLinkNest RX2 95 yX5_nameOfRoad "RoadCobblers" ∈ NW := NWin 349 (by decide +kernel) (by decide +kernel)
theorem wd_350 : Cond.static yX5_nameOfRoad ∈ TT := TTin 350 (by decide +kernel) (by decide +kernel)
theorem wd_351 : Cond.code yX5_nameOfRoad cX5_nameOfRoad 2 (some .int) ∈ TT := TTin 351 (by decide +kernel) (by decide +kernel)
theorem wd_352 : Cond.methodLink RX5 277 Lib.Math.min.name ∈ TT := TTin 352 (by decide +kernel) (by decide +kernel)
theorem wd_353 : Cond.static Lib.Math.min.name ∈ TT := TTin 353 (by decide +kernel) (by decide +kernel)
theorem wd_354 : Cond.code Lib.Math.min.name Lib.Math.min.code 2 (some .int) ∈ TT := TTin 354 (by decide +kernel) (by decide +kernel)
theorem wd_355 : Cond.methodLink RX5 272 Lib.Math.max.name ∈ TT := TTin 355 (by decide +kernel) (by decide +kernel)
theorem wd_356 : Cond.static Lib.Math.max.name ∈ TT := TTin 356 (by decide +kernel) (by decide +kernel)
theorem wd_357 : Cond.code Lib.Math.max.name Lib.Math.max.code 2 (some .int) ∈ TT := TTin 357 (by decide +kernel) (by decide +kernel)
theorem wd_358 : Cond.methodLink RX4 72 yX2_changeIron ∈ TT := TTin 358 (by decide +kernel) (by decide +kernel)
theorem wd_359 : Cond.instanceMethod yX2_changeIron ∈ TT := TTin 359 (by decide +kernel) (by decide +kernel)
theorem wd_360 : Cond.selects RX2 yX2_changeIron yX2_changeIron ∈ TT := TTin 360 (by decide +kernel) (by decide +kernel)
theorem wd_361 : Cond.code yX2_changeIron cX2_changeIron 2 (some .int) ∈ TT := TTin 361 (by decide +kernel) (by decide +kernel)
theorem wd_362 : Cond.methodLink RX2 83 yX2_ironOf ∈ TT := TTin 362 (by decide +kernel) (by decide +kernel)
theorem wd_363 : Cond.instanceMethod yX2_ironOf ∈ TT := TTin 363 (by decide +kernel) (by decide +kernel)
theorem wd_364 : Cond.selects RX2 yX2_ironOf yX2_ironOf ∈ TT := TTin 364 (by decide +kernel) (by decide +kernel)
theorem wd_365 : Cond.code yX2_ironOf cX2_ironOf 2 (some .int) ∈ TT := TTin 365 (by decide +kernel) (by decide +kernel)
theorem wd_366 : Cond.methodLink RX4 75 yX2_walk ∈ TT := TTin 366 (by decide +kernel) (by decide +kernel)
theorem wd_367 : Cond.instanceMethod yX2_walk ∈ TT := TTin 367 (by decide +kernel) (by decide +kernel)
theorem wd_368 : Cond.selects RX2 yX2_walk yX2_walk ∈ TT := TTin 368 (by decide +kernel) (by decide +kernel)
theorem wd_369 : Cond.code yX2_walk cX2_walk 6 (some .int) ∈ TT := TTin 369 (by decide +kernel) (by decide +kernel)
theorem wd_370 : Cond.methodLink RX2 80 yX2_placeOf ∈ TT := TTin 370 (by decide +kernel) (by decide +kernel)
theorem wd_371 : Cond.instanceMethod yX2_placeOf ∈ TT := TTin 371 (by decide +kernel) (by decide +kernel)
theorem wd_372 : Cond.selects RX2 yX2_placeOf yX2_placeOf ∈ TT := TTin 372 (by decide +kernel) (by decide +kernel)
theorem wd_373 : Cond.code yX2_placeOf cX2_placeOf 2 (some .int) ∈ TT := TTin 373 (by decide +kernel) (by decide +kernel)
theorem wd_374 : Cond.methodLink RX2 86 Lib.Math.min.name ∈ TT := TTin 374 (by decide +kernel) (by decide +kernel)
theorem wd_375 : Cond.methodLink RX4 47 yX1_actLength ∈ TT := TTin 375 (by decide +kernel) (by decide +kernel)
theorem wd_376 : Cond.methodLink RL 41 yX5_done ∈ TT := TTin 376 (by decide +kernel) (by decide +kernel)
theorem wd_377 : Cond.instanceMethod yX5_done ∈ TT := TTin 377 (by decide +kernel) (by decide +kernel)
theorem wd_378 : Cond.selects RX5 yX5_done yX5_done ∈ TT := TTin 378 (by decide +kernel) (by decide +kernel)
theorem wd_379 : Cond.code yX5_done cX5_done 1 (some .int) ∈ TT := TTin 379 (by decide +kernel) (by decide +kernel)
theorem wd_380 : Cond.methodLink RX5 130 yX5_canBeDone ∈ TT := TTin 380 (by decide +kernel) (by decide +kernel)
theorem wd_382 : Cond.instanceMethod yX5_canBeDone ∈ TT := TTin 382 (by decide +kernel) (by decide +kernel)
theorem wd_383 : Cond.code yX5_canBeDone cX5_canBeDone 1 (some .boolean) ∈ TT := TTin 383 (by decide +kernel) (by decide +kernel)
theorem wd_384 : Cond.methodLink RX5 135 yX2_copyFrom ∈ TT := TTin 384 (by decide +kernel) (by decide +kernel)
theorem wd_385 : Cond.methodLink RL 45 yX5_behind ∈ TT := TTin 385 (by decide +kernel) (by decide +kernel)
theorem wd_386 : Cond.instanceMethod yX5_behind ∈ TT := TTin 386 (by decide +kernel) (by decide +kernel)
theorem wd_387 : Cond.selects RX5 yX5_behind yX5_behind ∈ TT := TTin 387 (by decide +kernel) (by decide +kernel)
theorem wd_388 : Cond.code yX5_behind cX5_behind 3 (some .int) ∈ TT := TTin 388 (by decide +kernel) (by decide +kernel)
theorem wd_389 : Cond.methodLink RX5 142 yX2_roadBetween ∈ TT := TTin 389 (by decide +kernel) (by decide +kernel)
theorem wd_390 : Cond.methodLink RL 50 yX5_goes ∈ TT := TTin 390 (by decide +kernel) (by decide +kernel)
theorem wd_391 : Cond.instanceMethod yX5_goes ∈ TT := TTin 391 (by decide +kernel) (by decide +kernel)
theorem wd_392 : Cond.selects RX5 yX5_goes yX5_goes ∈ TT := TTin 392 (by decide +kernel) (by decide +kernel)
theorem wd_393 : Cond.code yX5_goes cX5_goes 3 (some .int) ∈ TT := TTin 393 (by decide +kernel) (by decide +kernel)
theorem wd_394 : Cond.methodLink RX5 146 yX2_isThere ∈ TT := TTin 394 (by decide +kernel) (by decide +kernel)
theorem wd_395 : Cond.methodLink RX5 149 yX2_placeOf ∈ TT := TTin 395 (by decide +kernel) (by decide +kernel)
theorem wd_396 : Cond.methodLink RX5 152 yX2_ironOf ∈ TT := TTin 396 (by decide +kernel) (by decide +kernel)
theorem wd_397 : Cond.methodLink RL 54 yX5_then ∈ TT := TTin 397 (by decide +kernel) (by decide +kernel)
theorem wd_398 : Cond.instanceMethod yX5_then ∈ TT := TTin 398 (by decide +kernel) (by decide +kernel)
theorem wd_399 : Cond.selects RX5 yX5_then yX5_then ∈ TT := TTin 399 (by decide +kernel) (by decide +kernel)
theorem wd_400 : Cond.code yX5_then cX5_then 2 (some .int) ∈ TT := TTin 400 (by decide +kernel) (by decide +kernel)
theorem wd_401 : Cond.methodLink RX5 155 yX2_addWear ∈ TT := TTin 401 (by decide +kernel) (by decide +kernel)
theorem wd_402 : Cond.instanceMethod yX2_addWear ∈ TT := TTin 402 (by decide +kernel) (by decide +kernel)
theorem wd_403 : Cond.selects RX2 yX2_addWear yX2_addWear ∈ TT := TTin 403 (by decide +kernel) (by decide +kernel)
theorem wd_404 : Cond.code yX2_addWear cX2_addWear 3 (some .int) ∈ TT := TTin 404 (by decide +kernel) (by decide +kernel)
theorem nw_405 : Cond.methodLinkNest RX2 54 yX5_within "RoadCobblers" ∈ NW := NWin 405 (by decide +kernel) (by decide +kernel)
theorem wd_406 : Cond.methodLink RX5 158 yX2_shutIn ∈ TT := TTin 406 (by decide +kernel) (by decide +kernel)
theorem wd_407 : Cond.instanceMethod yX2_shutIn ∈ TT := TTin 407 (by decide +kernel) (by decide +kernel)
theorem wd_408 : Cond.selects RX2 yX2_shutIn yX2_shutIn ∈ TT := TTin 408 (by decide +kernel) (by decide +kernel)
theorem wd_409 : Cond.code yX2_shutIn cX2_shutIn 3 (some .int) ∈ TT := TTin 409 (by decide +kernel) (by decide +kernel)
theorem wd_410 : Cond.methodLink RX2 61 yX2_openFrom ∈ TT := TTin 410 (by decide +kernel) (by decide +kernel)
theorem wd_411 : Cond.instanceMethod yX2_openFrom ∈ TT := TTin 411 (by decide +kernel) (by decide +kernel)
theorem wd_412 : Cond.selects RX2 yX2_openFrom yX2_openFrom ∈ TT := TTin 412 (by decide +kernel) (by decide +kernel)
theorem wd_413 : Cond.code yX2_openFrom cX2_openFrom 4 (some .int) ∈ TT := TTin 413 (by decide +kernel) (by decide +kernel)
theorem wd_414 : Cond.methodLink RX2 58 yX2_isOpen ∈ TT := TTin 414 (by decide +kernel) (by decide +kernel)
theorem wd_415 : Cond.instanceMethod yX2_isOpen ∈ TT := TTin 415 (by decide +kernel) (by decide +kernel)
theorem wd_416 : Cond.selects RX2 yX2_isOpen yX2_isOpen ∈ TT := TTin 416 (by decide +kernel) (by decide +kernel)
theorem wd_417 : Cond.code yX2_isOpen cX2_isOpen 3 (some .boolean) ∈ TT := TTin 417 (by decide +kernel) (by decide +kernel)
theorem wd_418 : Cond.methodLink RL 58 yX5_way ∈ TT := TTin 418 (by decide +kernel) (by decide +kernel)
theorem wd_419 : Cond.instanceMethod yX5_way ∈ TT := TTin 419 (by decide +kernel) (by decide +kernel)
theorem wd_420 : Cond.selects RX5 yX5_way yX5_way ∈ TT := TTin 420 (by decide +kernel) (by decide +kernel)
theorem wd_421 : Cond.code yX5_way cX5_way 4 (some .int) ∈ TT := TTin 421 (by decide +kernel) (by decide +kernel)
theorem wd_422 : Cond.methodLink RX5 170 yX5_leastWay ∈ TT := TTin 422 (by decide +kernel) (by decide +kernel)
theorem wd_424 : Cond.instanceMethod yX5_leastWay ∈ TT := TTin 424 (by decide +kernel) (by decide +kernel)
theorem wd_425 : Cond.code yX5_leastWay cX5_leastWay 6 (some .int) ∈ TT := TTin 425 (by decide +kernel) (by decide +kernel)
theorem wd_426 : Cond.methodLink RX5 262 yJ7_fill_53178 ∈ TT := TTin 426 (by decide +kernel) (by decide +kernel)
theorem wd_427 : Cond.methodLink RX5 234 yX5_put ∈ TT := TTin 427 (by decide +kernel) (by decide +kernel)
theorem wd_428 : Cond.methodLink RX5 268 yX5_lengthenFrom ∈ TT := TTin 428 (by decide +kernel) (by decide +kernel)
theorem wd_430 : Cond.instanceMethod yX5_lengthenFrom ∈ TT := TTin 430 (by decide +kernel) (by decide +kernel)
theorem wd_431 : Cond.code yX5_lengthenFrom cX5_lengthenFrom 7 none ∈ TT := TTin 431 (by decide +kernel) (by decide +kernel)
theorem wd_432 : Cond.methodLink RX5 199 yX5_at ∈ TT := TTin 432 (by decide +kernel) (by decide +kernel)
theorem wd_433 : Cond.methodLink RX5 174 yX2_isOpen ∈ TT := TTin 433 (by decide +kernel) (by decide +kernel)
theorem wd_434 : Cond.methodLink RL 62 yX5_parts ∈ TT := TTin 434 (by decide +kernel) (by decide +kernel)
theorem wd_435 : Cond.instanceMethod yX5_parts ∈ TT := TTin 435 (by decide +kernel) (by decide +kernel)
theorem wd_436 : Cond.selects RX5 yX5_parts yX5_parts ∈ TT := TTin 436 (by decide +kernel) (by decide +kernel)
theorem wd_437 : Cond.code yX5_parts cX5_parts 6 (some .int) ∈ TT := TTin 437 (by decide +kernel) (by decide +kernel)
theorem wd_438 : Cond.methodLink RX5 177 yX2_reached ∈ TT := TTin 438 (by decide +kernel) (by decide +kernel)
theorem wd_439 : Cond.instanceMethod yX2_reached ∈ TT := TTin 439 (by decide +kernel) (by decide +kernel)
theorem wd_440 : Cond.selects RX2 yX2_reached yX2_reached ∈ TT := TTin 440 (by decide +kernel) (by decide +kernel)
theorem wd_441 : Cond.code yX2_reached cX2_reached 6 (some .int) ∈ TT := TTin 441 (by decide +kernel) (by decide +kernel)
theorem nw_442 : Cond.methodLinkNest RX2 70 yX5_holds "RoadCobblers" ∈ NW := NWin 442 (by decide +kernel) (by decide +kernel)
theorem wd_443 : Cond.static yX5_holds ∈ TT := TTin 443 (by decide +kernel) (by decide +kernel)
theorem wd_444 : Cond.code yX5_holds cX5_holds 2 (some .boolean) ∈ TT := TTin 444 (by decide +kernel) (by decide +kernel)
theorem wd_445 : Cond.methodLink RX5 180 yX5_holds ∈ TT := TTin 445 (by decide +kernel) (by decide +kernel)
theorem wd_446 : Cond.methodLink RX5 183 yX5_nameOfRoad ∈ TT := TTin 446 (by decide +kernel) (by decide +kernel)
theorem wd_447 : Cond.methodLink RL 66 yX5_strokes ∈ TT := TTin 447 (by decide +kernel) (by decide +kernel)
theorem wd_448 : Cond.instanceMethod yX5_strokes ∈ TT := TTin 448 (by decide +kernel) (by decide +kernel)
theorem wd_449 : Cond.selects RX5 yX5_strokes yX5_strokes ∈ TT := TTin 449 (by decide +kernel) (by decide +kernel)
theorem wd_450 : Cond.code yX5_strokes cX5_strokes 5 (some .int) ∈ TT := TTin 450 (by decide +kernel) (by decide +kernel)
theorem wd_451 : Cond.methodLink RX5 186 yX5_walksWithin ∈ TT := TTin 451 (by decide +kernel) (by decide +kernel)
theorem wd_453 : Cond.instanceMethod yX5_walksWithin ∈ TT := TTin 453 (by decide +kernel) (by decide +kernel)
theorem wd_454 : Cond.code yX5_walksWithin cX5_walksWithin 6 (some .int) ∈ TT := TTin 454 (by decide +kernel) (by decide +kernel)
theorem wd_455 : Cond.methodLink RX5 259 yX2_openFrom ∈ TT := TTin 455 (by decide +kernel) (by decide +kernel)
theorem wd_456 : Cond.methodLink RL 70 yX5_mended ∈ TT := TTin 456 (by decide +kernel) (by decide +kernel)
theorem wd_457 : Cond.instanceMethod yX5_mended ∈ TT := TTin 457 (by decide +kernel) (by decide +kernel)
theorem wd_458 : Cond.selects RX5 yX5_mended yX5_mended ∈ TT := TTin 458 (by decide +kernel) (by decide +kernel)
theorem wd_459 : Cond.code yX5_mended cX5_mended 6 (some .int) ∈ TT := TTin 459 (by decide +kernel) (by decide +kernel)
theorem wd_460 : Cond.methodLink RX5 189 yX5_hasDigits ∈ TT := TTin 460 (by decide +kernel) (by decide +kernel)
theorem wd_461 : Cond.static yX5_hasDigits ∈ TT := TTin 461 (by decide +kernel) (by decide +kernel)
theorem wd_462 : Cond.code yX5_hasDigits cX5_hasDigits 3 (some .boolean) ∈ TT := TTin 462 (by decide +kernel) (by decide +kernel)
theorem wd_463 : Cond.methodLink RX5 203 yX5_powerOfTen ∈ TT := TTin 463 (by decide +kernel) (by decide +kernel)
theorem wd_464 : Cond.static yX5_powerOfTen ∈ TT := TTin 464 (by decide +kernel) (by decide +kernel)
theorem wd_465 : Cond.code yX5_powerOfTen cX5_powerOfTen 4 (some .long) ∈ TT := TTin 465 (by decide +kernel) (by decide +kernel)
theorem wd_466 : Cond.constantLong RX5 238 (10) ∈ TT := TTin 466 (by decide +kernel) (by decide +kernel)
theorem wd_467 : Cond.methodLink RX5 209 yX5_digit ∈ TT := TTin 467 (by decide +kernel) (by decide +kernel)
theorem wd_468 : Cond.static yX5_digit ∈ TT := TTin 468 (by decide +kernel) (by decide +kernel)
theorem wd_469 : Cond.code yX5_digit cX5_digit 4 (some .int) ∈ TT := TTin 469 (by decide +kernel) (by decide +kernel)
theorem wd_470 : Cond.methodLink RX5 192 yX5_fillLoads ∈ TT := TTin 470 (by decide +kernel) (by decide +kernel)
theorem wd_472 : Cond.instanceMethod yX5_fillLoads ∈ TT := TTin 472 (by decide +kernel) (by decide +kernel)
theorem wd_473 : Cond.code yX5_fillLoads cX5_fillLoads 6 none ∈ TT := TTin 473 (by decide +kernel) (by decide +kernel)
theorem wd_474 : Cond.methodLink RX5 196 yX5_giveToOneMoreHand ∈ TT := TTin 474 (by decide +kernel) (by decide +kernel)
theorem wd_476 : Cond.instanceMethod yX5_giveToOneMoreHand ∈ TT := TTin 476 (by decide +kernel) (by decide +kernel)
theorem wd_477 : Cond.code yX5_giveToOneMoreHand cX5_giveToOneMoreHand 5 none ∈ TT := TTin 477 (by decide +kernel) (by decide +kernel)
theorem wd_478 : Cond.methodLink RL 74 yX5_pays ∈ TT := TTin 478 (by decide +kernel) (by decide +kernel)
theorem wd_479 : Cond.instanceMethod yX5_pays ∈ TT := TTin 479 (by decide +kernel) (by decide +kernel)
theorem wd_480 : Cond.selects RX5 yX5_pays yX5_pays ∈ TT := TTin 480 (by decide +kernel) (by decide +kernel)
theorem wd_481 : Cond.code yX5_pays cX5_pays 10 (some .long) ∈ TT := TTin 481 (by decide +kernel) (by decide +kernel)
theorem wd_482 : Cond.constantLong RX5 207 (-1000000000000000002) ∈ TT := TTin 482 (by decide +kernel) (by decide +kernel)
theorem wd_483 : Cond.methodLink RX5 212 yX5_countUsers ∈ TT := TTin 483 (by decide +kernel) (by decide +kernel)
theorem wd_484 : Cond.static yX5_countUsers ∈ TT := TTin 484 (by decide +kernel) (by decide +kernel)
theorem wd_485 : Cond.code yX5_countUsers cX5_countUsers 5 (some .int) ∈ TT := TTin 485 (by decide +kernel) (by decide +kernel)
theorem wd_486 : Cond.constantLong RX5 216 (2520) ∈ TT := TTin 486 (by decide +kernel) (by decide +kernel)
theorem wd_487 : Cond.methodLink RX5 218 yX5_lowestTerms ∈ TT := TTin 487 (by decide +kernel) (by decide +kernel)
theorem wd_488 : Cond.static yX5_lowestTerms ∈ TT := TTin 488 (by decide +kernel) (by decide +kernel)
theorem wd_489 : Cond.code yX5_lowestTerms cX5_lowestTerms 9 (some .long) ∈ TT := TTin 489 (by decide +kernel) (by decide +kernel)
theorem wd_490 : Cond.methodLink RX5 289 yX5_commonDivisor ∈ TT := TTin 490 (by decide +kernel) (by decide +kernel)
theorem wd_491 : Cond.static yX5_commonDivisor ∈ TT := TTin 491 (by decide +kernel) (by decide +kernel)
theorem wd_492 : Cond.code yX5_commonDivisor cX5_commonDivisor 11 (some .long) ∈ TT := TTin 492 (by decide +kernel) (by decide +kernel)
theorem wd_493 : Cond.methodLink RL 79 yX5_seen ∈ TT := TTin 493 (by decide +kernel) (by decide +kernel)
theorem wd_494 : Cond.instanceMethod yX5_seen ∈ TT := TTin 494 (by decide +kernel) (by decide +kernel)
theorem wd_495 : Cond.selects RX5 yX5_seen yX5_seen ∈ TT := TTin 495 (by decide +kernel) (by decide +kernel)
theorem wd_496 : Cond.code yX5_seen cX5_seen 4 (some .int) ∈ TT := TTin 496 (by decide +kernel) (by decide +kernel)
theorem wd_497 : Cond.methodLink RX5 223 yX3_add ∈ TT := TTin 497 (by decide +kernel) (by decide +kernel)
theorem wd_498 : Cond.instanceMethod yX3_add ∈ TT := TTin 498 (by decide +kernel) (by decide +kernel)
theorem wd_499 : Cond.selects RX3 yX3_add yX3_add ∈ TT := TTin 499 (by decide +kernel) (by decide +kernel)
theorem wd_500 : Cond.code yX3_add cX3_add 4 none ∈ TT := TTin 500 (by decide +kernel) (by decide +kernel)
theorem nw_501 : Cond.methodLinkNest RX3 29 yX5_put "RoadCobblers" ∈ NW := NWin 501 (by decide +kernel) (by decide +kernel)
theorem wd_502 : Cond.methodLink RL 84 yX5_forget ∈ TT := TTin 502 (by decide +kernel) (by decide +kernel)
theorem wd_503 : Cond.instanceMethod yX5_forget ∈ TT := TTin 503 (by decide +kernel) (by decide +kernel)
theorem wd_504 : Cond.selects RX5 yX5_forget yX5_forget ∈ TT := TTin 504 (by decide +kernel) (by decide +kernel)
theorem wd_505 : Cond.code yX5_forget cX5_forget 2 (some .int) ∈ TT := TTin 505 (by decide +kernel) (by decide +kernel)
theorem wd_506 : Cond.methodLink RL 88 yX5_who ∈ TT := TTin 506 (by decide +kernel) (by decide +kernel)
theorem wd_507 : Cond.instanceMethod yX5_who ∈ TT := TTin 507 (by decide +kernel) (by decide +kernel)
theorem wd_508 : Cond.selects RX5 yX5_who yX5_who ∈ TT := TTin 508 (by decide +kernel) (by decide +kernel)
theorem wd_509 : Cond.code yX5_who cX5_who 3 (some .int) ∈ TT := TTin 509 (by decide +kernel) (by decide +kernel)
theorem wd_510 : Cond.methodLink RX5 225 yX5_gatherFitting ∈ TT := TTin 510 (by decide +kernel) (by decide +kernel)
theorem wd_512 : Cond.instanceMethod yX5_gatherFitting ∈ TT := TTin 512 (by decide +kernel) (by decide +kernel)
theorem wd_513 : Cond.code yX5_gatherFitting cX5_gatherFitting 3 (some .int) ∈ TT := TTin 513 (by decide +kernel) (by decide +kernel)
theorem wd_514 : Cond.methodLink RX5 280 yX3_allowGuess ∈ TT := TTin 514 (by decide +kernel) (by decide +kernel)
theorem wd_515 : Cond.instanceMethod yX3_allowGuess ∈ TT := TTin 515 (by decide +kernel) (by decide +kernel)
theorem wd_516 : Cond.selects RX3 yX3_allowGuess yX3_allowGuess ∈ TT := TTin 516 (by decide +kernel) (by decide +kernel)
theorem wd_517 : Cond.code yX3_allowGuess cX3_allowGuess 3 (some .boolean) ∈ TT := TTin 517 (by decide +kernel) (by decide +kernel)
theorem nw_518 : Cond.methodLinkNest RX3 33 yX5_at "RoadCobblers" ∈ NW := NWin 518 (by decide +kernel) (by decide +kernel)
theorem nw_519 : Cond.methodLinkNest RX3 37 yX5_reading "RoadCobblers" ∈ NW := NWin 519 (by decide +kernel) (by decide +kernel)
theorem wd_520 : Cond.static yX5_reading ∈ TT := TTin 520 (by decide +kernel) (by decide +kernel)
theorem wd_521 : Cond.code yX5_reading cX5_reading 6 (some .int) ∈ TT := TTin 521 (by decide +kernel) (by decide +kernel)
theorem wd_522 : Cond.methodLink RL 92 yX5_ask ∈ TT := TTin 522 (by decide +kernel) (by decide +kernel)
theorem wd_523 : Cond.instanceMethod yX5_ask ∈ TT := TTin 523 (by decide +kernel) (by decide +kernel)
theorem wd_524 : Cond.selects RX5 yX5_ask yX5_ask ∈ TT := TTin 524 (by decide +kernel) (by decide +kernel)
theorem wd_525 : Cond.code yX5_ask cX5_ask 8 (some .int) ∈ TT := TTin 525 (by decide +kernel) (by decide +kernel)
theorem wd_526 : Cond.methodLink RX5 228 yX5_mostLeft ∈ TT := TTin 526 (by decide +kernel) (by decide +kernel)
theorem wd_528 : Cond.instanceMethod yX5_mostLeft ∈ TT := TTin 528 (by decide +kernel) (by decide +kernel)
theorem wd_529 : Cond.code yX5_mostLeft cX5_mostLeft 8 (some .int) ∈ TT := TTin 529 (by decide +kernel) (by decide +kernel)
theorem wd_530 : Cond.methodLink RX5 283 yX5_reading ∈ TT := TTin 530 (by decide +kernel) (by decide +kernel)
theorem wd_531 : Cond.methodLink RL 96 yX5_tacks ∈ TT := TTin 531 (by decide +kernel) (by decide +kernel)
theorem wd_532 : Cond.instanceMethod yX5_tacks ∈ TT := TTin 532 (by decide +kernel) (by decide +kernel)
theorem wd_533 : Cond.selects RX5 yX5_tacks yX5_tacks ∈ TT := TTin 533 (by decide +kernel) (by decide +kernel)
theorem wd_534 : Cond.code yX5_tacks cX5_tacks 5 (some .int) ∈ TT := TTin 534 (by decide +kernel) (by decide +kernel)
theorem wd_535 : Cond.methodLink RX5 231 yX5_winningTake ∈ TT := TTin 535 (by decide +kernel) (by decide +kernel)
theorem wd_537 : Cond.instanceMethod yX5_winningTake ∈ TT := TTin 537 (by decide +kernel) (by decide +kernel)
theorem wd_538 : Cond.code yX5_winningTake cX5_winningTake 4 (some .int) ∈ TT := TTin 538 (by decide +kernel) (by decide +kernel)
theorem wd_539 : Cond.methodLink RL 100 yX5_wet ∈ TT := TTin 539 (by decide +kernel) (by decide +kernel)
theorem wd_540 : Cond.instanceMethod yX5_wet ∈ TT := TTin 540 (by decide +kernel) (by decide +kernel)
theorem wd_541 : Cond.selects RX5 yX5_wet yX5_wet ∈ TT := TTin 541 (by decide +kernel) (by decide +kernel)
theorem wd_542 : Cond.code yX5_wet cX5_wet 9 (some .long) ∈ TT := TTin 542 (by decide +kernel) (by decide +kernel)
theorem wd_543 : Cond.methodLink RX5 240 yX5_fillChances ∈ TT := TTin 543 (by decide +kernel) (by decide +kernel)
theorem wd_545 : Cond.instanceMethod yX5_fillChances ∈ TT := TTin 545 (by decide +kernel) (by decide +kernel)
theorem wd_546 : Cond.code yX5_fillChances cX5_fillChances 7 none ∈ TT := TTin 546 (by decide +kernel) (by decide +kernel)
theorem wd_547 : Cond.methodLink RX5 286 yJ7_fill_d0a16 ∈ TT := TTin 547 (by decide +kernel) (by decide +kernel)
theorem wd_548 : Cond.static yJ7_fill_d0a16 ∈ TT := TTin 548 (by decide +kernel) (by decide +kernel)
theorem wd_549 : Cond.code yJ7_fill_d0a16 cJ7_fill_d0a16 5 none ∈ TT := TTin 549 (by decide +kernel) (by decide +kernel)
theorem wd_550 : Cond.methodLink RL 105 yX5_year ∈ TT := TTin 550 (by decide +kernel) (by decide +kernel)
theorem wd_551 : Cond.instanceMethod yX5_year ∈ TT := TTin 551 (by decide +kernel) (by decide +kernel)
theorem wd_552 : Cond.selects RX5 yX5_year yX5_year ∈ TT := TTin 552 (by decide +kernel) (by decide +kernel)
theorem wd_553 : Cond.code yX5_year cX5_year 4 (some .int) ∈ TT := TTin 553 (by decide +kernel) (by decide +kernel)
theorem wd_554 : Cond.methodLink RX5 243 yX4_followDraws ∈ TT := TTin 554 (by decide +kernel) (by decide +kernel)
theorem wd_555 : Cond.instanceMethod yX4_followDraws ∈ TT := TTin 555 (by decide +kernel) (by decide +kernel)
theorem wd_556 : Cond.selects RX4 yX4_followDraws yX4_followDraws ∈ TT := TTin 556 (by decide +kernel) (by decide +kernel)
theorem wd_557 : Cond.code yX4_followDraws cX4_followDraws 6 none ∈ TT := TTin 557 (by decide +kernel) (by decide +kernel)
theorem wd_558 : Cond.constant RX4 78 (65537) ∈ TT := TTin 558 (by decide +kernel) (by decide +kernel)
theorem wd_559 : Cond.methodLink RX4 79 yX4_takeDrawn ∈ TT := TTin 559 (by decide +kernel) (by decide +kernel)
theorem wd_561 : Cond.instanceMethod yX4_takeDrawn ∈ TT := TTin 561 (by decide +kernel) (by decide +kernel)
theorem wd_562 : Cond.code yX4_takeDrawn cX4_takeDrawn 5 none ∈ TT := TTin 562 (by decide +kernel) (by decide +kernel)
theorem wd_563 : Cond.methodLink RX5 247 yX2_countOpen ∈ TT := TTin 563 (by decide +kernel) (by decide +kernel)
theorem wd_564 : Cond.instanceMethod yX2_countOpen ∈ TT := TTin 564 (by decide +kernel) (by decide +kernel)
theorem wd_565 : Cond.selects RX2 yX2_countOpen yX2_countOpen ∈ TT := TTin 565 (by decide +kernel) (by decide +kernel)
theorem wd_566 : Cond.code yX2_countOpen cX2_countOpen 3 (some .int) ∈ TT := TTin 566 (by decide +kernel) (by decide +kernel)
theorem wd_567 : Cond.methodLink RX2 65 yJ6_bitCount_0f7a4 ∈ TT := TTin 567 (by decide +kernel) (by decide +kernel)
theorem wd_568 : Cond.methodLink RL 109 yX5_image ∈ TT := TTin 568 (by decide +kernel) (by decide +kernel)
theorem wd_569 : Cond.instanceMethod yX5_image ∈ TT := TTin 569 (by decide +kernel) (by decide +kernel)
theorem wd_570 : Cond.selects RX5 yX5_image yX5_image ∈ TT := TTin 570 (by decide +kernel) (by decide +kernel)
theorem wd_571 : Cond.code yX5_image cX5_image 3 (some .int) ∈ TT := TTin 571 (by decide +kernel) (by decide +kernel)
theorem wd_572 : Cond.methodLink RX5 252 yX3_copyFrom ∈ TT := TTin 572 (by decide +kernel) (by decide +kernel)
theorem wd_573 : Cond.instanceMethod yX3_copyFrom ∈ TT := TTin 573 (by decide +kernel) (by decide +kernel)
theorem wd_574 : Cond.selects RX3 yX3_copyFrom yX3_copyFrom ∈ TT := TTin 574 (by decide +kernel) (by decide +kernel)
theorem wd_575 : Cond.code yX3_copyFrom cX3_copyFrom 2 none ∈ TT := TTin 575 (by decide +kernel) (by decide +kernel)
theorem nw_576 : Cond.methodLinkNest RX3 25 yX5_copy "RoadCobblers" ∈ NW := NWin 576 (by decide +kernel) (by decide +kernel)
theorem wd_577 : Cond.methodLink RL 113 yX5_restore ∈ TT := TTin 577 (by decide +kernel) (by decide +kernel)
theorem wd_578 : Cond.instanceMethod yX5_restore ∈ TT := TTin 578 (by decide +kernel) (by decide +kernel)
theorem wd_579 : Cond.selects RX5 yX5_restore yX5_restore ∈ TT := TTin 579 (by decide +kernel) (by decide +kernel)
theorem wd_580 : Cond.code yX5_restore cX5_restore 3 (some .int) ∈ TT := TTin 580 (by decide +kernel) (by decide +kernel)
theorem wd_581 : Cond.methodLink RL 117 yX5_told ∈ TT := TTin 581 (by decide +kernel) (by decide +kernel)
theorem wd_582 : Cond.instanceMethod yX5_told ∈ TT := TTin 582 (by decide +kernel) (by decide +kernel)
theorem wd_583 : Cond.selects RX5 yX5_told yX5_told ∈ TT := TTin 583 (by decide +kernel) (by decide +kernel)
theorem wd_584 : Cond.code yX5_told cX5_told 4 (some .int) ∈ TT := TTin 584 (by decide +kernel) (by decide +kernel)
theorem wd_585 : Cond.classLink RL 10 RX6 ∈ TT := TTin 585 (by decide +kernel) (by decide +kernel)
theorem wd_586 : Cond.instantiable RX6 20 ∈ TT := TTin 586 (by decide +kernel) (by decide +kernel)
theorem wd_587 : Cond.methodLink RL 12 yX6_init ∈ TT := TTin 587 (by decide +kernel) (by decide +kernel)
theorem wd_588 : Cond.instanceMethod yX6_init ∈ TT := TTin 588 (by decide +kernel) (by decide +kernel)
theorem wd_589 : Cond.code yX6_init cX6_init 2 none ∈ TT := TTin 589 (by decide +kernel) (by decide +kernel)
theorem wd_590 : Cond.methodLink RX6 1 objectInit ∈ TT := TTin 590 (by decide +kernel) (by decide +kernel)
theorem wd_591 : Cond.fieldLink RX6 7 "RoadCobblersModel" "book" "[I" ∈ TT := TTin 591 (by decide +kernel) (by decide +kernel)
theorem wd_592 : Cond.fieldLink RX6 13 "RoadCobblersModel" "now" "[I" ∈ TT := TTin 592 (by decide +kernel) (by decide +kernel)
theorem wd_593 : Cond.fieldLink RX6 55 "RoadCobblersModel" "there" "I" ∈ TT := TTin 593 (by decide +kernel) (by decide +kernel)
theorem wd_594 : Cond.fieldLink RX6 153 "RoadCobblersModel" "sights" "I" ∈ TT := TTin 594 (by decide +kernel) (by decide +kernel)
theorem wd_595 : Cond.fieldLink RX6 16 "RoadCobblersModel" "sight" "[I" ∈ TT := TTin 595 (by decide +kernel) (by decide +kernel)
theorem wd_596 : Cond.fieldLink RX6 78 "RoadCobblersModel" "signs" "I" ∈ TT := TTin 596 (by decide +kernel) (by decide +kernel)
theorem wd_597 : Cond.fieldLink RX6 19 "RoadCobblersModel" "pad" "[I" ∈ TT := TTin 597 (by decide +kernel) (by decide +kernel)
theorem wd_598 : Cond.fieldLink RX6 84 "RoadCobblersModel" "wornAt" "I" ∈ TT := TTin 598 (by decide +kernel) (by decide +kernel)
theorem wd_599 : Cond.fieldLink RX6 87 "RoadCobblersModel" "wornRoad" "I" ∈ TT := TTin 599 (by decide +kernel) (by decide +kernel)
theorem wd_600 : Cond.fieldLink RX6 113 "RoadCobblersModel" "reason" "I" ∈ TT := TTin 600 (by decide +kernel) (by decide +kernel)
theorem wd_601 : Cond.fieldLink RX6 107 "RoadCobblersModel" "acts" "I" ∈ TT := TTin 601 (by decide +kernel) (by decide +kernel)
theorem wd_602 : Cond.fieldLink RX6 22 "RoadCobblersModel" "cost" "[I" ∈ TT := TTin 602 (by decide +kernel) (by decide +kernel)
theorem wd_603 : Cond.fieldLink RX6 25 "RoadCobblersModel" "digits" "[I" ∈ TT := TTin 603 (by decide +kernel) (by decide +kernel)
theorem wd_604 : Cond.fieldLink RX6 28 "RoadCobblersModel" "hands" "[I" ∈ TT := TTin 604 (by decide +kernel) (by decide +kernel)
theorem wd_605 : Cond.fieldLink RX6 31 "RoadCobblersModel" "counts" "[I" ∈ TT := TTin 605 (by decide +kernel) (by decide +kernel)
theorem wd_606 : Cond.fieldLink RX6 34 "RoadCobblersModel" "fitting" "[I" ∈ TT := TTin 606 (by decide +kernel) (by decide +kernel)
theorem wd_607 : Cond.fieldLink RX6 37 "RoadCobblersModel" "wins" "[Z" ∈ TT := TTin 607 (by decide +kernel) (by decide +kernel)
theorem wd_608 : Cond.fieldLink RX6 41 "RoadCobblersModel" "ways" "[J" ∈ TT := TTin 608 (by decide +kernel) (by decide +kernel)
theorem wd_609 : Cond.fieldLink RX6 45 "RoadCobblersModel" "image" "[I" ∈ TT := TTin 609 (by decide +kernel) (by decide +kernel)
theorem wd_610 : Cond.fieldLink RX6 48 "RoadCobblersModel" "isKept" "[Z" ∈ TT := TTin 610 (by decide +kernel) (by decide +kernel)
theorem wd_652 : Cond.arrayClass .boolean ∈ TT := TTin 652 (by decide +kernel) (by decide +kernel)
theorem wd_653 : Cond.methodLink RL 17 yX6_road ∈ TT := TTin 653 (by decide +kernel) (by decide +kernel)
theorem wd_654 : Cond.instanceMethod yX6_road ∈ TT := TTin 654 (by decide +kernel) (by decide +kernel)
theorem wd_655 : Cond.selects RX6 yX6_road yX6_road ∈ TT := TTin 655 (by decide +kernel) (by decide +kernel)
theorem wd_656 : Cond.code yX6_road cX6_road 4 (some .int) ∈ TT := TTin 656 (by decide +kernel) (by decide +kernel)
theorem wd_657 : Cond.methodLink RX6 63 yX6_isPlace ∈ TT := TTin 657 (by decide +kernel) (by decide +kernel)
theorem wd_658 : Cond.static yX6_isPlace ∈ TT := TTin 658 (by decide +kernel) (by decide +kernel)
theorem wd_659 : Cond.code yX6_isPlace cX6_isPlace 1 (some .boolean) ∈ TT := TTin 659 (by decide +kernel) (by decide +kernel)
theorem wd_660 : Cond.methodLink RX6 51 yX6_in ∈ TT := TTin 660 (by decide +kernel) (by decide +kernel)
theorem wd_661 : Cond.static yX6_in ∈ TT := TTin 661 (by decide +kernel) (by decide +kernel)
theorem wd_662 : Cond.code yX6_in cX6_in 3 (some .boolean) ∈ TT := TTin 662 (by decide +kernel) (by decide +kernel)
theorem wd_663 : Cond.methodLink RX6 67 yX6_asNow ∈ TT := TTin 663 (by decide +kernel) (by decide +kernel)
theorem wd_665 : Cond.instanceMethod yX6_asNow ∈ TT := TTin 665 (by decide +kernel) (by decide +kernel)
theorem wd_666 : Cond.code yX6_asNow cX6_asNow 2 none ∈ TT := TTin 666 (by decide +kernel) (by decide +kernel)
theorem wd_667 : Cond.methodLink RX6 70 yX6_roadsOf ∈ TT := TTin 667 (by decide +kernel) (by decide +kernel)
theorem wd_669 : Cond.instanceMethod yX6_roadsOf ∈ TT := TTin 669 (by decide +kernel) (by decide +kernel)
theorem wd_670 : Cond.code yX6_roadsOf cX6_roadsOf 3 (some .int) ∈ TT := TTin 670 (by decide +kernel) (by decide +kernel)
theorem wd_671 : Cond.methodLink RL 22 yX6_walker ∈ TT := TTin 671 (by decide +kernel) (by decide +kernel)
theorem wd_672 : Cond.instanceMethod yX6_walker ∈ TT := TTin 672 (by decide +kernel) (by decide +kernel)
theorem wd_673 : Cond.selects RX6 yX6_walker yX6_walker ∈ TT := TTin 673 (by decide +kernel) (by decide +kernel)
theorem wd_674 : Cond.code yX6_walker cX6_walker 4 (some .int) ∈ TT := TTin 674 (by decide +kernel) (by decide +kernel)
theorem wd_675 : Cond.methodLink RX6 74 yX6_bits ∈ TT := TTin 675 (by decide +kernel) (by decide +kernel)
theorem wd_676 : Cond.static yX6_bits ∈ TT := TTin 676 (by decide +kernel) (by decide +kernel)
theorem wd_677 : Cond.code yX6_bits cX6_bits 3 (some .int) ∈ TT := TTin 677 (by decide +kernel) (by decide +kernel)
theorem wd_678 : Cond.methodLink RL 27 yX6_say ∈ TT := TTin 678 (by decide +kernel) (by decide +kernel)
theorem wd_679 : Cond.instanceMethod yX6_say ∈ TT := TTin 679 (by decide +kernel) (by decide +kernel)
theorem wd_680 : Cond.selects RX6 yX6_say yX6_say ∈ TT := TTin 680 (by decide +kernel) (by decide +kernel)
theorem wd_681 : Cond.code yX6_say cX6_say 2 (some .int) ∈ TT := TTin 681 (by decide +kernel) (by decide +kernel)
theorem wd_682 : Cond.methodLink RL 32 yX6_wipe ∈ TT := TTin 682 (by decide +kernel) (by decide +kernel)
theorem wd_683 : Cond.instanceMethod yX6_wipe ∈ TT := TTin 683 (by decide +kernel) (by decide +kernel)
theorem wd_684 : Cond.selects RX6 yX6_wipe yX6_wipe ∈ TT := TTin 684 (by decide +kernel) (by decide +kernel)
theorem wd_685 : Cond.code yX6_wipe cX6_wipe 2 (some .int) ∈ TT := TTin 685 (by decide +kernel) (by decide +kernel)
theorem wd_686 : Cond.methodLink RL 36 yX6_fault ∈ TT := TTin 686 (by decide +kernel) (by decide +kernel)
theorem wd_687 : Cond.instanceMethod yX6_fault ∈ TT := TTin 687 (by decide +kernel) (by decide +kernel)
theorem wd_688 : Cond.selects RX6 yX6_fault yX6_fault ∈ TT := TTin 688 (by decide +kernel) (by decide +kernel)
theorem wd_689 : Cond.code yX6_fault cX6_fault 1 (some .int) ∈ TT := TTin 689 (by decide +kernel) (by decide +kernel)
theorem wd_690 : Cond.methodLink RX6 81 yX6_faultOf ∈ TT := TTin 690 (by decide +kernel) (by decide +kernel)
theorem wd_692 : Cond.instanceMethod yX6_faultOf ∈ TT := TTin 692 (by decide +kernel) (by decide +kernel)
theorem wd_693 : Cond.code yX6_faultOf cX6_faultOf 5 (some .int) ∈ TT := TTin 693 (by decide +kernel) (by decide +kernel)
theorem wd_694 : Cond.methodLink RL 40 yX6_judge ∈ TT := TTin 694 (by decide +kernel) (by decide +kernel)
theorem wd_695 : Cond.instanceMethod yX6_judge ∈ TT := TTin 695 (by decide +kernel) (by decide +kernel)
theorem wd_696 : Cond.selects RX6 yX6_judge yX6_judge ∈ TT := TTin 696 (by decide +kernel) (by decide +kernel)
theorem wd_697 : Cond.code yX6_judge cX6_judge 3 (some .int) ∈ TT := TTin 697 (by decide +kernel) (by decide +kernel)
theorem wd_698 : Cond.methodLink RX6 129 yX6_goDays ∈ TT := TTin 698 (by decide +kernel) (by decide +kernel)
theorem wd_700 : Cond.instanceMethod yX6_goDays ∈ TT := TTin 700 (by decide +kernel) (by decide +kernel)
theorem wd_701 : Cond.code yX6_goDays cX6_goDays 7 (some .int) ∈ TT := TTin 701 (by decide +kernel) (by decide +kernel)
theorem wd_702 : Cond.methodLink RX6 110 yX6_endDay ∈ TT := TTin 702 (by decide +kernel) (by decide +kernel)
theorem wd_704 : Cond.instanceMethod yX6_endDay ∈ TT := TTin 704 (by decide +kernel) (by decide +kernel)
theorem wd_705 : Cond.code yX6_endDay cX6_endDay 2 (some .int) ∈ TT := TTin 705 (by decide +kernel) (by decide +kernel)
theorem wd_706 : Cond.methodLink RX6 116 yX6_bring ∈ TT := TTin 706 (by decide +kernel) (by decide +kernel)
theorem wd_708 : Cond.instanceMethod yX6_bring ∈ TT := TTin 708 (by decide +kernel) (by decide +kernel)
theorem wd_709 : Cond.code yX6_bring cX6_bring 4 (some .int) ∈ TT := TTin 709 (by decide +kernel) (by decide +kernel)
theorem wd_710 : Cond.methodLink RX6 93 yX6_barOf ∈ TT := TTin 710 (by decide +kernel) (by decide +kernel)
theorem wd_712 : Cond.instanceMethod yX6_barOf ∈ TT := TTin 712 (by decide +kernel) (by decide +kernel)
theorem wd_713 : Cond.code yX6_barOf cX6_barOf 4 (some .int) ∈ TT := TTin 713 (by decide +kernel) (by decide +kernel)
theorem wd_714 : Cond.methodLink RX6 97 yX6_lay ∈ TT := TTin 714 (by decide +kernel) (by decide +kernel)
theorem wd_716 : Cond.instanceMethod yX6_lay ∈ TT := TTin 716 (by decide +kernel) (by decide +kernel)
theorem wd_717 : Cond.code yX6_lay cX6_lay 4 none ∈ TT := TTin 717 (by decide +kernel) (by decide +kernel)
theorem wd_718 : Cond.methodLink RX6 119 yX6_patch ∈ TT := TTin 718 (by decide +kernel) (by decide +kernel)
theorem wd_720 : Cond.instanceMethod yX6_patch ∈ TT := TTin 720 (by decide +kernel) (by decide +kernel)
theorem wd_721 : Cond.code yX6_patch cX6_patch 7 (some .int) ∈ TT := TTin 721 (by decide +kernel) (by decide +kernel)
theorem wd_722 : Cond.methodLink RX6 123 yX6_walk ∈ TT := TTin 722 (by decide +kernel) (by decide +kernel)
theorem wd_724 : Cond.instanceMethod yX6_walk ∈ TT := TTin 724 (by decide +kernel) (by decide +kernel)
theorem wd_725 : Cond.code yX6_walk cX6_walk 6 (some .int) ∈ TT := TTin 725 (by decide +kernel) (by decide +kernel)
theorem wd_726 : Cond.methodLink RX6 90 yX6_isThere ∈ TT := TTin 726 (by decide +kernel) (by decide +kernel)
theorem wd_728 : Cond.instanceMethod yX6_isThere ∈ TT := TTin 728 (by decide +kernel) (by decide +kernel)
theorem wd_729 : Cond.code yX6_isThere cX6_isThere 2 (some .boolean) ∈ TT := TTin 729 (by decide +kernel) (by decide +kernel)
theorem wd_730 : Cond.methodLink RX6 59 yX6_has ∈ TT := TTin 730 (by decide +kernel) (by decide +kernel)
theorem wd_731 : Cond.static yX6_has ∈ TT := TTin 731 (by decide +kernel) (by decide +kernel)
theorem wd_732 : Cond.code yX6_has cX6_has 2 (some .boolean) ∈ TT := TTin 732 (by decide +kernel) (by decide +kernel)
theorem wd_733 : Cond.methodLink RX6 126 yX6_shoe ∈ TT := TTin 733 (by decide +kernel) (by decide +kernel)
theorem wd_735 : Cond.instanceMethod yX6_shoe ∈ TT := TTin 735 (by decide +kernel) (by decide +kernel)
theorem wd_736 : Cond.code yX6_shoe cX6_shoe 2 (some .int) ∈ TT := TTin 736 (by decide +kernel) (by decide +kernel)
theorem wd_737 : Cond.methodLink RL 44 yX6_done ∈ TT := TTin 737 (by decide +kernel) (by decide +kernel)
theorem wd_738 : Cond.instanceMethod yX6_done ∈ TT := TTin 738 (by decide +kernel) (by decide +kernel)
theorem wd_739 : Cond.selects RX6 yX6_done yX6_done ∈ TT := TTin 739 (by decide +kernel) (by decide +kernel)
theorem wd_740 : Cond.code yX6_done cX6_done 2 (some .int) ∈ TT := TTin 740 (by decide +kernel) (by decide +kernel)
theorem wd_741 : Cond.methodLink RX6 132 yX6_barOfDays ∈ TT := TTin 741 (by decide +kernel) (by decide +kernel)
theorem wd_743 : Cond.instanceMethod yX6_barOfDays ∈ TT := TTin 743 (by decide +kernel) (by decide +kernel)
theorem wd_744 : Cond.code yX6_barOfDays cX6_barOfDays 1 (some .int) ∈ TT := TTin 744 (by decide +kernel) (by decide +kernel)
theorem wd_745 : Cond.methodLink RL 49 yX6_behind ∈ TT := TTin 745 (by decide +kernel) (by decide +kernel)
theorem wd_746 : Cond.instanceMethod yX6_behind ∈ TT := TTin 746 (by decide +kernel) (by decide +kernel)
theorem wd_747 : Cond.selects RX6 yX6_behind yX6_behind ∈ TT := TTin 747 (by decide +kernel) (by decide +kernel)
theorem wd_748 : Cond.code yX6_behind cX6_behind 3 (some .int) ∈ TT := TTin 748 (by decide +kernel) (by decide +kernel)
theorem wd_749 : Cond.methodLink RL 53 yX6_goes ∈ TT := TTin 749 (by decide +kernel) (by decide +kernel)
theorem wd_750 : Cond.instanceMethod yX6_goes ∈ TT := TTin 750 (by decide +kernel) (by decide +kernel)
theorem wd_751 : Cond.selects RX6 yX6_goes yX6_goes ∈ TT := TTin 751 (by decide +kernel) (by decide +kernel)
theorem wd_752 : Cond.code yX6_goes cX6_goes 3 (some .int) ∈ TT := TTin 752 (by decide +kernel) (by decide +kernel)
theorem wd_753 : Cond.methodLink RL 57 yX6_then ∈ TT := TTin 753 (by decide +kernel) (by decide +kernel)
theorem wd_754 : Cond.instanceMethod yX6_then ∈ TT := TTin 754 (by decide +kernel) (by decide +kernel)
theorem wd_755 : Cond.selects RX6 yX6_then yX6_then ∈ TT := TTin 755 (by decide +kernel) (by decide +kernel)
theorem wd_756 : Cond.code yX6_then cX6_then 2 (some .int) ∈ TT := TTin 756 (by decide +kernel) (by decide +kernel)
theorem wd_757 : Cond.methodLink RX6 135 yX6_wearOf ∈ TT := TTin 757 (by decide +kernel) (by decide +kernel)
theorem wd_759 : Cond.instanceMethod yX6_wearOf ∈ TT := TTin 759 (by decide +kernel) (by decide +kernel)
theorem wd_760 : Cond.code yX6_wearOf cX6_wearOf 3 (some .int) ∈ TT := TTin 760 (by decide +kernel) (by decide +kernel)
theorem wd_761 : Cond.methodLink RX6 138 yX6_shutIn ∈ TT := TTin 761 (by decide +kernel) (by decide +kernel)
theorem wd_763 : Cond.instanceMethod yX6_shutIn ∈ TT := TTin 763 (by decide +kernel) (by decide +kernel)
theorem wd_764 : Cond.code yX6_shutIn cX6_shutIn 3 (some .int) ∈ TT := TTin 764 (by decide +kernel) (by decide +kernel)
theorem wd_765 : Cond.methodLink RX6 104 yX6_openFrom ∈ TT := TTin 765 (by decide +kernel) (by decide +kernel)
theorem wd_767 : Cond.instanceMethod yX6_openFrom ∈ TT := TTin 767 (by decide +kernel) (by decide +kernel)
theorem wd_768 : Cond.code yX6_openFrom cX6_openFrom 4 (some .int) ∈ TT := TTin 768 (by decide +kernel) (by decide +kernel)
theorem wd_769 : Cond.methodLink RX6 101 yX6_isOpen ∈ TT := TTin 769 (by decide +kernel) (by decide +kernel)
theorem wd_771 : Cond.instanceMethod yX6_isOpen ∈ TT := TTin 771 (by decide +kernel) (by decide +kernel)
theorem wd_772 : Cond.code yX6_isOpen cX6_isOpen 3 (some .boolean) ∈ TT := TTin 772 (by decide +kernel) (by decide +kernel)
theorem wd_773 : Cond.methodLink RL 61 yX6_way ∈ TT := TTin 773 (by decide +kernel) (by decide +kernel)
theorem wd_774 : Cond.instanceMethod yX6_way ∈ TT := TTin 774 (by decide +kernel) (by decide +kernel)
theorem wd_775 : Cond.selects RX6 yX6_way yX6_way ∈ TT := TTin 775 (by decide +kernel) (by decide +kernel)
theorem wd_776 : Cond.code yX6_way cX6_way 8 (some .int) ∈ TT := TTin 776 (by decide +kernel) (by decide +kernel)
theorem wd_777 : Cond.constant RX6 141 (1000000) ∈ TT := TTin 777 (by decide +kernel) (by decide +kernel)
theorem wd_778 : Cond.methodLink RL 65 yX6_parts ∈ TT := TTin 778 (by decide +kernel) (by decide +kernel)
theorem wd_779 : Cond.instanceMethod yX6_parts ∈ TT := TTin 779 (by decide +kernel) (by decide +kernel)
theorem wd_780 : Cond.selects RX6 yX6_parts yX6_parts ∈ TT := TTin 780 (by decide +kernel) (by decide +kernel)
theorem wd_781 : Cond.code yX6_parts cX6_parts 9 (some .int) ∈ TT := TTin 781 (by decide +kernel) (by decide +kernel)
theorem wd_782 : Cond.methodLink RX6 142 yX6_partOf ∈ TT := TTin 782 (by decide +kernel) (by decide +kernel)
theorem wd_784 : Cond.instanceMethod yX6_partOf ∈ TT := TTin 784 (by decide +kernel) (by decide +kernel)
theorem wd_785 : Cond.code yX6_partOf cX6_partOf 5 (some .int) ∈ TT := TTin 785 (by decide +kernel) (by decide +kernel)
theorem wd_786 : Cond.methodLink RL 69 yX6_strokes ∈ TT := TTin 786 (by decide +kernel) (by decide +kernel)
theorem wd_787 : Cond.instanceMethod yX6_strokes ∈ TT := TTin 787 (by decide +kernel) (by decide +kernel)
theorem wd_788 : Cond.selects RX6 yX6_strokes yX6_strokes ∈ TT := TTin 788 (by decide +kernel) (by decide +kernel)
theorem wd_789 : Cond.code yX6_strokes cX6_strokes 7 (some .int) ∈ TT := TTin 789 (by decide +kernel) (by decide +kernel)
theorem wd_790 : Cond.methodLink RL 73 yX6_mended ∈ TT := TTin 790 (by decide +kernel) (by decide +kernel)
theorem wd_791 : Cond.instanceMethod yX6_mended ∈ TT := TTin 791 (by decide +kernel) (by decide +kernel)
theorem wd_792 : Cond.selects RX6 yX6_mended yX6_mended ∈ TT := TTin 792 (by decide +kernel) (by decide +kernel)
theorem wd_793 : Cond.code yX6_mended cX6_mended 12 (some .int) ∈ TT := TTin 793 (by decide +kernel) (by decide +kernel)
theorem wd_794 : Cond.methodLink RL 78 yX6_pays ∈ TT := TTin 794 (by decide +kernel) (by decide +kernel)
theorem wd_795 : Cond.instanceMethod yX6_pays ∈ TT := TTin 795 (by decide +kernel) (by decide +kernel)
theorem wd_796 : Cond.selects RX6 yX6_pays yX6_pays ∈ TT := TTin 796 (by decide +kernel) (by decide +kernel)
theorem wd_797 : Cond.code yX6_pays cX6_pays 11 (some .long) ∈ TT := TTin 797 (by decide +kernel) (by decide +kernel)
theorem wd_798 : Cond.constantLong RX6 145 (-1000000000000000002) ∈ TT := TTin 798 (by decide +kernel) (by decide +kernel)
theorem wd_799 : Cond.constantLong RX6 147 (2520) ∈ TT := TTin 799 (by decide +kernel) (by decide +kernel)
theorem wd_800 : Cond.methodLink RX6 149 yX6_lowest ∈ TT := TTin 800 (by decide +kernel) (by decide +kernel)
theorem wd_801 : Cond.static yX6_lowest ∈ TT := TTin 801 (by decide +kernel) (by decide +kernel)
theorem wd_802 : Cond.code yX6_lowest cX6_lowest 11 (some .long) ∈ TT := TTin 802 (by decide +kernel) (by decide +kernel)
theorem wd_803 : Cond.methodLink RL 83 yX6_seen ∈ TT := TTin 803 (by decide +kernel) (by decide +kernel)
theorem wd_804 : Cond.instanceMethod yX6_seen ∈ TT := TTin 804 (by decide +kernel) (by decide +kernel)
theorem wd_805 : Cond.selects RX6 yX6_seen yX6_seen ∈ TT := TTin 805 (by decide +kernel) (by decide +kernel)
theorem wd_806 : Cond.code yX6_seen cX6_seen 4 (some .int) ∈ TT := TTin 806 (by decide +kernel) (by decide +kernel)
theorem wd_807 : Cond.methodLink RL 87 yX6_forget ∈ TT := TTin 807 (by decide +kernel) (by decide +kernel)
theorem wd_808 : Cond.instanceMethod yX6_forget ∈ TT := TTin 808 (by decide +kernel) (by decide +kernel)
theorem wd_809 : Cond.selects RX6 yX6_forget yX6_forget ∈ TT := TTin 809 (by decide +kernel) (by decide +kernel)
theorem wd_810 : Cond.code yX6_forget cX6_forget 2 (some .int) ∈ TT := TTin 810 (by decide +kernel) (by decide +kernel)
theorem wd_811 : Cond.methodLink RL 91 yX6_who ∈ TT := TTin 811 (by decide +kernel) (by decide +kernel)
theorem wd_812 : Cond.instanceMethod yX6_who ∈ TT := TTin 812 (by decide +kernel) (by decide +kernel)
theorem wd_813 : Cond.selects RX6 yX6_who yX6_who ∈ TT := TTin 813 (by decide +kernel) (by decide +kernel)
theorem wd_814 : Cond.code yX6_who cX6_who 4 (some .int) ∈ TT := TTin 814 (by decide +kernel) (by decide +kernel)
theorem wd_815 : Cond.methodLink RX6 160 yX6_isFit ∈ TT := TTin 815 (by decide +kernel) (by decide +kernel)
theorem wd_817 : Cond.instanceMethod yX6_isFit ∈ TT := TTin 817 (by decide +kernel) (by decide +kernel)
theorem wd_818 : Cond.code yX6_isFit cX6_isFit 4 (some .boolean) ∈ TT := TTin 818 (by decide +kernel) (by decide +kernel)
theorem wd_819 : Cond.methodLink RX6 156 yX6_tellOf ∈ TT := TTin 819 (by decide +kernel) (by decide +kernel)
theorem wd_820 : Cond.static yX6_tellOf ∈ TT := TTin 820 (by decide +kernel) (by decide +kernel)
theorem wd_821 : Cond.code yX6_tellOf cX6_tellOf 5 (some .int) ∈ TT := TTin 821 (by decide +kernel) (by decide +kernel)
theorem wd_822 : Cond.methodLink RL 95 yX6_ask ∈ TT := TTin 822 (by decide +kernel) (by decide +kernel)
theorem wd_823 : Cond.instanceMethod yX6_ask ∈ TT := TTin 823 (by decide +kernel) (by decide +kernel)
theorem wd_824 : Cond.selects RX6 yX6_ask yX6_ask ∈ TT := TTin 824 (by decide +kernel) (by decide +kernel)
theorem wd_825 : Cond.code yX6_ask cX6_ask 9 (some .int) ∈ TT := TTin 825 (by decide +kernel) (by decide +kernel)
theorem wd_826 : Cond.methodLink RL 99 yX6_tacks ∈ TT := TTin 826 (by decide +kernel) (by decide +kernel)
theorem wd_827 : Cond.instanceMethod yX6_tacks ∈ TT := TTin 827 (by decide +kernel) (by decide +kernel)
theorem wd_828 : Cond.selects RX6 yX6_tacks yX6_tacks ∈ TT := TTin 828 (by decide +kernel) (by decide +kernel)
theorem wd_829 : Cond.code yX6_tacks cX6_tacks 7 (some .int) ∈ TT := TTin 829 (by decide +kernel) (by decide +kernel)
theorem wd_830 : Cond.methodLink RL 104 yX6_wet ∈ TT := TTin 830 (by decide +kernel) (by decide +kernel)
theorem wd_831 : Cond.instanceMethod yX6_wet ∈ TT := TTin 831 (by decide +kernel) (by decide +kernel)
theorem wd_832 : Cond.selects RX6 yX6_wet yX6_wet ∈ TT := TTin 832 (by decide +kernel) (by decide +kernel)
theorem wd_833 : Cond.code yX6_wet cX6_wet 11 (some .long) ∈ TT := TTin 833 (by decide +kernel) (by decide +kernel)
theorem wd_834 : Cond.constantLong RX6 163 (10) ∈ TT := TTin 834 (by decide +kernel) (by decide +kernel)
theorem wd_835 : Cond.methodLink RL 108 yX6_year ∈ TT := TTin 835 (by decide +kernel) (by decide +kernel)
theorem wd_836 : Cond.instanceMethod yX6_year ∈ TT := TTin 836 (by decide +kernel) (by decide +kernel)
theorem wd_837 : Cond.selects RX6 yX6_year yX6_year ∈ TT := TTin 837 (by decide +kernel) (by decide +kernel)
theorem wd_838 : Cond.code yX6_year cX6_year 8 (some .int) ∈ TT := TTin 838 (by decide +kernel) (by decide +kernel)
theorem wd_839 : Cond.constant RX6 165 (65537) ∈ TT := TTin 839 (by decide +kernel) (by decide +kernel)
theorem wd_840 : Cond.methodLink RL 112 yX6_image ∈ TT := TTin 840 (by decide +kernel) (by decide +kernel)
theorem wd_841 : Cond.instanceMethod yX6_image ∈ TT := TTin 841 (by decide +kernel) (by decide +kernel)
theorem wd_842 : Cond.selects RX6 yX6_image yX6_image ∈ TT := TTin 842 (by decide +kernel) (by decide +kernel)
theorem wd_843 : Cond.code yX6_image cX6_image 4 (some .int) ∈ TT := TTin 843 (by decide +kernel) (by decide +kernel)
theorem wd_844 : Cond.methodLink RL 116 yX6_restore ∈ TT := TTin 844 (by decide +kernel) (by decide +kernel)
theorem wd_845 : Cond.instanceMethod yX6_restore ∈ TT := TTin 845 (by decide +kernel) (by decide +kernel)
theorem wd_846 : Cond.selects RX6 yX6_restore yX6_restore ∈ TT := TTin 846 (by decide +kernel) (by decide +kernel)
theorem wd_847 : Cond.code yX6_restore cX6_restore 4 (some .int) ∈ TT := TTin 847 (by decide +kernel) (by decide +kernel)
theorem wd_848 : Cond.methodLink RL 120 yX6_told ∈ TT := TTin 848 (by decide +kernel) (by decide +kernel)
theorem wd_849 : Cond.instanceMethod yX6_told ∈ TT := TTin 849 (by decide +kernel) (by decide +kernel)
theorem wd_850 : Cond.selects RX6 yX6_told yX6_told ∈ TT := TTin 850 (by decide +kernel) (by decide +kernel)
theorem wd_851 : Cond.code yX6_told cX6_told 3 (some .int) ∈ TT := TTin 851 (by decide +kernel) (by decide +kernel)
end
section
theorem dJ6_bitCount_0f7a4_0 : decode cJ6_bitCount_0f7a4 0 = .ok (.iload_n 0, 1) := by decide +kernel
theorem dJ6_bitCount_0f7a4_1 : decode cJ6_bitCount_0f7a4 1 = .ok (.iload_n 0, 1) := by decide +kernel
theorem dJ6_bitCount_0f7a4_2 : decode cJ6_bitCount_0f7a4 2 = .ok (.iconst 1, 1) := by decide +kernel
theorem dJ6_bitCount_0f7a4_3 : decode cJ6_bitCount_0f7a4 3 = .ok (.iushr, 1) := by decide +kernel
theorem dJ6_bitCount_0f7a4_4 : decode cJ6_bitCount_0f7a4 4 = .ok (.ldc_w 265, 3) := by decide +kernel
theorem dJ6_bitCount_0f7a4_7 : decode cJ6_bitCount_0f7a4 7 = .ok (.iand, 1) := by decide +kernel
theorem dJ6_bitCount_0f7a4_8 : decode cJ6_bitCount_0f7a4 8 = .ok (.isub, 1) := by decide +kernel
theorem dJ6_bitCount_0f7a4_9 : decode cJ6_bitCount_0f7a4 9 = .ok (.istore_n 0, 1) := by decide +kernel
theorem dJ6_bitCount_0f7a4_10 : decode cJ6_bitCount_0f7a4 10 = .ok (.iload_n 0, 1) := by decide +kernel
theorem dJ6_bitCount_0f7a4_11 : decode cJ6_bitCount_0f7a4 11 = .ok (.ldc_w 266, 3) := by decide +kernel
theorem dJ6_bitCount_0f7a4_14 : decode cJ6_bitCount_0f7a4 14 = .ok (.iand, 1) := by decide +kernel
theorem dJ6_bitCount_0f7a4_15 : decode cJ6_bitCount_0f7a4 15 = .ok (.iload_n 0, 1) := by decide +kernel
theorem dJ6_bitCount_0f7a4_16 : decode cJ6_bitCount_0f7a4 16 = .ok (.iconst 2, 1) := by decide +kernel
theorem dJ6_bitCount_0f7a4_17 : decode cJ6_bitCount_0f7a4 17 = .ok (.iushr, 1) := by decide +kernel
theorem dJ6_bitCount_0f7a4_18 : decode cJ6_bitCount_0f7a4 18 = .ok (.ldc_w 266, 3) := by decide +kernel
theorem dJ6_bitCount_0f7a4_21 : decode cJ6_bitCount_0f7a4 21 = .ok (.iand, 1) := by decide +kernel
theorem dJ6_bitCount_0f7a4_22 : decode cJ6_bitCount_0f7a4 22 = .ok (.iadd, 1) := by decide +kernel
theorem dJ6_bitCount_0f7a4_23 : decode cJ6_bitCount_0f7a4 23 = .ok (.istore_n 0, 1) := by decide +kernel
theorem dJ6_bitCount_0f7a4_24 : decode cJ6_bitCount_0f7a4 24 = .ok (.iload_n 0, 1) := by decide +kernel
theorem dJ6_bitCount_0f7a4_25 : decode cJ6_bitCount_0f7a4 25 = .ok (.iload_n 0, 1) := by decide +kernel
theorem dJ6_bitCount_0f7a4_26 : decode cJ6_bitCount_0f7a4 26 = .ok (.iconst 4, 1) := by decide +kernel
theorem dJ6_bitCount_0f7a4_27 : decode cJ6_bitCount_0f7a4 27 = .ok (.iushr, 1) := by decide +kernel
theorem dJ6_bitCount_0f7a4_28 : decode cJ6_bitCount_0f7a4 28 = .ok (.iadd, 1) := by decide +kernel
theorem dJ6_bitCount_0f7a4_29 : decode cJ6_bitCount_0f7a4 29 = .ok (.ldc_w 267, 3) := by decide +kernel
theorem dJ6_bitCount_0f7a4_32 : decode cJ6_bitCount_0f7a4 32 = .ok (.iand, 1) := by decide +kernel
theorem dJ6_bitCount_0f7a4_33 : decode cJ6_bitCount_0f7a4 33 = .ok (.istore_n 0, 1) := by decide +kernel
theorem dJ6_bitCount_0f7a4_34 : decode cJ6_bitCount_0f7a4 34 = .ok (.iload_n 0, 1) := by decide +kernel
theorem dJ6_bitCount_0f7a4_35 : decode cJ6_bitCount_0f7a4 35 = .ok (.iload_n 0, 1) := by decide +kernel
theorem dJ6_bitCount_0f7a4_36 : decode cJ6_bitCount_0f7a4 36 = .ok (.bipush 8, 2) := by decide +kernel
theorem dJ6_bitCount_0f7a4_38 : decode cJ6_bitCount_0f7a4 38 = .ok (.iushr, 1) := by decide +kernel
theorem dJ6_bitCount_0f7a4_39 : decode cJ6_bitCount_0f7a4 39 = .ok (.iadd, 1) := by decide +kernel
theorem dJ6_bitCount_0f7a4_40 : decode cJ6_bitCount_0f7a4 40 = .ok (.istore_n 0, 1) := by decide +kernel
theorem dJ6_bitCount_0f7a4_41 : decode cJ6_bitCount_0f7a4 41 = .ok (.iload_n 0, 1) := by decide +kernel
theorem dJ6_bitCount_0f7a4_42 : decode cJ6_bitCount_0f7a4 42 = .ok (.iload_n 0, 1) := by decide +kernel
theorem dJ6_bitCount_0f7a4_43 : decode cJ6_bitCount_0f7a4 43 = .ok (.bipush 16, 2) := by decide +kernel
theorem dJ6_bitCount_0f7a4_45 : decode cJ6_bitCount_0f7a4 45 = .ok (.iushr, 1) := by decide +kernel
theorem dJ6_bitCount_0f7a4_46 : decode cJ6_bitCount_0f7a4 46 = .ok (.iadd, 1) := by decide +kernel
theorem dJ6_bitCount_0f7a4_47 : decode cJ6_bitCount_0f7a4 47 = .ok (.istore_n 0, 1) := by decide +kernel
theorem dJ6_bitCount_0f7a4_48 : decode cJ6_bitCount_0f7a4 48 = .ok (.iload_n 0, 1) := by decide +kernel
theorem dJ6_bitCount_0f7a4_49 : decode cJ6_bitCount_0f7a4 49 = .ok (.bipush 63, 2) := by decide +kernel
theorem dJ6_bitCount_0f7a4_51 : decode cJ6_bitCount_0f7a4 51 = .ok (.iand, 1) := by decide +kernel
theorem dJ6_bitCount_0f7a4_52 : decode cJ6_bitCount_0f7a4 52 = .ok (.ireturn, 1) := by decide +kernel
theorem dJ7_fill_53178_0 : decode cJ7_fill_53178 0 = .ok (.iconst 0, 1) := by decide +kernel
theorem dJ7_fill_53178_1 : decode cJ7_fill_53178 1 = .ok (.istore_n 2, 1) := by decide +kernel
theorem dJ7_fill_53178_2 : decode cJ7_fill_53178 2 = .ok (.aload_n 0, 1) := by decide +kernel
theorem dJ7_fill_53178_3 : decode cJ7_fill_53178 3 = .ok (.arraylength, 1) := by decide +kernel
theorem dJ7_fill_53178_4 : decode cJ7_fill_53178 4 = .ok (.istore_n 3, 1) := by decide +kernel
theorem dJ7_fill_53178_5 : decode cJ7_fill_53178 5 = .ok (.iload_n 2, 1) := by decide +kernel
theorem dJ7_fill_53178_6 : decode cJ7_fill_53178 6 = .ok (.iload_n 3, 1) := by decide +kernel
theorem dJ7_fill_53178_7 : decode cJ7_fill_53178 7 = .ok (.if_icmp .ge 13, 3) := by decide +kernel
theorem dJ7_fill_53178_10 : decode cJ7_fill_53178 10 = .ok (.aload_n 0, 1) := by decide +kernel
theorem dJ7_fill_53178_11 : decode cJ7_fill_53178 11 = .ok (.iload_n 2, 1) := by decide +kernel
theorem dJ7_fill_53178_12 : decode cJ7_fill_53178 12 = .ok (.iload_n 1, 1) := by decide +kernel
theorem dJ7_fill_53178_13 : decode cJ7_fill_53178 13 = .ok (.iastore, 1) := by decide +kernel
theorem dJ7_fill_53178_14 : decode cJ7_fill_53178 14 = .ok (.iinc 2 1, 3) := by decide +kernel
theorem dJ7_fill_53178_17 : decode cJ7_fill_53178 17 = .ok (.goto (-12), 3) := by decide +kernel
theorem dJ7_fill_53178_20 : decode cJ7_fill_53178 20 = .ok (.return_, 1) := by decide +kernel
theorem dJ7_fill_d0a16_0 : decode cJ7_fill_d0a16 0 = .ok (.iconst 0, 1) := by decide +kernel
theorem dJ7_fill_d0a16_1 : decode cJ7_fill_d0a16 1 = .ok (.istore_n 3, 1) := by decide +kernel
theorem dJ7_fill_d0a16_2 : decode cJ7_fill_d0a16 2 = .ok (.aload_n 0, 1) := by decide +kernel
theorem dJ7_fill_d0a16_3 : decode cJ7_fill_d0a16 3 = .ok (.arraylength, 1) := by decide +kernel
theorem dJ7_fill_d0a16_4 : decode cJ7_fill_d0a16 4 = .ok (.istore 4, 2) := by decide +kernel
theorem dJ7_fill_d0a16_6 : decode cJ7_fill_d0a16 6 = .ok (.iload_n 3, 1) := by decide +kernel
theorem dJ7_fill_d0a16_7 : decode cJ7_fill_d0a16 7 = .ok (.iload 4, 2) := by decide +kernel
theorem dJ7_fill_d0a16_9 : decode cJ7_fill_d0a16 9 = .ok (.if_icmp .ge 13, 3) := by decide +kernel
theorem dJ7_fill_d0a16_12 : decode cJ7_fill_d0a16 12 = .ok (.aload_n 0, 1) := by decide +kernel
theorem dJ7_fill_d0a16_13 : decode cJ7_fill_d0a16 13 = .ok (.iload_n 3, 1) := by decide +kernel
theorem dJ7_fill_d0a16_14 : decode cJ7_fill_d0a16 14 = .ok (.lload_n 1, 1) := by decide +kernel
theorem dJ7_fill_d0a16_15 : decode cJ7_fill_d0a16 15 = .ok (.lastore, 1) := by decide +kernel
theorem dJ7_fill_d0a16_16 : decode cJ7_fill_d0a16 16 = .ok (.iinc 3 1, 3) := by decide +kernel
theorem dJ7_fill_d0a16_19 : decode cJ7_fill_d0a16 19 = .ok (.goto (-13), 3) := by decide +kernel
theorem dJ7_fill_d0a16_22 : decode cJ7_fill_d0a16 22 = .ok (.return_, 1) := by decide +kernel
theorem dJ9_max_7cf53_0 : decode cJ9_max_7cf53 0 = .ok (.iload_n 0, 1) := by decide +kernel
theorem dJ9_max_7cf53_1 : decode cJ9_max_7cf53 1 = .ok (.iload_n 1, 1) := by decide +kernel
theorem dJ9_max_7cf53_2 : decode cJ9_max_7cf53 2 = .ok (.if_icmp .lt 7, 3) := by decide +kernel
theorem dJ9_max_7cf53_5 : decode cJ9_max_7cf53 5 = .ok (.iload_n 0, 1) := by decide +kernel
theorem dJ9_max_7cf53_6 : decode cJ9_max_7cf53 6 = .ok (.goto 4, 3) := by decide +kernel
theorem dJ9_max_7cf53_9 : decode cJ9_max_7cf53 9 = .ok (.iload_n 1, 1) := by decide +kernel
theorem dJ9_max_7cf53_10 : decode cJ9_max_7cf53 10 = .ok (.ireturn, 1) := by decide +kernel
theorem dJ9_min_7cf53_0 : decode cJ9_min_7cf53 0 = .ok (.iload_n 0, 1) := by decide +kernel
theorem dJ9_min_7cf53_1 : decode cJ9_min_7cf53 1 = .ok (.iload_n 1, 1) := by decide +kernel
theorem dJ9_min_7cf53_2 : decode cJ9_min_7cf53 2 = .ok (.if_icmp .gt 7, 3) := by decide +kernel
theorem dJ9_min_7cf53_5 : decode cJ9_min_7cf53 5 = .ok (.iload_n 0, 1) := by decide +kernel
theorem dJ9_min_7cf53_6 : decode cJ9_min_7cf53 6 = .ok (.goto 4, 3) := by decide +kernel
theorem dJ9_min_7cf53_9 : decode cJ9_min_7cf53 9 = .ok (.iload_n 1, 1) := by decide +kernel
theorem dJ9_min_7cf53_10 : decode cJ9_min_7cf53 10 = .ok (.ireturn, 1) := by decide +kernel
theorem dL_law_0 : decode cL_law 0 = .ok (.new 7, 3) := by decide +kernel
theorem dL_law_3 : decode cL_law 3 = .ok (.dup, 1) := by decide +kernel
theorem dL_law_4 : decode cL_law 4 = .ok (.invokespecial 9, 3) := by decide +kernel
theorem dL_law_7 : decode cL_law 7 = .ok (.astore_n 1, 1) := by decide +kernel
theorem dL_law_8 : decode cL_law 8 = .ok (.new 10, 3) := by decide +kernel
theorem dL_law_11 : decode cL_law 11 = .ok (.dup, 1) := by decide +kernel
theorem dL_law_12 : decode cL_law 12 = .ok (.invokespecial 12, 3) := by decide +kernel
theorem dL_law_15 : decode cL_law 15 = .ok (.astore_n 2, 1) := by decide +kernel
theorem dL_law_16 : decode cL_law 16 = .ok (.iconst 0, 1) := by decide +kernel
theorem dL_law_17 : decode cL_law 17 = .ok (.istore_n 3, 1) := by decide +kernel
theorem dL_law_18 : decode cL_law 18 = .ok (.iload_n 3, 1) := by decide +kernel
theorem dL_law_19 : decode cL_law 19 = .ok (.aload_n 0, 1) := by decide +kernel
theorem dL_law_20 : decode cL_law 20 = .ok (.arraylength, 1) := by decide +kernel
theorem dL_law_21 : decode cL_law 21 = .ok (.bipush 6, 2) := by decide +kernel
theorem dL_law_23 : decode cL_law 23 = .ok (.isub, 1) := by decide +kernel
theorem dL_law_24 : decode cL_law 24 = .ok (.if_icmp .gt 919, 3) := by decide +kernel
theorem dL_law_27 : decode cL_law 27 = .ok (.aload_n 0, 1) := by decide +kernel
theorem dL_law_28 : decode cL_law 28 = .ok (.iload_n 3, 1) := by decide +kernel
theorem dL_law_29 : decode cL_law 29 = .ok (.iaload, 1) := by decide +kernel
theorem dL_law_30 : decode cL_law 30 = .ok (.bipush 31, 2) := by decide +kernel
theorem dL_law_32 : decode cL_law 32 = .ok (.iand, 1) := by decide +kernel
theorem dL_law_33 : decode cL_law 33 = .ok (.tableswitch 904 0 24 #[115, 158, 217, 240, 253, 266, 289, 302, 335, 368, 391, 434, 457, 470, 513, 567, 626, 639, 662, 685, 728, 792, 835, 858, 881], 115) := by decide +kernel
theorem dL_law_148 : decode cL_law 148 = .ok (.aload_n 1, 1) := by decide +kernel
theorem dL_law_149 : decode cL_law 149 = .ok (.aload_n 0, 1) := by decide +kernel
theorem dL_law_150 : decode cL_law 150 = .ok (.iload_n 3, 1) := by decide +kernel
theorem dL_law_151 : decode cL_law 151 = .ok (.iconst 1, 1) := by decide +kernel
theorem dL_law_152 : decode cL_law 152 = .ok (.iadd, 1) := by decide +kernel
theorem dL_law_153 : decode cL_law 153 = .ok (.iaload, 1) := by decide +kernel
theorem dL_law_154 : decode cL_law 154 = .ok (.aload_n 0, 1) := by decide +kernel
theorem dL_law_155 : decode cL_law 155 = .ok (.iload_n 3, 1) := by decide +kernel
theorem dL_law_156 : decode cL_law 156 = .ok (.iconst 2, 1) := by decide +kernel
theorem dL_law_157 : decode cL_law 157 = .ok (.iadd, 1) := by decide +kernel
theorem dL_law_158 : decode cL_law 158 = .ok (.iaload, 1) := by decide +kernel
theorem dL_law_159 : decode cL_law 159 = .ok (.aload_n 0, 1) := by decide +kernel
theorem dL_law_160 : decode cL_law 160 = .ok (.iload_n 3, 1) := by decide +kernel
theorem dL_law_161 : decode cL_law 161 = .ok (.iconst 3, 1) := by decide +kernel
theorem dL_law_162 : decode cL_law 162 = .ok (.iadd, 1) := by decide +kernel
theorem dL_law_163 : decode cL_law 163 = .ok (.iaload, 1) := by decide +kernel
theorem dL_law_164 : decode cL_law 164 = .ok (.invokevirtual 13, 3) := by decide +kernel
theorem dL_law_167 : decode cL_law 167 = .ok (.aload_n 2, 1) := by decide +kernel
theorem dL_law_168 : decode cL_law 168 = .ok (.aload_n 0, 1) := by decide +kernel
theorem dL_law_169 : decode cL_law 169 = .ok (.iload_n 3, 1) := by decide +kernel
theorem dL_law_170 : decode cL_law 170 = .ok (.iconst 1, 1) := by decide +kernel
theorem dL_law_171 : decode cL_law 171 = .ok (.iadd, 1) := by decide +kernel
theorem dL_law_172 : decode cL_law 172 = .ok (.iaload, 1) := by decide +kernel
theorem dL_law_173 : decode cL_law 173 = .ok (.aload_n 0, 1) := by decide +kernel
theorem dL_law_174 : decode cL_law 174 = .ok (.iload_n 3, 1) := by decide +kernel
theorem dL_law_175 : decode cL_law 175 = .ok (.iconst 2, 1) := by decide +kernel
theorem dL_law_176 : decode cL_law 176 = .ok (.iadd, 1) := by decide +kernel
theorem dL_law_177 : decode cL_law 177 = .ok (.iaload, 1) := by decide +kernel
theorem dL_law_178 : decode cL_law 178 = .ok (.aload_n 0, 1) := by decide +kernel
theorem dL_law_179 : decode cL_law 179 = .ok (.iload_n 3, 1) := by decide +kernel
theorem dL_law_180 : decode cL_law 180 = .ok (.iconst 3, 1) := by decide +kernel
theorem dL_law_181 : decode cL_law 181 = .ok (.iadd, 1) := by decide +kernel
theorem dL_law_182 : decode cL_law 182 = .ok (.iaload, 1) := by decide +kernel
theorem dL_law_183 : decode cL_law 183 = .ok (.invokevirtual 17, 3) := by decide +kernel
theorem dL_law_186 : decode cL_law 186 = .ok (.if_icmp .eq 751, 3) := by decide +kernel
theorem dL_law_189 : decode cL_law 189 = .ok (.iconst 0, 1) := by decide +kernel
theorem dL_law_190 : decode cL_law 190 = .ok (.ireturn, 1) := by decide +kernel
theorem dL_law_191 : decode cL_law 191 = .ok (.aload_n 1, 1) := by decide +kernel
theorem dL_law_192 : decode cL_law 192 = .ok (.aload_n 0, 1) := by decide +kernel
theorem dL_law_193 : decode cL_law 193 = .ok (.iload_n 3, 1) := by decide +kernel
theorem dL_law_194 : decode cL_law 194 = .ok (.iconst 1, 1) := by decide +kernel
theorem dL_law_195 : decode cL_law 195 = .ok (.iadd, 1) := by decide +kernel
theorem dL_law_196 : decode cL_law 196 = .ok (.iaload, 1) := by decide +kernel
theorem dL_law_197 : decode cL_law 197 = .ok (.aload_n 0, 1) := by decide +kernel
theorem dL_law_198 : decode cL_law 198 = .ok (.iload_n 3, 1) := by decide +kernel
theorem dL_law_199 : decode cL_law 199 = .ok (.iconst 2, 1) := by decide +kernel
theorem dL_law_200 : decode cL_law 200 = .ok (.iadd, 1) := by decide +kernel
theorem dL_law_201 : decode cL_law 201 = .ok (.iaload, 1) := by decide +kernel
theorem dL_law_202 : decode cL_law 202 = .ok (.aload_n 0, 1) := by decide +kernel
theorem dL_law_203 : decode cL_law 203 = .ok (.iload_n 3, 1) := by decide +kernel
theorem dL_law_204 : decode cL_law 204 = .ok (.iconst 3, 1) := by decide +kernel
theorem dL_law_205 : decode cL_law 205 = .ok (.iadd, 1) := by decide +kernel
theorem dL_law_206 : decode cL_law 206 = .ok (.iaload, 1) := by decide +kernel
theorem dL_law_207 : decode cL_law 207 = .ok (.ifCond .eq 7, 3) := by decide +kernel
theorem dL_law_210 : decode cL_law 210 = .ok (.iconst 1, 1) := by decide +kernel
theorem dL_law_211 : decode cL_law 211 = .ok (.goto 4, 3) := by decide +kernel
theorem dL_law_214 : decode cL_law 214 = .ok (.iconst 0, 1) := by decide +kernel
theorem dL_law_215 : decode cL_law 215 = .ok (.invokevirtual 18, 3) := by decide +kernel
theorem dL_law_218 : decode cL_law 218 = .ok (.aload_n 2, 1) := by decide +kernel
theorem dL_law_219 : decode cL_law 219 = .ok (.aload_n 0, 1) := by decide +kernel
theorem dL_law_220 : decode cL_law 220 = .ok (.iload_n 3, 1) := by decide +kernel
theorem dL_law_221 : decode cL_law 221 = .ok (.iconst 1, 1) := by decide +kernel
theorem dL_law_222 : decode cL_law 222 = .ok (.iadd, 1) := by decide +kernel
theorem dL_law_223 : decode cL_law 223 = .ok (.iaload, 1) := by decide +kernel
theorem dL_law_224 : decode cL_law 224 = .ok (.aload_n 0, 1) := by decide +kernel
theorem dL_law_225 : decode cL_law 225 = .ok (.iload_n 3, 1) := by decide +kernel
theorem dL_law_226 : decode cL_law 226 = .ok (.iconst 2, 1) := by decide +kernel
theorem dL_law_227 : decode cL_law 227 = .ok (.iadd, 1) := by decide +kernel
theorem dL_law_228 : decode cL_law 228 = .ok (.iaload, 1) := by decide +kernel
theorem dL_law_229 : decode cL_law 229 = .ok (.aload_n 0, 1) := by decide +kernel
theorem dL_law_230 : decode cL_law 230 = .ok (.iload_n 3, 1) := by decide +kernel
theorem dL_law_231 : decode cL_law 231 = .ok (.iconst 3, 1) := by decide +kernel
theorem dL_law_232 : decode cL_law 232 = .ok (.iadd, 1) := by decide +kernel
theorem dL_law_233 : decode cL_law 233 = .ok (.iaload, 1) := by decide +kernel
theorem dL_law_234 : decode cL_law 234 = .ok (.ifCond .eq 7, 3) := by decide +kernel
theorem dL_law_237 : decode cL_law 237 = .ok (.iconst 1, 1) := by decide +kernel
theorem dL_law_238 : decode cL_law 238 = .ok (.goto 4, 3) := by decide +kernel
theorem dL_law_241 : decode cL_law 241 = .ok (.iconst 0, 1) := by decide +kernel
theorem dL_law_242 : decode cL_law 242 = .ok (.invokevirtual 22, 3) := by decide +kernel
theorem dL_law_245 : decode cL_law 245 = .ok (.if_icmp .eq 692, 3) := by decide +kernel
theorem dL_law_248 : decode cL_law 248 = .ok (.iconst 0, 1) := by decide +kernel
theorem dL_law_249 : decode cL_law 249 = .ok (.ireturn, 1) := by decide +kernel
theorem dL_law_250 : decode cL_law 250 = .ok (.aload_n 1, 1) := by decide +kernel
theorem dL_law_251 : decode cL_law 251 = .ok (.aload_n 0, 1) := by decide +kernel
theorem dL_law_252 : decode cL_law 252 = .ok (.iload_n 3, 1) := by decide +kernel
theorem dL_law_253 : decode cL_law 253 = .ok (.iconst 1, 1) := by decide +kernel
theorem dL_law_254 : decode cL_law 254 = .ok (.iadd, 1) := by decide +kernel
theorem dL_law_255 : decode cL_law 255 = .ok (.iaload, 1) := by decide +kernel
theorem dL_law_256 : decode cL_law 256 = .ok (.invokevirtual 23, 3) := by decide +kernel
theorem dL_law_259 : decode cL_law 259 = .ok (.aload_n 2, 1) := by decide +kernel
theorem dL_law_260 : decode cL_law 260 = .ok (.aload_n 0, 1) := by decide +kernel
theorem dL_law_261 : decode cL_law 261 = .ok (.iload_n 3, 1) := by decide +kernel
theorem dL_law_262 : decode cL_law 262 = .ok (.iconst 1, 1) := by decide +kernel
theorem dL_law_263 : decode cL_law 263 = .ok (.iadd, 1) := by decide +kernel
theorem dL_law_264 : decode cL_law 264 = .ok (.iaload, 1) := by decide +kernel
theorem dL_law_265 : decode cL_law 265 = .ok (.invokevirtual 27, 3) := by decide +kernel
theorem dL_law_268 : decode cL_law 268 = .ok (.if_icmp .eq 669, 3) := by decide +kernel
theorem dL_law_271 : decode cL_law 271 = .ok (.iconst 0, 1) := by decide +kernel
theorem dL_law_272 : decode cL_law 272 = .ok (.ireturn, 1) := by decide +kernel
theorem dL_law_273 : decode cL_law 273 = .ok (.aload_n 1, 1) := by decide +kernel
theorem dL_law_274 : decode cL_law 274 = .ok (.invokevirtual 28, 3) := by decide +kernel
theorem dL_law_277 : decode cL_law 277 = .ok (.aload_n 2, 1) := by decide +kernel
theorem dL_law_278 : decode cL_law 278 = .ok (.invokevirtual 32, 3) := by decide +kernel
theorem dL_law_281 : decode cL_law 281 = .ok (.if_icmp .eq 656, 3) := by decide +kernel
theorem dL_law_284 : decode cL_law 284 = .ok (.iconst 0, 1) := by decide +kernel
theorem dL_law_285 : decode cL_law 285 = .ok (.ireturn, 1) := by decide +kernel
theorem dL_law_286 : decode cL_law 286 = .ok (.aload_n 1, 1) := by decide +kernel
theorem dL_law_287 : decode cL_law 287 = .ok (.invokevirtual 33, 3) := by decide +kernel
theorem dL_law_290 : decode cL_law 290 = .ok (.aload_n 2, 1) := by decide +kernel
theorem dL_law_291 : decode cL_law 291 = .ok (.invokevirtual 36, 3) := by decide +kernel
theorem dL_law_294 : decode cL_law 294 = .ok (.if_icmp .eq 643, 3) := by decide +kernel
theorem dL_law_297 : decode cL_law 297 = .ok (.iconst 0, 1) := by decide +kernel
theorem dL_law_298 : decode cL_law 298 = .ok (.ireturn, 1) := by decide +kernel
theorem dL_law_299 : decode cL_law 299 = .ok (.aload_n 1, 1) := by decide +kernel
theorem dL_law_300 : decode cL_law 300 = .ok (.aload_n 0, 1) := by decide +kernel
theorem dL_law_301 : decode cL_law 301 = .ok (.iload_n 3, 1) := by decide +kernel
theorem dL_law_302 : decode cL_law 302 = .ok (.iconst 1, 1) := by decide +kernel
theorem dL_law_303 : decode cL_law 303 = .ok (.iadd, 1) := by decide +kernel
theorem dL_law_304 : decode cL_law 304 = .ok (.iaload, 1) := by decide +kernel
theorem dL_law_305 : decode cL_law 305 = .ok (.invokevirtual 37, 3) := by decide +kernel
theorem dL_law_308 : decode cL_law 308 = .ok (.aload_n 2, 1) := by decide +kernel
theorem dL_law_309 : decode cL_law 309 = .ok (.aload_n 0, 1) := by decide +kernel
theorem dL_law_310 : decode cL_law 310 = .ok (.iload_n 3, 1) := by decide +kernel
theorem dL_law_311 : decode cL_law 311 = .ok (.iconst 1, 1) := by decide +kernel
theorem dL_law_312 : decode cL_law 312 = .ok (.iadd, 1) := by decide +kernel
theorem dL_law_313 : decode cL_law 313 = .ok (.iaload, 1) := by decide +kernel
theorem dL_law_314 : decode cL_law 314 = .ok (.invokevirtual 40, 3) := by decide +kernel
theorem dL_law_317 : decode cL_law 317 = .ok (.if_icmp .eq 620, 3) := by decide +kernel
theorem dL_law_320 : decode cL_law 320 = .ok (.iconst 0, 1) := by decide +kernel
theorem dL_law_321 : decode cL_law 321 = .ok (.ireturn, 1) := by decide +kernel
theorem dL_law_322 : decode cL_law 322 = .ok (.aload_n 1, 1) := by decide +kernel
theorem dL_law_323 : decode cL_law 323 = .ok (.invokevirtual 41, 3) := by decide +kernel
theorem dL_law_326 : decode cL_law 326 = .ok (.aload_n 2, 1) := by decide +kernel
theorem dL_law_327 : decode cL_law 327 = .ok (.invokevirtual 44, 3) := by decide +kernel
theorem dL_law_330 : decode cL_law 330 = .ok (.if_icmp .eq 607, 3) := by decide +kernel
theorem dL_law_333 : decode cL_law 333 = .ok (.iconst 0, 1) := by decide +kernel
theorem dL_law_334 : decode cL_law 334 = .ok (.ireturn, 1) := by decide +kernel
theorem dL_law_335 : decode cL_law 335 = .ok (.aload_n 1, 1) := by decide +kernel
theorem dL_law_336 : decode cL_law 336 = .ok (.aload_n 0, 1) := by decide +kernel
theorem dL_law_337 : decode cL_law 337 = .ok (.iload_n 3, 1) := by decide +kernel
theorem dL_law_338 : decode cL_law 338 = .ok (.iconst 1, 1) := by decide +kernel
theorem dL_law_339 : decode cL_law 339 = .ok (.iadd, 1) := by decide +kernel
theorem dL_law_340 : decode cL_law 340 = .ok (.iaload, 1) := by decide +kernel
theorem dL_law_341 : decode cL_law 341 = .ok (.aload_n 0, 1) := by decide +kernel
theorem dL_law_342 : decode cL_law 342 = .ok (.iload_n 3, 1) := by decide +kernel
theorem dL_law_343 : decode cL_law 343 = .ok (.iconst 2, 1) := by decide +kernel
theorem dL_law_344 : decode cL_law 344 = .ok (.iadd, 1) := by decide +kernel
theorem dL_law_345 : decode cL_law 345 = .ok (.iaload, 1) := by decide +kernel
theorem dL_law_346 : decode cL_law 346 = .ok (.invokevirtual 45, 3) := by decide +kernel
theorem dL_law_349 : decode cL_law 349 = .ok (.aload_n 2, 1) := by decide +kernel
theorem dL_law_350 : decode cL_law 350 = .ok (.aload_n 0, 1) := by decide +kernel
theorem dL_law_351 : decode cL_law 351 = .ok (.iload_n 3, 1) := by decide +kernel
theorem dL_law_352 : decode cL_law 352 = .ok (.iconst 1, 1) := by decide +kernel
theorem dL_law_353 : decode cL_law 353 = .ok (.iadd, 1) := by decide +kernel
theorem dL_law_354 : decode cL_law 354 = .ok (.iaload, 1) := by decide +kernel
theorem dL_law_355 : decode cL_law 355 = .ok (.aload_n 0, 1) := by decide +kernel
theorem dL_law_356 : decode cL_law 356 = .ok (.iload_n 3, 1) := by decide +kernel
theorem dL_law_357 : decode cL_law 357 = .ok (.iconst 2, 1) := by decide +kernel
theorem dL_law_358 : decode cL_law 358 = .ok (.iadd, 1) := by decide +kernel
theorem dL_law_359 : decode cL_law 359 = .ok (.iaload, 1) := by decide +kernel
theorem dL_law_360 : decode cL_law 360 = .ok (.invokevirtual 49, 3) := by decide +kernel
theorem dL_law_363 : decode cL_law 363 = .ok (.if_icmp .eq 574, 3) := by decide +kernel
theorem dL_law_366 : decode cL_law 366 = .ok (.iconst 0, 1) := by decide +kernel
theorem dL_law_367 : decode cL_law 367 = .ok (.ireturn, 1) := by decide +kernel
theorem dL_law_368 : decode cL_law 368 = .ok (.aload_n 1, 1) := by decide +kernel
theorem dL_law_369 : decode cL_law 369 = .ok (.aload_n 0, 1) := by decide +kernel
theorem dL_law_370 : decode cL_law 370 = .ok (.iload_n 3, 1) := by decide +kernel
theorem dL_law_371 : decode cL_law 371 = .ok (.iconst 1, 1) := by decide +kernel
theorem dL_law_372 : decode cL_law 372 = .ok (.iadd, 1) := by decide +kernel
theorem dL_law_373 : decode cL_law 373 = .ok (.iaload, 1) := by decide +kernel
theorem dL_law_374 : decode cL_law 374 = .ok (.aload_n 0, 1) := by decide +kernel
theorem dL_law_375 : decode cL_law 375 = .ok (.iload_n 3, 1) := by decide +kernel
theorem dL_law_376 : decode cL_law 376 = .ok (.iconst 2, 1) := by decide +kernel
theorem dL_law_377 : decode cL_law 377 = .ok (.iadd, 1) := by decide +kernel
theorem dL_law_378 : decode cL_law 378 = .ok (.iaload, 1) := by decide +kernel
theorem dL_law_379 : decode cL_law 379 = .ok (.invokevirtual 50, 3) := by decide +kernel
theorem dL_law_382 : decode cL_law 382 = .ok (.aload_n 2, 1) := by decide +kernel
theorem dL_law_383 : decode cL_law 383 = .ok (.aload_n 0, 1) := by decide +kernel
theorem dL_law_384 : decode cL_law 384 = .ok (.iload_n 3, 1) := by decide +kernel
theorem dL_law_385 : decode cL_law 385 = .ok (.iconst 1, 1) := by decide +kernel
theorem dL_law_386 : decode cL_law 386 = .ok (.iadd, 1) := by decide +kernel
theorem dL_law_387 : decode cL_law 387 = .ok (.iaload, 1) := by decide +kernel
theorem dL_law_388 : decode cL_law 388 = .ok (.aload_n 0, 1) := by decide +kernel
theorem dL_law_389 : decode cL_law 389 = .ok (.iload_n 3, 1) := by decide +kernel
theorem dL_law_390 : decode cL_law 390 = .ok (.iconst 2, 1) := by decide +kernel
theorem dL_law_391 : decode cL_law 391 = .ok (.iadd, 1) := by decide +kernel
theorem dL_law_392 : decode cL_law 392 = .ok (.iaload, 1) := by decide +kernel
theorem dL_law_393 : decode cL_law 393 = .ok (.invokevirtual 53, 3) := by decide +kernel
theorem dL_law_396 : decode cL_law 396 = .ok (.if_icmp .eq 541, 3) := by decide +kernel
theorem dL_law_399 : decode cL_law 399 = .ok (.iconst 0, 1) := by decide +kernel
theorem dL_law_400 : decode cL_law 400 = .ok (.ireturn, 1) := by decide +kernel
theorem dL_law_401 : decode cL_law 401 = .ok (.aload_n 1, 1) := by decide +kernel
theorem dL_law_402 : decode cL_law 402 = .ok (.aload_n 0, 1) := by decide +kernel
theorem dL_law_403 : decode cL_law 403 = .ok (.iload_n 3, 1) := by decide +kernel
theorem dL_law_404 : decode cL_law 404 = .ok (.iconst 1, 1) := by decide +kernel
theorem dL_law_405 : decode cL_law 405 = .ok (.iadd, 1) := by decide +kernel
theorem dL_law_406 : decode cL_law 406 = .ok (.iaload, 1) := by decide +kernel
theorem dL_law_407 : decode cL_law 407 = .ok (.invokevirtual 54, 3) := by decide +kernel
theorem dL_law_410 : decode cL_law 410 = .ok (.aload_n 2, 1) := by decide +kernel
theorem dL_law_411 : decode cL_law 411 = .ok (.aload_n 0, 1) := by decide +kernel
theorem dL_law_412 : decode cL_law 412 = .ok (.iload_n 3, 1) := by decide +kernel
theorem dL_law_413 : decode cL_law 413 = .ok (.iconst 1, 1) := by decide +kernel
theorem dL_law_414 : decode cL_law 414 = .ok (.iadd, 1) := by decide +kernel
theorem dL_law_415 : decode cL_law 415 = .ok (.iaload, 1) := by decide +kernel
theorem dL_law_416 : decode cL_law 416 = .ok (.invokevirtual 57, 3) := by decide +kernel
theorem dL_law_419 : decode cL_law 419 = .ok (.if_icmp .eq 518, 3) := by decide +kernel
theorem dL_law_422 : decode cL_law 422 = .ok (.iconst 0, 1) := by decide +kernel
theorem dL_law_423 : decode cL_law 423 = .ok (.ireturn, 1) := by decide +kernel
theorem dL_law_424 : decode cL_law 424 = .ok (.aload_n 1, 1) := by decide +kernel
theorem dL_law_425 : decode cL_law 425 = .ok (.aload_n 0, 1) := by decide +kernel
theorem dL_law_426 : decode cL_law 426 = .ok (.iload_n 3, 1) := by decide +kernel
theorem dL_law_427 : decode cL_law 427 = .ok (.iconst 1, 1) := by decide +kernel
theorem dL_law_428 : decode cL_law 428 = .ok (.iadd, 1) := by decide +kernel
theorem dL_law_429 : decode cL_law 429 = .ok (.iaload, 1) := by decide +kernel
theorem dL_law_430 : decode cL_law 430 = .ok (.aload_n 0, 1) := by decide +kernel
theorem dL_law_431 : decode cL_law 431 = .ok (.iload_n 3, 1) := by decide +kernel
theorem dL_law_432 : decode cL_law 432 = .ok (.iconst 2, 1) := by decide +kernel
theorem dL_law_433 : decode cL_law 433 = .ok (.iadd, 1) := by decide +kernel
theorem dL_law_434 : decode cL_law 434 = .ok (.iaload, 1) := by decide +kernel
theorem dL_law_435 : decode cL_law 435 = .ok (.aload_n 0, 1) := by decide +kernel
theorem dL_law_436 : decode cL_law 436 = .ok (.iload_n 3, 1) := by decide +kernel
theorem dL_law_437 : decode cL_law 437 = .ok (.iconst 3, 1) := by decide +kernel
theorem dL_law_438 : decode cL_law 438 = .ok (.iadd, 1) := by decide +kernel
theorem dL_law_439 : decode cL_law 439 = .ok (.iaload, 1) := by decide +kernel
theorem dL_law_440 : decode cL_law 440 = .ok (.invokevirtual 58, 3) := by decide +kernel
theorem dL_law_443 : decode cL_law 443 = .ok (.aload_n 2, 1) := by decide +kernel
theorem dL_law_444 : decode cL_law 444 = .ok (.aload_n 0, 1) := by decide +kernel
theorem dL_law_445 : decode cL_law 445 = .ok (.iload_n 3, 1) := by decide +kernel
theorem dL_law_446 : decode cL_law 446 = .ok (.iconst 1, 1) := by decide +kernel
theorem dL_law_447 : decode cL_law 447 = .ok (.iadd, 1) := by decide +kernel
theorem dL_law_448 : decode cL_law 448 = .ok (.iaload, 1) := by decide +kernel
theorem dL_law_449 : decode cL_law 449 = .ok (.aload_n 0, 1) := by decide +kernel
theorem dL_law_450 : decode cL_law 450 = .ok (.iload_n 3, 1) := by decide +kernel
theorem dL_law_451 : decode cL_law 451 = .ok (.iconst 2, 1) := by decide +kernel
theorem dL_law_452 : decode cL_law 452 = .ok (.iadd, 1) := by decide +kernel
theorem dL_law_453 : decode cL_law 453 = .ok (.iaload, 1) := by decide +kernel
theorem dL_law_454 : decode cL_law 454 = .ok (.aload_n 0, 1) := by decide +kernel
theorem dL_law_455 : decode cL_law 455 = .ok (.iload_n 3, 1) := by decide +kernel
theorem dL_law_456 : decode cL_law 456 = .ok (.iconst 3, 1) := by decide +kernel
theorem dL_law_457 : decode cL_law 457 = .ok (.iadd, 1) := by decide +kernel
theorem dL_law_458 : decode cL_law 458 = .ok (.iaload, 1) := by decide +kernel
theorem dL_law_459 : decode cL_law 459 = .ok (.invokevirtual 61, 3) := by decide +kernel
theorem dL_law_462 : decode cL_law 462 = .ok (.if_icmp .eq 475, 3) := by decide +kernel
theorem dL_law_465 : decode cL_law 465 = .ok (.iconst 0, 1) := by decide +kernel
theorem dL_law_466 : decode cL_law 466 = .ok (.ireturn, 1) := by decide +kernel
theorem dL_law_467 : decode cL_law 467 = .ok (.aload_n 1, 1) := by decide +kernel
theorem dL_law_468 : decode cL_law 468 = .ok (.aload_n 0, 1) := by decide +kernel
theorem dL_law_469 : decode cL_law 469 = .ok (.iload_n 3, 1) := by decide +kernel
theorem dL_law_470 : decode cL_law 470 = .ok (.iconst 1, 1) := by decide +kernel
theorem dL_law_471 : decode cL_law 471 = .ok (.iadd, 1) := by decide +kernel
theorem dL_law_472 : decode cL_law 472 = .ok (.iaload, 1) := by decide +kernel
theorem dL_law_473 : decode cL_law 473 = .ok (.invokevirtual 62, 3) := by decide +kernel
theorem dL_law_476 : decode cL_law 476 = .ok (.aload_n 2, 1) := by decide +kernel
theorem dL_law_477 : decode cL_law 477 = .ok (.aload_n 0, 1) := by decide +kernel
theorem dL_law_478 : decode cL_law 478 = .ok (.iload_n 3, 1) := by decide +kernel
theorem dL_law_479 : decode cL_law 479 = .ok (.iconst 1, 1) := by decide +kernel
theorem dL_law_480 : decode cL_law 480 = .ok (.iadd, 1) := by decide +kernel
theorem dL_law_481 : decode cL_law 481 = .ok (.iaload, 1) := by decide +kernel
theorem dL_law_482 : decode cL_law 482 = .ok (.invokevirtual 65, 3) := by decide +kernel
theorem dL_law_485 : decode cL_law 485 = .ok (.if_icmp .eq 452, 3) := by decide +kernel
theorem dL_law_488 : decode cL_law 488 = .ok (.iconst 0, 1) := by decide +kernel
theorem dL_law_489 : decode cL_law 489 = .ok (.ireturn, 1) := by decide +kernel
theorem dL_law_490 : decode cL_law 490 = .ok (.aload_n 1, 1) := by decide +kernel
theorem dL_law_491 : decode cL_law 491 = .ok (.invokevirtual 66, 3) := by decide +kernel
theorem dL_law_494 : decode cL_law 494 = .ok (.aload_n 2, 1) := by decide +kernel
theorem dL_law_495 : decode cL_law 495 = .ok (.invokevirtual 69, 3) := by decide +kernel
theorem dL_law_498 : decode cL_law 498 = .ok (.if_icmp .eq 439, 3) := by decide +kernel
theorem dL_law_501 : decode cL_law 501 = .ok (.iconst 0, 1) := by decide +kernel
theorem dL_law_502 : decode cL_law 502 = .ok (.ireturn, 1) := by decide +kernel
theorem dL_law_503 : decode cL_law 503 = .ok (.aload_n 1, 1) := by decide +kernel
theorem dL_law_504 : decode cL_law 504 = .ok (.aload_n 0, 1) := by decide +kernel
theorem dL_law_505 : decode cL_law 505 = .ok (.iload_n 3, 1) := by decide +kernel
theorem dL_law_506 : decode cL_law 506 = .ok (.iconst 1, 1) := by decide +kernel
theorem dL_law_507 : decode cL_law 507 = .ok (.iadd, 1) := by decide +kernel
theorem dL_law_508 : decode cL_law 508 = .ok (.iaload, 1) := by decide +kernel
theorem dL_law_509 : decode cL_law 509 = .ok (.aload_n 0, 1) := by decide +kernel
theorem dL_law_510 : decode cL_law 510 = .ok (.iload_n 3, 1) := by decide +kernel
theorem dL_law_511 : decode cL_law 511 = .ok (.iconst 2, 1) := by decide +kernel
theorem dL_law_512 : decode cL_law 512 = .ok (.iadd, 1) := by decide +kernel
theorem dL_law_513 : decode cL_law 513 = .ok (.iaload, 1) := by decide +kernel
theorem dL_law_514 : decode cL_law 514 = .ok (.aload_n 0, 1) := by decide +kernel
theorem dL_law_515 : decode cL_law 515 = .ok (.iload_n 3, 1) := by decide +kernel
theorem dL_law_516 : decode cL_law 516 = .ok (.iconst 3, 1) := by decide +kernel
theorem dL_law_517 : decode cL_law 517 = .ok (.iadd, 1) := by decide +kernel
theorem dL_law_518 : decode cL_law 518 = .ok (.iaload, 1) := by decide +kernel
theorem dL_law_519 : decode cL_law 519 = .ok (.invokevirtual 70, 3) := by decide +kernel
theorem dL_law_522 : decode cL_law 522 = .ok (.aload_n 2, 1) := by decide +kernel
theorem dL_law_523 : decode cL_law 523 = .ok (.aload_n 0, 1) := by decide +kernel
theorem dL_law_524 : decode cL_law 524 = .ok (.iload_n 3, 1) := by decide +kernel
theorem dL_law_525 : decode cL_law 525 = .ok (.iconst 1, 1) := by decide +kernel
theorem dL_law_526 : decode cL_law 526 = .ok (.iadd, 1) := by decide +kernel
theorem dL_law_527 : decode cL_law 527 = .ok (.iaload, 1) := by decide +kernel
theorem dL_law_528 : decode cL_law 528 = .ok (.aload_n 0, 1) := by decide +kernel
theorem dL_law_529 : decode cL_law 529 = .ok (.iload_n 3, 1) := by decide +kernel
theorem dL_law_530 : decode cL_law 530 = .ok (.iconst 2, 1) := by decide +kernel
theorem dL_law_531 : decode cL_law 531 = .ok (.iadd, 1) := by decide +kernel
theorem dL_law_532 : decode cL_law 532 = .ok (.iaload, 1) := by decide +kernel
theorem dL_law_533 : decode cL_law 533 = .ok (.aload_n 0, 1) := by decide +kernel
theorem dL_law_534 : decode cL_law 534 = .ok (.iload_n 3, 1) := by decide +kernel
theorem dL_law_535 : decode cL_law 535 = .ok (.iconst 3, 1) := by decide +kernel
theorem dL_law_536 : decode cL_law 536 = .ok (.iadd, 1) := by decide +kernel
theorem dL_law_537 : decode cL_law 537 = .ok (.iaload, 1) := by decide +kernel
theorem dL_law_538 : decode cL_law 538 = .ok (.invokevirtual 73, 3) := by decide +kernel
theorem dL_law_541 : decode cL_law 541 = .ok (.if_icmp .eq 396, 3) := by decide +kernel
theorem dL_law_544 : decode cL_law 544 = .ok (.iconst 0, 1) := by decide +kernel
theorem dL_law_545 : decode cL_law 545 = .ok (.ireturn, 1) := by decide +kernel
theorem dL_law_546 : decode cL_law 546 = .ok (.aload_n 1, 1) := by decide +kernel
theorem dL_law_547 : decode cL_law 547 = .ok (.aload_n 0, 1) := by decide +kernel
theorem dL_law_548 : decode cL_law 548 = .ok (.iload_n 3, 1) := by decide +kernel
theorem dL_law_549 : decode cL_law 549 = .ok (.iconst 1, 1) := by decide +kernel
theorem dL_law_550 : decode cL_law 550 = .ok (.iadd, 1) := by decide +kernel
theorem dL_law_551 : decode cL_law 551 = .ok (.iaload, 1) := by decide +kernel
theorem dL_law_552 : decode cL_law 552 = .ok (.aload_n 0, 1) := by decide +kernel
theorem dL_law_553 : decode cL_law 553 = .ok (.iload_n 3, 1) := by decide +kernel
theorem dL_law_554 : decode cL_law 554 = .ok (.iconst 2, 1) := by decide +kernel
theorem dL_law_555 : decode cL_law 555 = .ok (.iadd, 1) := by decide +kernel
theorem dL_law_556 : decode cL_law 556 = .ok (.iaload, 1) := by decide +kernel
theorem dL_law_557 : decode cL_law 557 = .ok (.aload_n 0, 1) := by decide +kernel
theorem dL_law_558 : decode cL_law 558 = .ok (.iload_n 3, 1) := by decide +kernel
theorem dL_law_559 : decode cL_law 559 = .ok (.iconst 3, 1) := by decide +kernel
theorem dL_law_560 : decode cL_law 560 = .ok (.iadd, 1) := by decide +kernel
theorem dL_law_561 : decode cL_law 561 = .ok (.iaload, 1) := by decide +kernel
theorem dL_law_562 : decode cL_law 562 = .ok (.aload_n 0, 1) := by decide +kernel
theorem dL_law_563 : decode cL_law 563 = .ok (.iload_n 3, 1) := by decide +kernel
theorem dL_law_564 : decode cL_law 564 = .ok (.iconst 4, 1) := by decide +kernel
theorem dL_law_565 : decode cL_law 565 = .ok (.iadd, 1) := by decide +kernel
theorem dL_law_566 : decode cL_law 566 = .ok (.iaload, 1) := by decide +kernel
theorem dL_law_567 : decode cL_law 567 = .ok (.invokevirtual 74, 3) := by decide +kernel
theorem dL_law_570 : decode cL_law 570 = .ok (.aload_n 2, 1) := by decide +kernel
theorem dL_law_571 : decode cL_law 571 = .ok (.aload_n 0, 1) := by decide +kernel
theorem dL_law_572 : decode cL_law 572 = .ok (.iload_n 3, 1) := by decide +kernel
theorem dL_law_573 : decode cL_law 573 = .ok (.iconst 1, 1) := by decide +kernel
theorem dL_law_574 : decode cL_law 574 = .ok (.iadd, 1) := by decide +kernel
theorem dL_law_575 : decode cL_law 575 = .ok (.iaload, 1) := by decide +kernel
theorem dL_law_576 : decode cL_law 576 = .ok (.aload_n 0, 1) := by decide +kernel
theorem dL_law_577 : decode cL_law 577 = .ok (.iload_n 3, 1) := by decide +kernel
theorem dL_law_578 : decode cL_law 578 = .ok (.iconst 2, 1) := by decide +kernel
theorem dL_law_579 : decode cL_law 579 = .ok (.iadd, 1) := by decide +kernel
theorem dL_law_580 : decode cL_law 580 = .ok (.iaload, 1) := by decide +kernel
theorem dL_law_581 : decode cL_law 581 = .ok (.aload_n 0, 1) := by decide +kernel
theorem dL_law_582 : decode cL_law 582 = .ok (.iload_n 3, 1) := by decide +kernel
theorem dL_law_583 : decode cL_law 583 = .ok (.iconst 3, 1) := by decide +kernel
theorem dL_law_584 : decode cL_law 584 = .ok (.iadd, 1) := by decide +kernel
theorem dL_law_585 : decode cL_law 585 = .ok (.iaload, 1) := by decide +kernel
theorem dL_law_586 : decode cL_law 586 = .ok (.aload_n 0, 1) := by decide +kernel
theorem dL_law_587 : decode cL_law 587 = .ok (.iload_n 3, 1) := by decide +kernel
theorem dL_law_588 : decode cL_law 588 = .ok (.iconst 4, 1) := by decide +kernel
theorem dL_law_589 : decode cL_law 589 = .ok (.iadd, 1) := by decide +kernel
theorem dL_law_590 : decode cL_law 590 = .ok (.iaload, 1) := by decide +kernel
theorem dL_law_591 : decode cL_law 591 = .ok (.invokevirtual 78, 3) := by decide +kernel
theorem dL_law_594 : decode cL_law 594 = .ok (.lcmp, 1) := by decide +kernel
theorem dL_law_595 : decode cL_law 595 = .ok (.ifCond .eq 342, 3) := by decide +kernel
theorem dL_law_598 : decode cL_law 598 = .ok (.iconst 0, 1) := by decide +kernel
theorem dL_law_599 : decode cL_law 599 = .ok (.ireturn, 1) := by decide +kernel
theorem dL_law_600 : decode cL_law 600 = .ok (.aload_n 1, 1) := by decide +kernel
theorem dL_law_601 : decode cL_law 601 = .ok (.aload_n 0, 1) := by decide +kernel
theorem dL_law_602 : decode cL_law 602 = .ok (.iload_n 3, 1) := by decide +kernel
theorem dL_law_603 : decode cL_law 603 = .ok (.iconst 1, 1) := by decide +kernel
theorem dL_law_604 : decode cL_law 604 = .ok (.iadd, 1) := by decide +kernel
theorem dL_law_605 : decode cL_law 605 = .ok (.iaload, 1) := by decide +kernel
theorem dL_law_606 : decode cL_law 606 = .ok (.ifCond .eq 7, 3) := by decide +kernel
theorem dL_law_609 : decode cL_law 609 = .ok (.iconst 1, 1) := by decide +kernel
theorem dL_law_610 : decode cL_law 610 = .ok (.goto 4, 3) := by decide +kernel
theorem dL_law_613 : decode cL_law 613 = .ok (.iconst 0, 1) := by decide +kernel
theorem dL_law_614 : decode cL_law 614 = .ok (.aload_n 0, 1) := by decide +kernel
theorem dL_law_615 : decode cL_law 615 = .ok (.iload_n 3, 1) := by decide +kernel
theorem dL_law_616 : decode cL_law 616 = .ok (.iconst 2, 1) := by decide +kernel
theorem dL_law_617 : decode cL_law 617 = .ok (.iadd, 1) := by decide +kernel
theorem dL_law_618 : decode cL_law 618 = .ok (.iaload, 1) := by decide +kernel
theorem dL_law_619 : decode cL_law 619 = .ok (.aload_n 0, 1) := by decide +kernel
theorem dL_law_620 : decode cL_law 620 = .ok (.iload_n 3, 1) := by decide +kernel
theorem dL_law_621 : decode cL_law 621 = .ok (.iconst 3, 1) := by decide +kernel
theorem dL_law_622 : decode cL_law 622 = .ok (.iadd, 1) := by decide +kernel
theorem dL_law_623 : decode cL_law 623 = .ok (.iaload, 1) := by decide +kernel
theorem dL_law_624 : decode cL_law 624 = .ok (.invokevirtual 79, 3) := by decide +kernel
theorem dL_law_627 : decode cL_law 627 = .ok (.aload_n 2, 1) := by decide +kernel
theorem dL_law_628 : decode cL_law 628 = .ok (.aload_n 0, 1) := by decide +kernel
theorem dL_law_629 : decode cL_law 629 = .ok (.iload_n 3, 1) := by decide +kernel
theorem dL_law_630 : decode cL_law 630 = .ok (.iconst 1, 1) := by decide +kernel
theorem dL_law_631 : decode cL_law 631 = .ok (.iadd, 1) := by decide +kernel
theorem dL_law_632 : decode cL_law 632 = .ok (.iaload, 1) := by decide +kernel
theorem dL_law_633 : decode cL_law 633 = .ok (.ifCond .eq 7, 3) := by decide +kernel
theorem dL_law_636 : decode cL_law 636 = .ok (.iconst 1, 1) := by decide +kernel
theorem dL_law_637 : decode cL_law 637 = .ok (.goto 4, 3) := by decide +kernel
theorem dL_law_640 : decode cL_law 640 = .ok (.iconst 0, 1) := by decide +kernel
theorem dL_law_641 : decode cL_law 641 = .ok (.aload_n 0, 1) := by decide +kernel
theorem dL_law_642 : decode cL_law 642 = .ok (.iload_n 3, 1) := by decide +kernel
theorem dL_law_643 : decode cL_law 643 = .ok (.iconst 2, 1) := by decide +kernel
theorem dL_law_644 : decode cL_law 644 = .ok (.iadd, 1) := by decide +kernel
theorem dL_law_645 : decode cL_law 645 = .ok (.iaload, 1) := by decide +kernel
theorem dL_law_646 : decode cL_law 646 = .ok (.aload_n 0, 1) := by decide +kernel
theorem dL_law_647 : decode cL_law 647 = .ok (.iload_n 3, 1) := by decide +kernel
theorem dL_law_648 : decode cL_law 648 = .ok (.iconst 3, 1) := by decide +kernel
theorem dL_law_649 : decode cL_law 649 = .ok (.iadd, 1) := by decide +kernel
theorem dL_law_650 : decode cL_law 650 = .ok (.iaload, 1) := by decide +kernel
theorem dL_law_651 : decode cL_law 651 = .ok (.invokevirtual 83, 3) := by decide +kernel
theorem dL_law_654 : decode cL_law 654 = .ok (.if_icmp .eq 283, 3) := by decide +kernel
theorem dL_law_657 : decode cL_law 657 = .ok (.iconst 0, 1) := by decide +kernel
theorem dL_law_658 : decode cL_law 658 = .ok (.ireturn, 1) := by decide +kernel
theorem dL_law_659 : decode cL_law 659 = .ok (.aload_n 1, 1) := by decide +kernel
theorem dL_law_660 : decode cL_law 660 = .ok (.invokevirtual 84, 3) := by decide +kernel
theorem dL_law_663 : decode cL_law 663 = .ok (.aload_n 2, 1) := by decide +kernel
theorem dL_law_664 : decode cL_law 664 = .ok (.invokevirtual 87, 3) := by decide +kernel
theorem dL_law_667 : decode cL_law 667 = .ok (.if_icmp .eq 270, 3) := by decide +kernel
theorem dL_law_670 : decode cL_law 670 = .ok (.iconst 0, 1) := by decide +kernel
theorem dL_law_671 : decode cL_law 671 = .ok (.ireturn, 1) := by decide +kernel
theorem dL_law_672 : decode cL_law 672 = .ok (.aload_n 1, 1) := by decide +kernel
theorem dL_law_673 : decode cL_law 673 = .ok (.aload_n 0, 1) := by decide +kernel
theorem dL_law_674 : decode cL_law 674 = .ok (.iload_n 3, 1) := by decide +kernel
theorem dL_law_675 : decode cL_law 675 = .ok (.iconst 1, 1) := by decide +kernel
theorem dL_law_676 : decode cL_law 676 = .ok (.iadd, 1) := by decide +kernel
theorem dL_law_677 : decode cL_law 677 = .ok (.iaload, 1) := by decide +kernel
theorem dL_law_678 : decode cL_law 678 = .ok (.invokevirtual 88, 3) := by decide +kernel
theorem dL_law_681 : decode cL_law 681 = .ok (.aload_n 2, 1) := by decide +kernel
theorem dL_law_682 : decode cL_law 682 = .ok (.aload_n 0, 1) := by decide +kernel
theorem dL_law_683 : decode cL_law 683 = .ok (.iload_n 3, 1) := by decide +kernel
theorem dL_law_684 : decode cL_law 684 = .ok (.iconst 1, 1) := by decide +kernel
theorem dL_law_685 : decode cL_law 685 = .ok (.iadd, 1) := by decide +kernel
theorem dL_law_686 : decode cL_law 686 = .ok (.iaload, 1) := by decide +kernel
theorem dL_law_687 : decode cL_law 687 = .ok (.invokevirtual 91, 3) := by decide +kernel
theorem dL_law_690 : decode cL_law 690 = .ok (.if_icmp .eq 247, 3) := by decide +kernel
theorem dL_law_693 : decode cL_law 693 = .ok (.iconst 0, 1) := by decide +kernel
theorem dL_law_694 : decode cL_law 694 = .ok (.ireturn, 1) := by decide +kernel
theorem dL_law_695 : decode cL_law 695 = .ok (.aload_n 1, 1) := by decide +kernel
theorem dL_law_696 : decode cL_law 696 = .ok (.aload_n 0, 1) := by decide +kernel
theorem dL_law_697 : decode cL_law 697 = .ok (.iload_n 3, 1) := by decide +kernel
theorem dL_law_698 : decode cL_law 698 = .ok (.iconst 1, 1) := by decide +kernel
theorem dL_law_699 : decode cL_law 699 = .ok (.iadd, 1) := by decide +kernel
theorem dL_law_700 : decode cL_law 700 = .ok (.iaload, 1) := by decide +kernel
theorem dL_law_701 : decode cL_law 701 = .ok (.invokevirtual 92, 3) := by decide +kernel
theorem dL_law_704 : decode cL_law 704 = .ok (.aload_n 2, 1) := by decide +kernel
theorem dL_law_705 : decode cL_law 705 = .ok (.aload_n 0, 1) := by decide +kernel
theorem dL_law_706 : decode cL_law 706 = .ok (.iload_n 3, 1) := by decide +kernel
theorem dL_law_707 : decode cL_law 707 = .ok (.iconst 1, 1) := by decide +kernel
theorem dL_law_708 : decode cL_law 708 = .ok (.iadd, 1) := by decide +kernel
theorem dL_law_709 : decode cL_law 709 = .ok (.iaload, 1) := by decide +kernel
theorem dL_law_710 : decode cL_law 710 = .ok (.invokevirtual 95, 3) := by decide +kernel
theorem dL_law_713 : decode cL_law 713 = .ok (.if_icmp .eq 224, 3) := by decide +kernel
theorem dL_law_716 : decode cL_law 716 = .ok (.iconst 0, 1) := by decide +kernel
theorem dL_law_717 : decode cL_law 717 = .ok (.ireturn, 1) := by decide +kernel
theorem dL_law_718 : decode cL_law 718 = .ok (.aload_n 1, 1) := by decide +kernel
theorem dL_law_719 : decode cL_law 719 = .ok (.aload_n 0, 1) := by decide +kernel
theorem dL_law_720 : decode cL_law 720 = .ok (.iload_n 3, 1) := by decide +kernel
theorem dL_law_721 : decode cL_law 721 = .ok (.iconst 1, 1) := by decide +kernel
theorem dL_law_722 : decode cL_law 722 = .ok (.iadd, 1) := by decide +kernel
theorem dL_law_723 : decode cL_law 723 = .ok (.iaload, 1) := by decide +kernel
theorem dL_law_724 : decode cL_law 724 = .ok (.aload_n 0, 1) := by decide +kernel
theorem dL_law_725 : decode cL_law 725 = .ok (.iload_n 3, 1) := by decide +kernel
theorem dL_law_726 : decode cL_law 726 = .ok (.iconst 2, 1) := by decide +kernel
theorem dL_law_727 : decode cL_law 727 = .ok (.iadd, 1) := by decide +kernel
theorem dL_law_728 : decode cL_law 728 = .ok (.iaload, 1) := by decide +kernel
theorem dL_law_729 : decode cL_law 729 = .ok (.aload_n 0, 1) := by decide +kernel
theorem dL_law_730 : decode cL_law 730 = .ok (.iload_n 3, 1) := by decide +kernel
theorem dL_law_731 : decode cL_law 731 = .ok (.iconst 3, 1) := by decide +kernel
theorem dL_law_732 : decode cL_law 732 = .ok (.iadd, 1) := by decide +kernel
theorem dL_law_733 : decode cL_law 733 = .ok (.iaload, 1) := by decide +kernel
theorem dL_law_734 : decode cL_law 734 = .ok (.invokevirtual 96, 3) := by decide +kernel
theorem dL_law_737 : decode cL_law 737 = .ok (.aload_n 2, 1) := by decide +kernel
theorem dL_law_738 : decode cL_law 738 = .ok (.aload_n 0, 1) := by decide +kernel
theorem dL_law_739 : decode cL_law 739 = .ok (.iload_n 3, 1) := by decide +kernel
theorem dL_law_740 : decode cL_law 740 = .ok (.iconst 1, 1) := by decide +kernel
theorem dL_law_741 : decode cL_law 741 = .ok (.iadd, 1) := by decide +kernel
theorem dL_law_742 : decode cL_law 742 = .ok (.iaload, 1) := by decide +kernel
theorem dL_law_743 : decode cL_law 743 = .ok (.aload_n 0, 1) := by decide +kernel
theorem dL_law_744 : decode cL_law 744 = .ok (.iload_n 3, 1) := by decide +kernel
theorem dL_law_745 : decode cL_law 745 = .ok (.iconst 2, 1) := by decide +kernel
theorem dL_law_746 : decode cL_law 746 = .ok (.iadd, 1) := by decide +kernel
theorem dL_law_747 : decode cL_law 747 = .ok (.iaload, 1) := by decide +kernel
theorem dL_law_748 : decode cL_law 748 = .ok (.aload_n 0, 1) := by decide +kernel
theorem dL_law_749 : decode cL_law 749 = .ok (.iload_n 3, 1) := by decide +kernel
theorem dL_law_750 : decode cL_law 750 = .ok (.iconst 3, 1) := by decide +kernel
theorem dL_law_751 : decode cL_law 751 = .ok (.iadd, 1) := by decide +kernel
theorem dL_law_752 : decode cL_law 752 = .ok (.iaload, 1) := by decide +kernel
theorem dL_law_753 : decode cL_law 753 = .ok (.invokevirtual 99, 3) := by decide +kernel
theorem dL_law_756 : decode cL_law 756 = .ok (.if_icmp .eq 181, 3) := by decide +kernel
theorem dL_law_759 : decode cL_law 759 = .ok (.iconst 0, 1) := by decide +kernel
theorem dL_law_760 : decode cL_law 760 = .ok (.ireturn, 1) := by decide +kernel
theorem dL_law_761 : decode cL_law 761 = .ok (.aload_n 1, 1) := by decide +kernel
theorem dL_law_762 : decode cL_law 762 = .ok (.aload_n 0, 1) := by decide +kernel
theorem dL_law_763 : decode cL_law 763 = .ok (.iload_n 3, 1) := by decide +kernel
theorem dL_law_764 : decode cL_law 764 = .ok (.iconst 1, 1) := by decide +kernel
theorem dL_law_765 : decode cL_law 765 = .ok (.iadd, 1) := by decide +kernel
theorem dL_law_766 : decode cL_law 766 = .ok (.iaload, 1) := by decide +kernel
theorem dL_law_767 : decode cL_law 767 = .ok (.aload_n 0, 1) := by decide +kernel
theorem dL_law_768 : decode cL_law 768 = .ok (.iload_n 3, 1) := by decide +kernel
theorem dL_law_769 : decode cL_law 769 = .ok (.iconst 2, 1) := by decide +kernel
theorem dL_law_770 : decode cL_law 770 = .ok (.iadd, 1) := by decide +kernel
theorem dL_law_771 : decode cL_law 771 = .ok (.iaload, 1) := by decide +kernel
theorem dL_law_772 : decode cL_law 772 = .ok (.aload_n 0, 1) := by decide +kernel
theorem dL_law_773 : decode cL_law 773 = .ok (.iload_n 3, 1) := by decide +kernel
theorem dL_law_774 : decode cL_law 774 = .ok (.iconst 3, 1) := by decide +kernel
theorem dL_law_775 : decode cL_law 775 = .ok (.iadd, 1) := by decide +kernel
theorem dL_law_776 : decode cL_law 776 = .ok (.iaload, 1) := by decide +kernel
theorem dL_law_777 : decode cL_law 777 = .ok (.aload_n 0, 1) := by decide +kernel
theorem dL_law_778 : decode cL_law 778 = .ok (.iload_n 3, 1) := by decide +kernel
theorem dL_law_779 : decode cL_law 779 = .ok (.iconst 4, 1) := by decide +kernel
theorem dL_law_780 : decode cL_law 780 = .ok (.iadd, 1) := by decide +kernel
theorem dL_law_781 : decode cL_law 781 = .ok (.iaload, 1) := by decide +kernel
theorem dL_law_782 : decode cL_law 782 = .ok (.aload_n 0, 1) := by decide +kernel
theorem dL_law_783 : decode cL_law 783 = .ok (.iload_n 3, 1) := by decide +kernel
theorem dL_law_784 : decode cL_law 784 = .ok (.iconst 5, 1) := by decide +kernel
theorem dL_law_785 : decode cL_law 785 = .ok (.iadd, 1) := by decide +kernel
theorem dL_law_786 : decode cL_law 786 = .ok (.iaload, 1) := by decide +kernel
theorem dL_law_787 : decode cL_law 787 = .ok (.invokevirtual 100, 3) := by decide +kernel
theorem dL_law_790 : decode cL_law 790 = .ok (.aload_n 2, 1) := by decide +kernel
theorem dL_law_791 : decode cL_law 791 = .ok (.aload_n 0, 1) := by decide +kernel
theorem dL_law_792 : decode cL_law 792 = .ok (.iload_n 3, 1) := by decide +kernel
theorem dL_law_793 : decode cL_law 793 = .ok (.iconst 1, 1) := by decide +kernel
theorem dL_law_794 : decode cL_law 794 = .ok (.iadd, 1) := by decide +kernel
theorem dL_law_795 : decode cL_law 795 = .ok (.iaload, 1) := by decide +kernel
theorem dL_law_796 : decode cL_law 796 = .ok (.aload_n 0, 1) := by decide +kernel
theorem dL_law_797 : decode cL_law 797 = .ok (.iload_n 3, 1) := by decide +kernel
theorem dL_law_798 : decode cL_law 798 = .ok (.iconst 2, 1) := by decide +kernel
theorem dL_law_799 : decode cL_law 799 = .ok (.iadd, 1) := by decide +kernel
theorem dL_law_800 : decode cL_law 800 = .ok (.iaload, 1) := by decide +kernel
theorem dL_law_801 : decode cL_law 801 = .ok (.aload_n 0, 1) := by decide +kernel
theorem dL_law_802 : decode cL_law 802 = .ok (.iload_n 3, 1) := by decide +kernel
theorem dL_law_803 : decode cL_law 803 = .ok (.iconst 3, 1) := by decide +kernel
theorem dL_law_804 : decode cL_law 804 = .ok (.iadd, 1) := by decide +kernel
theorem dL_law_805 : decode cL_law 805 = .ok (.iaload, 1) := by decide +kernel
theorem dL_law_806 : decode cL_law 806 = .ok (.aload_n 0, 1) := by decide +kernel
theorem dL_law_807 : decode cL_law 807 = .ok (.iload_n 3, 1) := by decide +kernel
theorem dL_law_808 : decode cL_law 808 = .ok (.iconst 4, 1) := by decide +kernel
theorem dL_law_809 : decode cL_law 809 = .ok (.iadd, 1) := by decide +kernel
theorem dL_law_810 : decode cL_law 810 = .ok (.iaload, 1) := by decide +kernel
theorem dL_law_811 : decode cL_law 811 = .ok (.aload_n 0, 1) := by decide +kernel
theorem dL_law_812 : decode cL_law 812 = .ok (.iload_n 3, 1) := by decide +kernel
theorem dL_law_813 : decode cL_law 813 = .ok (.iconst 5, 1) := by decide +kernel
theorem dL_law_814 : decode cL_law 814 = .ok (.iadd, 1) := by decide +kernel
theorem dL_law_815 : decode cL_law 815 = .ok (.iaload, 1) := by decide +kernel
theorem dL_law_816 : decode cL_law 816 = .ok (.invokevirtual 104, 3) := by decide +kernel
theorem dL_law_819 : decode cL_law 819 = .ok (.lcmp, 1) := by decide +kernel
theorem dL_law_820 : decode cL_law 820 = .ok (.ifCond .eq 117, 3) := by decide +kernel
theorem dL_law_823 : decode cL_law 823 = .ok (.iconst 0, 1) := by decide +kernel
theorem dL_law_824 : decode cL_law 824 = .ok (.ireturn, 1) := by decide +kernel
theorem dL_law_825 : decode cL_law 825 = .ok (.aload_n 1, 1) := by decide +kernel
theorem dL_law_826 : decode cL_law 826 = .ok (.aload_n 0, 1) := by decide +kernel
theorem dL_law_827 : decode cL_law 827 = .ok (.iload_n 3, 1) := by decide +kernel
theorem dL_law_828 : decode cL_law 828 = .ok (.iconst 1, 1) := by decide +kernel
theorem dL_law_829 : decode cL_law 829 = .ok (.iadd, 1) := by decide +kernel
theorem dL_law_830 : decode cL_law 830 = .ok (.iaload, 1) := by decide +kernel
theorem dL_law_831 : decode cL_law 831 = .ok (.aload_n 0, 1) := by decide +kernel
theorem dL_law_832 : decode cL_law 832 = .ok (.iload_n 3, 1) := by decide +kernel
theorem dL_law_833 : decode cL_law 833 = .ok (.iconst 2, 1) := by decide +kernel
theorem dL_law_834 : decode cL_law 834 = .ok (.iadd, 1) := by decide +kernel
theorem dL_law_835 : decode cL_law 835 = .ok (.iaload, 1) := by decide +kernel
theorem dL_law_836 : decode cL_law 836 = .ok (.aload_n 0, 1) := by decide +kernel
theorem dL_law_837 : decode cL_law 837 = .ok (.iload_n 3, 1) := by decide +kernel
theorem dL_law_838 : decode cL_law 838 = .ok (.iconst 3, 1) := by decide +kernel
theorem dL_law_839 : decode cL_law 839 = .ok (.iadd, 1) := by decide +kernel
theorem dL_law_840 : decode cL_law 840 = .ok (.iaload, 1) := by decide +kernel
theorem dL_law_841 : decode cL_law 841 = .ok (.invokevirtual 105, 3) := by decide +kernel
theorem dL_law_844 : decode cL_law 844 = .ok (.aload_n 2, 1) := by decide +kernel
theorem dL_law_845 : decode cL_law 845 = .ok (.aload_n 0, 1) := by decide +kernel
theorem dL_law_846 : decode cL_law 846 = .ok (.iload_n 3, 1) := by decide +kernel
theorem dL_law_847 : decode cL_law 847 = .ok (.iconst 1, 1) := by decide +kernel
theorem dL_law_848 : decode cL_law 848 = .ok (.iadd, 1) := by decide +kernel
theorem dL_law_849 : decode cL_law 849 = .ok (.iaload, 1) := by decide +kernel
theorem dL_law_850 : decode cL_law 850 = .ok (.aload_n 0, 1) := by decide +kernel
theorem dL_law_851 : decode cL_law 851 = .ok (.iload_n 3, 1) := by decide +kernel
theorem dL_law_852 : decode cL_law 852 = .ok (.iconst 2, 1) := by decide +kernel
theorem dL_law_853 : decode cL_law 853 = .ok (.iadd, 1) := by decide +kernel
theorem dL_law_854 : decode cL_law 854 = .ok (.iaload, 1) := by decide +kernel
theorem dL_law_855 : decode cL_law 855 = .ok (.aload_n 0, 1) := by decide +kernel
theorem dL_law_856 : decode cL_law 856 = .ok (.iload_n 3, 1) := by decide +kernel
theorem dL_law_857 : decode cL_law 857 = .ok (.iconst 3, 1) := by decide +kernel
theorem dL_law_858 : decode cL_law 858 = .ok (.iadd, 1) := by decide +kernel
theorem dL_law_859 : decode cL_law 859 = .ok (.iaload, 1) := by decide +kernel
theorem dL_law_860 : decode cL_law 860 = .ok (.invokevirtual 108, 3) := by decide +kernel
theorem dL_law_863 : decode cL_law 863 = .ok (.if_icmp .eq 74, 3) := by decide +kernel
theorem dL_law_866 : decode cL_law 866 = .ok (.iconst 0, 1) := by decide +kernel
theorem dL_law_867 : decode cL_law 867 = .ok (.ireturn, 1) := by decide +kernel
theorem dL_law_868 : decode cL_law 868 = .ok (.aload_n 1, 1) := by decide +kernel
theorem dL_law_869 : decode cL_law 869 = .ok (.aload_n 0, 1) := by decide +kernel
theorem dL_law_870 : decode cL_law 870 = .ok (.iload_n 3, 1) := by decide +kernel
theorem dL_law_871 : decode cL_law 871 = .ok (.iconst 1, 1) := by decide +kernel
theorem dL_law_872 : decode cL_law 872 = .ok (.iadd, 1) := by decide +kernel
theorem dL_law_873 : decode cL_law 873 = .ok (.iaload, 1) := by decide +kernel
theorem dL_law_874 : decode cL_law 874 = .ok (.invokevirtual 109, 3) := by decide +kernel
theorem dL_law_877 : decode cL_law 877 = .ok (.aload_n 2, 1) := by decide +kernel
theorem dL_law_878 : decode cL_law 878 = .ok (.aload_n 0, 1) := by decide +kernel
theorem dL_law_879 : decode cL_law 879 = .ok (.iload_n 3, 1) := by decide +kernel
theorem dL_law_880 : decode cL_law 880 = .ok (.iconst 1, 1) := by decide +kernel
theorem dL_law_881 : decode cL_law 881 = .ok (.iadd, 1) := by decide +kernel
theorem dL_law_882 : decode cL_law 882 = .ok (.iaload, 1) := by decide +kernel
theorem dL_law_883 : decode cL_law 883 = .ok (.invokevirtual 112, 3) := by decide +kernel
theorem dL_law_886 : decode cL_law 886 = .ok (.if_icmp .eq 51, 3) := by decide +kernel
theorem dL_law_889 : decode cL_law 889 = .ok (.iconst 0, 1) := by decide +kernel
theorem dL_law_890 : decode cL_law 890 = .ok (.ireturn, 1) := by decide +kernel
theorem dL_law_891 : decode cL_law 891 = .ok (.aload_n 1, 1) := by decide +kernel
theorem dL_law_892 : decode cL_law 892 = .ok (.aload_n 0, 1) := by decide +kernel
theorem dL_law_893 : decode cL_law 893 = .ok (.iload_n 3, 1) := by decide +kernel
theorem dL_law_894 : decode cL_law 894 = .ok (.iconst 1, 1) := by decide +kernel
theorem dL_law_895 : decode cL_law 895 = .ok (.iadd, 1) := by decide +kernel
theorem dL_law_896 : decode cL_law 896 = .ok (.iaload, 1) := by decide +kernel
theorem dL_law_897 : decode cL_law 897 = .ok (.invokevirtual 113, 3) := by decide +kernel
theorem dL_law_900 : decode cL_law 900 = .ok (.aload_n 2, 1) := by decide +kernel
theorem dL_law_901 : decode cL_law 901 = .ok (.aload_n 0, 1) := by decide +kernel
theorem dL_law_902 : decode cL_law 902 = .ok (.iload_n 3, 1) := by decide +kernel
theorem dL_law_903 : decode cL_law 903 = .ok (.iconst 1, 1) := by decide +kernel
theorem dL_law_904 : decode cL_law 904 = .ok (.iadd, 1) := by decide +kernel
theorem dL_law_905 : decode cL_law 905 = .ok (.iaload, 1) := by decide +kernel
theorem dL_law_906 : decode cL_law 906 = .ok (.invokevirtual 116, 3) := by decide +kernel
theorem dL_law_909 : decode cL_law 909 = .ok (.if_icmp .eq 28, 3) := by decide +kernel
theorem dL_law_912 : decode cL_law 912 = .ok (.iconst 0, 1) := by decide +kernel
theorem dL_law_913 : decode cL_law 913 = .ok (.ireturn, 1) := by decide +kernel
theorem dL_law_914 : decode cL_law 914 = .ok (.aload_n 1, 1) := by decide +kernel
theorem dL_law_915 : decode cL_law 915 = .ok (.aload_n 0, 1) := by decide +kernel
theorem dL_law_916 : decode cL_law 916 = .ok (.iload_n 3, 1) := by decide +kernel
theorem dL_law_917 : decode cL_law 917 = .ok (.iconst 1, 1) := by decide +kernel
theorem dL_law_918 : decode cL_law 918 = .ok (.iadd, 1) := by decide +kernel
theorem dL_law_919 : decode cL_law 919 = .ok (.iaload, 1) := by decide +kernel
theorem dL_law_920 : decode cL_law 920 = .ok (.invokevirtual 117, 3) := by decide +kernel
theorem dL_law_923 : decode cL_law 923 = .ok (.aload_n 2, 1) := by decide +kernel
theorem dL_law_924 : decode cL_law 924 = .ok (.aload_n 0, 1) := by decide +kernel
theorem dL_law_925 : decode cL_law 925 = .ok (.iload_n 3, 1) := by decide +kernel
theorem dL_law_926 : decode cL_law 926 = .ok (.iconst 1, 1) := by decide +kernel
theorem dL_law_927 : decode cL_law 927 = .ok (.iadd, 1) := by decide +kernel
theorem dL_law_928 : decode cL_law 928 = .ok (.iaload, 1) := by decide +kernel
theorem dL_law_929 : decode cL_law 929 = .ok (.invokevirtual 120, 3) := by decide +kernel
theorem dL_law_932 : decode cL_law 932 = .ok (.if_icmp .eq 5, 3) := by decide +kernel
theorem dL_law_935 : decode cL_law 935 = .ok (.iconst 0, 1) := by decide +kernel
theorem dL_law_936 : decode cL_law 936 = .ok (.ireturn, 1) := by decide +kernel
theorem dL_law_937 : decode cL_law 937 = .ok (.iinc 3 6, 3) := by decide +kernel
theorem dL_law_940 : decode cL_law 940 = .ok (.goto (-922), 3) := by decide +kernel
theorem dL_law_943 : decode cL_law 943 = .ok (.iconst 1, 1) := by decide +kernel
theorem dL_law_944 : decode cL_law 944 = .ok (.ireturn, 1) := by decide +kernel
theorem dX0_init_0 : decode cX0_init 0 = .ok (.aload_n 0, 1) := by decide +kernel
theorem dX0_init_1 : decode cX0_init 1 = .ok (.invokespecial 1, 3) := by decide +kernel
theorem dX0_init_4 : decode cX0_init 4 = .ok (.aload_n 0, 1) := by decide +kernel
theorem dX0_init_5 : decode cX0_init 5 = .ok (.new 7, 3) := by decide +kernel
theorem dX0_init_8 : decode cX0_init 8 = .ok (.dup, 1) := by decide +kernel
theorem dX0_init_9 : decode cX0_init 9 = .ok (.invokespecial 9, 3) := by decide +kernel
theorem dX0_init_12 : decode cX0_init 12 = .ok (.putfield 10, 3) := by decide +kernel
theorem dX0_init_15 : decode cX0_init 15 = .ok (.aload_n 0, 1) := by decide +kernel
theorem dX0_init_16 : decode cX0_init 16 = .ok (.new 16, 3) := by decide +kernel
theorem dX0_init_19 : decode cX0_init 19 = .ok (.dup, 1) := by decide +kernel
theorem dX0_init_20 : decode cX0_init 20 = .ok (.invokespecial 18, 3) := by decide +kernel
theorem dX0_init_23 : decode cX0_init 23 = .ok (.putfield 19, 3) := by decide +kernel
theorem dX0_init_26 : decode cX0_init 26 = .ok (.aload_n 0, 1) := by decide +kernel
theorem dX0_init_27 : decode cX0_init 27 = .ok (.iconst 0, 1) := by decide +kernel
theorem dX0_init_28 : decode cX0_init 28 = .ok (.putfield 23, 3) := by decide +kernel
theorem dX0_init_31 : decode cX0_init 31 = .ok (.return_, 1) := by decide +kernel
theorem dX1_actLength_0 : decode cX1_actLength 0 = .ok (.aload_n 0, 1) := by decide +kernel
theorem dX1_actLength_1 : decode cX1_actLength 1 = .ok (.iload_n 1, 1) := by decide +kernel
theorem dX1_actLength_2 : decode cX1_actLength 2 = .ok (.invokevirtual 27, 3) := by decide +kernel
theorem dX1_actLength_5 : decode cX1_actLength 5 = .ok (.istore_n 2, 1) := by decide +kernel
theorem dX1_actLength_6 : decode cX1_actLength 6 = .ok (.iload_n 2, 1) := by decide +kernel
theorem dX1_actLength_7 : decode cX1_actLength 7 = .ok (.bipush 65, 2) := by decide +kernel
theorem dX1_actLength_9 : decode cX1_actLength 9 = .ok (.isub, 1) := by decide +kernel
theorem dX1_actLength_10 : decode cX1_actLength 10 = .ok (.invokestatic 31, 3) := by decide +kernel
theorem dX1_actLength_13 : decode cX1_actLength 13 = .ok (.ifCond .eq 5, 3) := by decide +kernel
theorem dX1_actLength_16 : decode cX1_actLength 16 = .ok (.iconst 2, 1) := by decide +kernel
theorem dX1_actLength_17 : decode cX1_actLength 17 = .ok (.ireturn, 1) := by decide +kernel
theorem dX1_actLength_18 : decode cX1_actLength 18 = .ok (.iload_n 2, 1) := by decide +kernel
theorem dX1_actLength_19 : decode cX1_actLength 19 = .ok (.bipush 109, 2) := by decide +kernel
theorem dX1_actLength_21 : decode cX1_actLength 21 = .ok (.if_icmp .ne 5, 3) := by decide +kernel
theorem dX1_actLength_24 : decode cX1_actLength 24 = .ok (.iconst 3, 1) := by decide +kernel
theorem dX1_actLength_25 : decode cX1_actLength 25 = .ok (.ireturn, 1) := by decide +kernel
theorem dX1_actLength_26 : decode cX1_actLength 26 = .ok (.iload_n 2, 1) := by decide +kernel
theorem dX1_actLength_27 : decode cX1_actLength 27 = .ok (.bipush 112, 2) := by decide +kernel
theorem dX1_actLength_29 : decode cX1_actLength 29 = .ok (.if_icmp .ne 5, 3) := by decide +kernel
theorem dX1_actLength_32 : decode cX1_actLength 32 = .ok (.iconst 5, 1) := by decide +kernel
theorem dX1_actLength_33 : decode cX1_actLength 33 = .ok (.ireturn, 1) := by decide +kernel
theorem dX1_actLength_34 : decode cX1_actLength 34 = .ok (.iload_n 2, 1) := by decide +kernel
theorem dX1_actLength_35 : decode cX1_actLength 35 = .ok (.bipush 46, 2) := by decide +kernel
theorem dX1_actLength_37 : decode cX1_actLength 37 = .ok (.if_icmp .ne 7, 3) := by decide +kernel
theorem dX1_actLength_40 : decode cX1_actLength 40 = .ok (.iconst 1, 1) := by decide +kernel
theorem dX1_actLength_41 : decode cX1_actLength 41 = .ok (.goto 4, 3) := by decide +kernel
theorem dX1_actLength_44 : decode cX1_actLength 44 = .ok (.iconst 0, 1) := by decide +kernel
theorem dX1_actLength_45 : decode cX1_actLength 45 = .ok (.ireturn, 1) := by decide +kernel
theorem dX1_add_0 : decode cX1_add 0 = .ok (.aload_n 0, 1) := by decide +kernel
theorem dX1_add_1 : decode cX1_add 1 = .ok (.getfield 15, 3) := by decide +kernel
theorem dX1_add_4 : decode cX1_add 4 = .ok (.aload_n 0, 1) := by decide +kernel
theorem dX1_add_5 : decode cX1_add 5 = .ok (.getfield 9, 3) := by decide +kernel
theorem dX1_add_8 : decode cX1_add 8 = .ok (.arraylength, 1) := by decide +kernel
theorem dX1_add_9 : decode cX1_add 9 = .ok (.if_icmp .lt 4, 3) := by decide +kernel
theorem dX1_add_12 : decode cX1_add 12 = .ok (.return_, 1) := by decide +kernel
theorem dX1_add_13 : decode cX1_add 13 = .ok (.aload_n 0, 1) := by decide +kernel
theorem dX1_add_14 : decode cX1_add 14 = .ok (.getfield 9, 3) := by decide +kernel
theorem dX1_add_17 : decode cX1_add 17 = .ok (.aload_n 0, 1) := by decide +kernel
theorem dX1_add_18 : decode cX1_add 18 = .ok (.getfield 15, 3) := by decide +kernel
theorem dX1_add_21 : decode cX1_add 21 = .ok (.iload_n 1, 1) := by decide +kernel
theorem dX1_add_22 : decode cX1_add 22 = .ok (.invokestatic 19, 3) := by decide +kernel
theorem dX1_add_25 : decode cX1_add 25 = .ok (.aload_n 0, 1) := by decide +kernel
theorem dX1_add_26 : decode cX1_add 26 = .ok (.dup, 1) := by decide +kernel
theorem dX1_add_27 : decode cX1_add 27 = .ok (.getfield 15, 3) := by decide +kernel
theorem dX1_add_30 : decode cX1_add 30 = .ok (.iconst 1, 1) := by decide +kernel
theorem dX1_add_31 : decode cX1_add 31 = .ok (.iadd, 1) := by decide +kernel
theorem dX1_add_32 : decode cX1_add 32 = .ok (.putfield 15, 3) := by decide +kernel
theorem dX1_add_35 : decode cX1_add 35 = .ok (.return_, 1) := by decide +kernel
theorem dX1_canGoOn_0 : decode cX1_canGoOn 0 = .ok (.aload_n 0, 1) := by decide +kernel
theorem dX1_canGoOn_1 : decode cX1_canGoOn 1 = .ok (.iload_n 1, 1) := by decide +kernel
theorem dX1_canGoOn_2 : decode cX1_canGoOn 2 = .ok (.invokevirtual 35, 3) := by decide +kernel
theorem dX1_canGoOn_5 : decode cX1_canGoOn 5 = .ok (.iconst 2, 1) := by decide +kernel
theorem dX1_canGoOn_6 : decode cX1_canGoOn 6 = .ok (.if_icmp .ne 7, 3) := by decide +kernel
theorem dX1_canGoOn_9 : decode cX1_canGoOn 9 = .ok (.iconst 1, 1) := by decide +kernel
theorem dX1_canGoOn_10 : decode cX1_canGoOn 10 = .ok (.goto 4, 3) := by decide +kernel
theorem dX1_canGoOn_13 : decode cX1_canGoOn 13 = .ok (.iconst 0, 1) := by decide +kernel
theorem dX1_canGoOn_14 : decode cX1_canGoOn 14 = .ok (.istore_n 3, 1) := by decide +kernel
theorem dX1_canGoOn_15 : decode cX1_canGoOn 15 = .ok (.aload_n 0, 1) := by decide +kernel
theorem dX1_canGoOn_16 : decode cX1_canGoOn 16 = .ok (.iload_n 2, 1) := by decide +kernel
theorem dX1_canGoOn_17 : decode cX1_canGoOn 17 = .ok (.invokevirtual 42, 3) := by decide +kernel
theorem dX1_canGoOn_20 : decode cX1_canGoOn 20 = .ok (.invokestatic 45, 3) := by decide +kernel
theorem dX1_canGoOn_23 : decode cX1_canGoOn 23 = .ok (.ifCond .ne 17, 3) := by decide +kernel
theorem dX1_canGoOn_26 : decode cX1_canGoOn 26 = .ok (.iload_n 3, 1) := by decide +kernel
theorem dX1_canGoOn_27 : decode cX1_canGoOn 27 = .ok (.ifCond .eq 17, 3) := by decide +kernel
theorem dX1_canGoOn_30 : decode cX1_canGoOn 30 = .ok (.aload_n 0, 1) := by decide +kernel
theorem dX1_canGoOn_31 : decode cX1_canGoOn 31 = .ok (.iload_n 2, 1) := by decide +kernel
theorem dX1_canGoOn_32 : decode cX1_canGoOn 32 = .ok (.invokevirtual 27, 3) := by decide +kernel
theorem dX1_canGoOn_35 : decode cX1_canGoOn 35 = .ok (.bipush 94, 2) := by decide +kernel
theorem dX1_canGoOn_37 : decode cX1_canGoOn 37 = .ok (.if_icmp .ne 7, 3) := by decide +kernel
theorem dX1_canGoOn_40 : decode cX1_canGoOn 40 = .ok (.iconst 1, 1) := by decide +kernel
theorem dX1_canGoOn_41 : decode cX1_canGoOn 41 = .ok (.goto 4, 3) := by decide +kernel
theorem dX1_canGoOn_44 : decode cX1_canGoOn 44 = .ok (.iconst 0, 1) := by decide +kernel
theorem dX1_canGoOn_45 : decode cX1_canGoOn 45 = .ok (.ireturn, 1) := by decide +kernel
theorem dX1_empty_0 : decode cX1_empty 0 = .ok (.aload_n 0, 1) := by decide +kernel
theorem dX1_empty_1 : decode cX1_empty 1 = .ok (.iconst 0, 1) := by decide +kernel
theorem dX1_empty_2 : decode cX1_empty 2 = .ok (.putfield 15, 3) := by decide +kernel
theorem dX1_empty_5 : decode cX1_empty 5 = .ok (.return_, 1) := by decide +kernel
theorem dX1_faultPlace_0 : decode cX1_faultPlace 0 = .ok (.iconst 0, 1) := by decide +kernel
theorem dX1_faultPlace_1 : decode cX1_faultPlace 1 = .ok (.istore_n 1, 1) := by decide +kernel
theorem dX1_faultPlace_2 : decode cX1_faultPlace 2 = .ok (.iconst 0, 1) := by decide +kernel
theorem dX1_faultPlace_3 : decode cX1_faultPlace 3 = .ok (.istore_n 2, 1) := by decide +kernel
theorem dX1_faultPlace_4 : decode cX1_faultPlace 4 = .ok (.iload_n 2, 1) := by decide +kernel
theorem dX1_faultPlace_5 : decode cX1_faultPlace 5 = .ok (.bipush 60, 2) := by decide +kernel
theorem dX1_faultPlace_7 : decode cX1_faultPlace 7 = .ok (.if_icmp .ge 81, 3) := by decide +kernel
theorem dX1_faultPlace_10 : decode cX1_faultPlace 10 = .ok (.iload_n 1, 1) := by decide +kernel
theorem dX1_faultPlace_11 : decode cX1_faultPlace 11 = .ok (.aload_n 0, 1) := by decide +kernel
theorem dX1_faultPlace_12 : decode cX1_faultPlace 12 = .ok (.getfield 15, 3) := by decide +kernel
theorem dX1_faultPlace_15 : decode cX1_faultPlace 15 = .ok (.if_icmp .ge 73, 3) := by decide +kernel
theorem dX1_faultPlace_18 : decode cX1_faultPlace 18 = .ok (.aload_n 0, 1) := by decide +kernel
theorem dX1_faultPlace_19 : decode cX1_faultPlace 19 = .ok (.iload_n 1, 1) := by decide +kernel
theorem dX1_faultPlace_20 : decode cX1_faultPlace 20 = .ok (.invokevirtual 35, 3) := by decide +kernel
theorem dX1_faultPlace_23 : decode cX1_faultPlace 23 = .ok (.istore_n 3, 1) := by decide +kernel
theorem dX1_faultPlace_24 : decode cX1_faultPlace 24 = .ok (.iload_n 3, 1) := by decide +kernel
theorem dX1_faultPlace_25 : decode cX1_faultPlace 25 = .ok (.ifCond .ne 5, 3) := by decide +kernel
theorem dX1_faultPlace_28 : decode cX1_faultPlace 28 = .ok (.iload_n 1, 1) := by decide +kernel
theorem dX1_faultPlace_29 : decode cX1_faultPlace 29 = .ok (.ireturn, 1) := by decide +kernel
theorem dX1_faultPlace_30 : decode cX1_faultPlace 30 = .ok (.iconst 1, 1) := by decide +kernel
theorem dX1_faultPlace_31 : decode cX1_faultPlace 31 = .ok (.istore 4, 2) := by decide +kernel
theorem dX1_faultPlace_33 : decode cX1_faultPlace 33 = .ok (.iload 4, 2) := by decide +kernel
theorem dX1_faultPlace_35 : decode cX1_faultPlace 35 = .ok (.iload_n 3, 1) := by decide +kernel
theorem dX1_faultPlace_36 : decode cX1_faultPlace 36 = .ok (.if_icmp .ge 42, 3) := by decide +kernel
theorem dX1_faultPlace_39 : decode cX1_faultPlace 39 = .ok (.iload_n 1, 1) := by decide +kernel
theorem dX1_faultPlace_40 : decode cX1_faultPlace 40 = .ok (.iload 4, 2) := by decide +kernel
theorem dX1_faultPlace_42 : decode cX1_faultPlace 42 = .ok (.iadd, 1) := by decide +kernel
theorem dX1_faultPlace_43 : decode cX1_faultPlace 43 = .ok (.aload_n 0, 1) := by decide +kernel
theorem dX1_faultPlace_44 : decode cX1_faultPlace 44 = .ok (.getfield 15, 3) := by decide +kernel
theorem dX1_faultPlace_47 : decode cX1_faultPlace 47 = .ok (.if_icmp .lt 8, 3) := by decide +kernel
theorem dX1_faultPlace_50 : decode cX1_faultPlace 50 = .ok (.aload_n 0, 1) := by decide +kernel
theorem dX1_faultPlace_51 : decode cX1_faultPlace 51 = .ok (.getfield 15, 3) := by decide +kernel
theorem dX1_faultPlace_54 : decode cX1_faultPlace 54 = .ok (.ireturn, 1) := by decide +kernel
theorem dX1_faultPlace_55 : decode cX1_faultPlace 55 = .ok (.aload_n 0, 1) := by decide +kernel
theorem dX1_faultPlace_56 : decode cX1_faultPlace 56 = .ok (.iload_n 1, 1) := by decide +kernel
theorem dX1_faultPlace_57 : decode cX1_faultPlace 57 = .ok (.iload_n 1, 1) := by decide +kernel
theorem dX1_faultPlace_58 : decode cX1_faultPlace 58 = .ok (.iload 4, 2) := by decide +kernel
theorem dX1_faultPlace_60 : decode cX1_faultPlace 60 = .ok (.iadd, 1) := by decide +kernel
theorem dX1_faultPlace_61 : decode cX1_faultPlace 61 = .ok (.invokevirtual 38, 3) := by decide +kernel
theorem dX1_faultPlace_64 : decode cX1_faultPlace 64 = .ok (.ifCond .ne 8, 3) := by decide +kernel
theorem dX1_faultPlace_67 : decode cX1_faultPlace 67 = .ok (.iload_n 1, 1) := by decide +kernel
theorem dX1_faultPlace_68 : decode cX1_faultPlace 68 = .ok (.iload 4, 2) := by decide +kernel
theorem dX1_faultPlace_70 : decode cX1_faultPlace 70 = .ok (.iadd, 1) := by decide +kernel
theorem dX1_faultPlace_71 : decode cX1_faultPlace 71 = .ok (.ireturn, 1) := by decide +kernel
theorem dX1_faultPlace_72 : decode cX1_faultPlace 72 = .ok (.iinc 4 1, 3) := by decide +kernel
theorem dX1_faultPlace_75 : decode cX1_faultPlace 75 = .ok (.goto (-42), 3) := by decide +kernel
theorem dX1_faultPlace_78 : decode cX1_faultPlace 78 = .ok (.iload_n 1, 1) := by decide +kernel
theorem dX1_faultPlace_79 : decode cX1_faultPlace 79 = .ok (.iload_n 3, 1) := by decide +kernel
theorem dX1_faultPlace_80 : decode cX1_faultPlace 80 = .ok (.iadd, 1) := by decide +kernel
theorem dX1_faultPlace_81 : decode cX1_faultPlace 81 = .ok (.istore_n 1, 1) := by decide +kernel
theorem dX1_faultPlace_82 : decode cX1_faultPlace 82 = .ok (.iinc 2 1, 3) := by decide +kernel
theorem dX1_faultPlace_85 : decode cX1_faultPlace 85 = .ok (.goto (-81), 3) := by decide +kernel
theorem dX1_faultPlace_88 : decode cX1_faultPlace 88 = .ok (.bipush (-6), 2) := by decide +kernel
theorem dX1_faultPlace_90 : decode cX1_faultPlace 90 = .ok (.ireturn, 1) := by decide +kernel
theorem dX1_init_0 : decode cX1_init 0 = .ok (.aload_n 0, 1) := by decide +kernel
theorem dX1_init_1 : decode cX1_init 1 = .ok (.invokespecial 3, 3) := by decide +kernel
theorem dX1_init_4 : decode cX1_init 4 = .ok (.aload_n 0, 1) := by decide +kernel
theorem dX1_init_5 : decode cX1_init 5 = .ok (.bipush 60, 2) := by decide +kernel
theorem dX1_init_7 : decode cX1_init 7 = .ok (.newarray .int, 2) := by decide +kernel
theorem dX1_init_9 : decode cX1_init 9 = .ok (.putfield 9, 3) := by decide +kernel
theorem dX1_init_12 : decode cX1_init 12 = .ok (.aload_n 0, 1) := by decide +kernel
theorem dX1_init_13 : decode cX1_init 13 = .ok (.iconst 0, 1) := by decide +kernel
theorem dX1_init_14 : decode cX1_init 14 = .ok (.putfield 15, 3) := by decide +kernel
theorem dX1_init_17 : decode cX1_init 17 = .ok (.return_, 1) := by decide +kernel
theorem dX1_placeAt_0 : decode cX1_placeAt 0 = .ok (.aload_n 0, 1) := by decide +kernel
theorem dX1_placeAt_1 : decode cX1_placeAt 1 = .ok (.iload_n 1, 1) := by decide +kernel
theorem dX1_placeAt_2 : decode cX1_placeAt 2 = .ok (.invokevirtual 27, 3) := by decide +kernel
theorem dX1_placeAt_5 : decode cX1_placeAt 5 = .ok (.bipush 97, 2) := by decide +kernel
theorem dX1_placeAt_7 : decode cX1_placeAt 7 = .ok (.isub, 1) := by decide +kernel
theorem dX1_placeAt_8 : decode cX1_placeAt 8 = .ok (.ireturn, 1) := by decide +kernel
theorem dX1_signAt_0 : decode cX1_signAt 0 = .ok (.aload_n 0, 1) := by decide +kernel
theorem dX1_signAt_1 : decode cX1_signAt 1 = .ok (.getfield 9, 3) := by decide +kernel
theorem dX1_signAt_4 : decode cX1_signAt 4 = .ok (.iload_n 1, 1) := by decide +kernel
theorem dX1_signAt_5 : decode cX1_signAt 5 = .ok (.invokestatic 23, 3) := by decide +kernel
theorem dX1_signAt_8 : decode cX1_signAt 8 = .ok (.ireturn, 1) := by decide +kernel
theorem dX2_addWear_0 : decode cX2_addWear 0 = .ok (.iconst 0, 1) := by decide +kernel
theorem dX2_addWear_1 : decode cX2_addWear 1 = .ok (.istore_n 1, 1) := by decide +kernel
theorem dX2_addWear_2 : decode cX2_addWear 2 = .ok (.iconst 0, 1) := by decide +kernel
theorem dX2_addWear_3 : decode cX2_addWear 3 = .ok (.istore_n 2, 1) := by decide +kernel
theorem dX2_addWear_4 : decode cX2_addWear 4 = .ok (.iload_n 2, 1) := by decide +kernel
theorem dX2_addWear_5 : decode cX2_addWear 5 = .ok (.aload_n 0, 1) := by decide +kernel
theorem dX2_addWear_6 : decode cX2_addWear 6 = .ok (.getfield 9, 3) := by decide +kernel
theorem dX2_addWear_9 : decode cX2_addWear 9 = .ok (.arraylength, 1) := by decide +kernel
theorem dX2_addWear_10 : decode cX2_addWear 10 = .ok (.if_icmp .ge 33, 3) := by decide +kernel
theorem dX2_addWear_13 : decode cX2_addWear 13 = .ok (.aload_n 0, 1) := by decide +kernel
theorem dX2_addWear_14 : decode cX2_addWear 14 = .ok (.getfield 9, 3) := by decide +kernel
theorem dX2_addWear_17 : decode cX2_addWear 17 = .ok (.iload_n 2, 1) := by decide +kernel
theorem dX2_addWear_18 : decode cX2_addWear 18 = .ok (.iaload, 1) := by decide +kernel
theorem dX2_addWear_19 : decode cX2_addWear 19 = .ok (.iconst 0, 1) := by decide +kernel
theorem dX2_addWear_20 : decode cX2_addWear 20 = .ok (.bipush 9, 2) := by decide +kernel
theorem dX2_addWear_22 : decode cX2_addWear 22 = .ok (.invokestatic 54, 3) := by decide +kernel
theorem dX2_addWear_25 : decode cX2_addWear 25 = .ok (.ifCond .eq 12, 3) := by decide +kernel
theorem dX2_addWear_28 : decode cX2_addWear 28 = .ok (.iload_n 1, 1) := by decide +kernel
theorem dX2_addWear_29 : decode cX2_addWear 29 = .ok (.aload_n 0, 1) := by decide +kernel
theorem dX2_addWear_30 : decode cX2_addWear 30 = .ok (.getfield 9, 3) := by decide +kernel
theorem dX2_addWear_33 : decode cX2_addWear 33 = .ok (.iload_n 2, 1) := by decide +kernel
theorem dX2_addWear_34 : decode cX2_addWear 34 = .ok (.iaload, 1) := by decide +kernel
theorem dX2_addWear_35 : decode cX2_addWear 35 = .ok (.iadd, 1) := by decide +kernel
theorem dX2_addWear_36 : decode cX2_addWear 36 = .ok (.istore_n 1, 1) := by decide +kernel
theorem dX2_addWear_37 : decode cX2_addWear 37 = .ok (.iinc 2 1, 3) := by decide +kernel
theorem dX2_addWear_40 : decode cX2_addWear 40 = .ok (.goto (-36), 3) := by decide +kernel
theorem dX2_addWear_43 : decode cX2_addWear 43 = .ok (.iload_n 1, 1) := by decide +kernel
theorem dX2_addWear_44 : decode cX2_addWear 44 = .ok (.iconst 2, 1) := by decide +kernel
theorem dX2_addWear_45 : decode cX2_addWear 45 = .ok (.idiv, 1) := by decide +kernel
theorem dX2_addWear_46 : decode cX2_addWear 46 = .ok (.ireturn, 1) := by decide +kernel
theorem dX2_bringIn_0 : decode cX2_bringIn 0 = .ok (.aload_n 0, 1) := by decide +kernel
theorem dX2_bringIn_1 : decode cX2_bringIn 1 = .ok (.iload_n 1, 1) := by decide +kernel
theorem dX2_bringIn_2 : decode cX2_bringIn 2 = .ok (.iload_n 2, 1) := by decide +kernel
theorem dX2_bringIn_3 : decode cX2_bringIn 3 = .ok (.invokevirtual 50, 3) := by decide +kernel
theorem dX2_bringIn_6 : decode cX2_bringIn 6 = .ok (.istore_n 3, 1) := by decide +kernel
theorem dX2_bringIn_7 : decode cX2_bringIn 7 = .ok (.iload_n 3, 1) := by decide +kernel
theorem dX2_bringIn_8 : decode cX2_bringIn 8 = .ok (.bipush (-6), 2) := by decide +kernel
theorem dX2_bringIn_10 : decode cX2_bringIn 10 = .ok (.if_icmp .ne 5, 3) := by decide +kernel
theorem dX2_bringIn_13 : decode cX2_bringIn 13 = .ok (.iconst 3, 1) := by decide +kernel
theorem dX2_bringIn_14 : decode cX2_bringIn 14 = .ok (.ireturn, 1) := by decide +kernel
theorem dX2_bringIn_15 : decode cX2_bringIn 15 = .ok (.iload_n 3, 1) := by decide +kernel
theorem dX2_bringIn_16 : decode cX2_bringIn 16 = .ok (.bipush 100, 2) := by decide +kernel
theorem dX2_bringIn_18 : decode cX2_bringIn 18 = .ok (.if_icmp .lt 5, 3) := by decide +kernel
theorem dX2_bringIn_21 : decode cX2_bringIn 21 = .ok (.iconst 4, 1) := by decide +kernel
theorem dX2_bringIn_22 : decode cX2_bringIn 22 = .ok (.ireturn, 1) := by decide +kernel
theorem dX2_bringIn_23 : decode cX2_bringIn 23 = .ok (.aload_n 0, 1) := by decide +kernel
theorem dX2_bringIn_24 : decode cX2_bringIn 24 = .ok (.iload_n 1, 1) := by decide +kernel
theorem dX2_bringIn_25 : decode cX2_bringIn 25 = .ok (.iload_n 2, 1) := by decide +kernel
theorem dX2_bringIn_26 : decode cX2_bringIn 26 = .ok (.bipush 103, 2) := by decide +kernel
theorem dX2_bringIn_28 : decode cX2_bringIn 28 = .ok (.invokevirtual 91, 3) := by decide +kernel
theorem dX2_bringIn_31 : decode cX2_bringIn 31 = .ok (.iconst 0, 1) := by decide +kernel
theorem dX2_bringIn_32 : decode cX2_bringIn 32 = .ok (.ireturn, 1) := by decide +kernel
theorem dX2_changeIron_0 : decode cX2_changeIron 0 = .ok (.aload_n 0, 1) := by decide +kernel
theorem dX2_changeIron_1 : decode cX2_changeIron 1 = .ok (.iload_n 1, 1) := by decide +kernel
theorem dX2_changeIron_2 : decode cX2_changeIron 2 = .ok (.invokevirtual 77, 3) := by decide +kernel
theorem dX2_changeIron_5 : decode cX2_changeIron 5 = .ok (.ifCond .ne 5, 3) := by decide +kernel
theorem dX2_changeIron_8 : decode cX2_changeIron 8 = .ok (.iconst 1, 1) := by decide +kernel
theorem dX2_changeIron_9 : decode cX2_changeIron 9 = .ok (.ireturn, 1) := by decide +kernel
theorem dX2_changeIron_10 : decode cX2_changeIron 10 = .ok (.aload_n 0, 1) := by decide +kernel
theorem dX2_changeIron_11 : decode cX2_changeIron 11 = .ok (.getfield 18, 3) := by decide +kernel
theorem dX2_changeIron_14 : decode cX2_changeIron 14 = .ok (.iload_n 1, 1) := by decide +kernel
theorem dX2_changeIron_15 : decode cX2_changeIron 15 = .ok (.iconst 1, 1) := by decide +kernel
theorem dX2_changeIron_16 : decode cX2_changeIron 16 = .ok (.aload_n 0, 1) := by decide +kernel
theorem dX2_changeIron_17 : decode cX2_changeIron 17 = .ok (.iload_n 1, 1) := by decide +kernel
theorem dX2_changeIron_18 : decode cX2_changeIron 18 = .ok (.invokevirtual 83, 3) := by decide +kernel
theorem dX2_changeIron_21 : decode cX2_changeIron 21 = .ok (.isub, 1) := by decide +kernel
theorem dX2_changeIron_22 : decode cX2_changeIron 22 = .ok (.invokestatic 46, 3) := by decide +kernel
theorem dX2_changeIron_25 : decode cX2_changeIron 25 = .ok (.iconst 0, 1) := by decide +kernel
theorem dX2_changeIron_26 : decode cX2_changeIron 26 = .ok (.ireturn, 1) := by decide +kernel
theorem dX2_copyFrom_0 : decode cX2_copyFrom 0 = .ok (.aload_n 1, 1) := by decide +kernel
theorem dX2_copyFrom_1 : decode cX2_copyFrom 1 = .ok (.getfield 9, 3) := by decide +kernel
theorem dX2_copyFrom_4 : decode cX2_copyFrom 4 = .ok (.aload_n 0, 1) := by decide +kernel
theorem dX2_copyFrom_5 : decode cX2_copyFrom 5 = .ok (.getfield 9, 3) := by decide +kernel
theorem dX2_copyFrom_8 : decode cX2_copyFrom 8 = .ok (.invokestatic 34, 3) := by decide +kernel
theorem dX2_copyFrom_11 : decode cX2_copyFrom 11 = .ok (.aload_n 1, 1) := by decide +kernel
theorem dX2_copyFrom_12 : decode cX2_copyFrom 12 = .ok (.getfield 15, 3) := by decide +kernel
theorem dX2_copyFrom_15 : decode cX2_copyFrom 15 = .ok (.aload_n 0, 1) := by decide +kernel
theorem dX2_copyFrom_16 : decode cX2_copyFrom 16 = .ok (.getfield 15, 3) := by decide +kernel
theorem dX2_copyFrom_19 : decode cX2_copyFrom 19 = .ok (.invokestatic 34, 3) := by decide +kernel
theorem dX2_copyFrom_22 : decode cX2_copyFrom 22 = .ok (.aload_n 1, 1) := by decide +kernel
theorem dX2_copyFrom_23 : decode cX2_copyFrom 23 = .ok (.getfield 18, 3) := by decide +kernel
theorem dX2_copyFrom_26 : decode cX2_copyFrom 26 = .ok (.aload_n 0, 1) := by decide +kernel
theorem dX2_copyFrom_27 : decode cX2_copyFrom 27 = .ok (.getfield 18, 3) := by decide +kernel
theorem dX2_copyFrom_30 : decode cX2_copyFrom 30 = .ok (.invokestatic 34, 3) := by decide +kernel
theorem dX2_copyFrom_33 : decode cX2_copyFrom 33 = .ok (.aload_n 0, 1) := by decide +kernel
theorem dX2_copyFrom_34 : decode cX2_copyFrom 34 = .ok (.aload_n 1, 1) := by decide +kernel
theorem dX2_copyFrom_35 : decode cX2_copyFrom 35 = .ok (.getfield 21, 3) := by decide +kernel
theorem dX2_copyFrom_38 : decode cX2_copyFrom 38 = .ok (.putfield 21, 3) := by decide +kernel
theorem dX2_copyFrom_41 : decode cX2_copyFrom 41 = .ok (.aload_n 0, 1) := by decide +kernel
theorem dX2_copyFrom_42 : decode cX2_copyFrom 42 = .ok (.bipush (-6), 2) := by decide +kernel
theorem dX2_copyFrom_44 : decode cX2_copyFrom 44 = .ok (.putfield 25, 3) := by decide +kernel
theorem dX2_copyFrom_47 : decode cX2_copyFrom 47 = .ok (.return_, 1) := by decide +kernel
theorem dX2_countOpen_0 : decode cX2_countOpen 0 = .ok (.iconst 0, 1) := by decide +kernel
theorem dX2_countOpen_1 : decode cX2_countOpen 1 = .ok (.istore_n 1, 1) := by decide +kernel
theorem dX2_countOpen_2 : decode cX2_countOpen 2 = .ok (.iconst 0, 1) := by decide +kernel
theorem dX2_countOpen_3 : decode cX2_countOpen 3 = .ok (.istore_n 2, 1) := by decide +kernel
theorem dX2_countOpen_4 : decode cX2_countOpen 4 = .ok (.iload_n 2, 1) := by decide +kernel
theorem dX2_countOpen_5 : decode cX2_countOpen 5 = .ok (.bipush 9, 2) := by decide +kernel
theorem dX2_countOpen_7 : decode cX2_countOpen 7 = .ok (.if_icmp .ge 20, 3) := by decide +kernel
theorem dX2_countOpen_10 : decode cX2_countOpen 10 = .ok (.iload_n 1, 1) := by decide +kernel
theorem dX2_countOpen_11 : decode cX2_countOpen 11 = .ok (.aload_n 0, 1) := by decide +kernel
theorem dX2_countOpen_12 : decode cX2_countOpen 12 = .ok (.iload_n 2, 1) := by decide +kernel
theorem dX2_countOpen_13 : decode cX2_countOpen 13 = .ok (.invokevirtual 61, 3) := by decide +kernel
theorem dX2_countOpen_16 : decode cX2_countOpen 16 = .ok (.invokestatic 65, 3) := by decide +kernel
theorem dX2_countOpen_19 : decode cX2_countOpen 19 = .ok (.iadd, 1) := by decide +kernel
theorem dX2_countOpen_20 : decode cX2_countOpen 20 = .ok (.istore_n 1, 1) := by decide +kernel
theorem dX2_countOpen_21 : decode cX2_countOpen 21 = .ok (.iinc 2 1, 3) := by decide +kernel
theorem dX2_countOpen_24 : decode cX2_countOpen 24 = .ok (.goto (-20), 3) := by decide +kernel
theorem dX2_countOpen_27 : decode cX2_countOpen 27 = .ok (.iload_n 1, 1) := by decide +kernel
theorem dX2_countOpen_28 : decode cX2_countOpen 28 = .ok (.iconst 2, 1) := by decide +kernel
theorem dX2_countOpen_29 : decode cX2_countOpen 29 = .ok (.idiv, 1) := by decide +kernel
theorem dX2_countOpen_30 : decode cX2_countOpen 30 = .ok (.ireturn, 1) := by decide +kernel
theorem dX2_countRoads_0 : decode cX2_countRoads 0 = .ok (.iconst 0, 1) := by decide +kernel
theorem dX2_countRoads_1 : decode cX2_countRoads 1 = .ok (.istore_n 1, 1) := by decide +kernel
theorem dX2_countRoads_2 : decode cX2_countRoads 2 = .ok (.iconst 0, 1) := by decide +kernel
theorem dX2_countRoads_3 : decode cX2_countRoads 3 = .ok (.istore_n 2, 1) := by decide +kernel
theorem dX2_countRoads_4 : decode cX2_countRoads 4 = .ok (.iload_n 2, 1) := by decide +kernel
theorem dX2_countRoads_5 : decode cX2_countRoads 5 = .ok (.aload_n 0, 1) := by decide +kernel
theorem dX2_countRoads_6 : decode cX2_countRoads 6 = .ok (.getfield 9, 3) := by decide +kernel
theorem dX2_countRoads_9 : decode cX2_countRoads 9 = .ok (.arraylength, 1) := by decide +kernel
theorem dX2_countRoads_10 : decode cX2_countRoads 10 = .ok (.if_icmp .ge 23, 3) := by decide +kernel
theorem dX2_countRoads_13 : decode cX2_countRoads 13 = .ok (.aload_n 0, 1) := by decide +kernel
theorem dX2_countRoads_14 : decode cX2_countRoads 14 = .ok (.getfield 9, 3) := by decide +kernel
theorem dX2_countRoads_17 : decode cX2_countRoads 17 = .ok (.iload_n 2, 1) := by decide +kernel
theorem dX2_countRoads_18 : decode cX2_countRoads 18 = .ok (.iaload, 1) := by decide +kernel
theorem dX2_countRoads_19 : decode cX2_countRoads 19 = .ok (.bipush (-6), 2) := by decide +kernel
theorem dX2_countRoads_21 : decode cX2_countRoads 21 = .ok (.if_icmp .eq 6, 3) := by decide +kernel
theorem dX2_countRoads_24 : decode cX2_countRoads 24 = .ok (.iinc 1 1, 3) := by decide +kernel
theorem dX2_countRoads_27 : decode cX2_countRoads 27 = .ok (.iinc 2 1, 3) := by decide +kernel
theorem dX2_countRoads_30 : decode cX2_countRoads 30 = .ok (.goto (-26), 3) := by decide +kernel
theorem dX2_countRoads_33 : decode cX2_countRoads 33 = .ok (.iload_n 1, 1) := by decide +kernel
theorem dX2_countRoads_34 : decode cX2_countRoads 34 = .ok (.iconst 2, 1) := by decide +kernel
theorem dX2_countRoads_35 : decode cX2_countRoads 35 = .ok (.idiv, 1) := by decide +kernel
theorem dX2_countRoads_36 : decode cX2_countRoads 36 = .ok (.ireturn, 1) := by decide +kernel
theorem dX2_init_0 : decode cX2_init 0 = .ok (.aload_n 0, 1) := by decide +kernel
theorem dX2_init_1 : decode cX2_init 1 = .ok (.invokespecial 3, 3) := by decide +kernel
theorem dX2_init_4 : decode cX2_init 4 = .ok (.aload_n 0, 1) := by decide +kernel
theorem dX2_init_5 : decode cX2_init 5 = .ok (.bipush 81, 2) := by decide +kernel
theorem dX2_init_7 : decode cX2_init 7 = .ok (.newarray .int, 2) := by decide +kernel
theorem dX2_init_9 : decode cX2_init 9 = .ok (.putfield 9, 3) := by decide +kernel
theorem dX2_init_12 : decode cX2_init 12 = .ok (.aload_n 0, 1) := by decide +kernel
theorem dX2_init_13 : decode cX2_init 13 = .ok (.bipush 6, 2) := by decide +kernel
theorem dX2_init_15 : decode cX2_init 15 = .ok (.newarray .int, 2) := by decide +kernel
theorem dX2_init_17 : decode cX2_init 17 = .ok (.putfield 15, 3) := by decide +kernel
theorem dX2_init_20 : decode cX2_init 20 = .ok (.aload_n 0, 1) := by decide +kernel
theorem dX2_init_21 : decode cX2_init 21 = .ok (.bipush 6, 2) := by decide +kernel
theorem dX2_init_23 : decode cX2_init 23 = .ok (.newarray .int, 2) := by decide +kernel
theorem dX2_init_25 : decode cX2_init 25 = .ok (.putfield 18, 3) := by decide +kernel
theorem dX2_init_28 : decode cX2_init 28 = .ok (.aload_n 0, 1) := by decide +kernel
theorem dX2_init_29 : decode cX2_init 29 = .ok (.iconst 0, 1) := by decide +kernel
theorem dX2_init_30 : decode cX2_init 30 = .ok (.putfield 21, 3) := by decide +kernel
theorem dX2_init_33 : decode cX2_init 33 = .ok (.aload_n 0, 1) := by decide +kernel
theorem dX2_init_34 : decode cX2_init 34 = .ok (.bipush (-6), 2) := by decide +kernel
theorem dX2_init_36 : decode cX2_init 36 = .ok (.putfield 25, 3) := by decide +kernel
theorem dX2_init_39 : decode cX2_init 39 = .ok (.aload_n 0, 1) := by decide +kernel
theorem dX2_init_40 : decode cX2_init 40 = .ok (.getfield 9, 3) := by decide +kernel
theorem dX2_init_43 : decode cX2_init 43 = .ok (.bipush (-6), 2) := by decide +kernel
theorem dX2_init_45 : decode cX2_init 45 = .ok (.invokestatic 28, 3) := by decide +kernel
theorem dX2_init_48 : decode cX2_init 48 = .ok (.aload_n 0, 1) := by decide +kernel
theorem dX2_init_49 : decode cX2_init 49 = .ok (.getfield 15, 3) := by decide +kernel
theorem dX2_init_52 : decode cX2_init 52 = .ok (.iconst (-1), 1) := by decide +kernel
theorem dX2_init_53 : decode cX2_init 53 = .ok (.invokestatic 28, 3) := by decide +kernel
theorem dX2_init_56 : decode cX2_init 56 = .ok (.return_, 1) := by decide +kernel
theorem dX2_ironOf_0 : decode cX2_ironOf 0 = .ok (.aload_n 0, 1) := by decide +kernel
theorem dX2_ironOf_1 : decode cX2_ironOf 1 = .ok (.getfield 18, 3) := by decide +kernel
theorem dX2_ironOf_4 : decode cX2_ironOf 4 = .ok (.iload_n 1, 1) := by decide +kernel
theorem dX2_ironOf_5 : decode cX2_ironOf 5 = .ok (.invokestatic 42, 3) := by decide +kernel
theorem dX2_ironOf_8 : decode cX2_ironOf 8 = .ok (.ireturn, 1) := by decide +kernel
theorem dX2_isOpen_0 : decode cX2_isOpen 0 = .ok (.aload_n 0, 1) := by decide +kernel
theorem dX2_isOpen_1 : decode cX2_isOpen 1 = .ok (.iload_n 1, 1) := by decide +kernel
theorem dX2_isOpen_2 : decode cX2_isOpen 2 = .ok (.iload_n 2, 1) := by decide +kernel
theorem dX2_isOpen_3 : decode cX2_isOpen 3 = .ok (.invokevirtual 50, 3) := by decide +kernel
theorem dX2_isOpen_6 : decode cX2_isOpen 6 = .ok (.iconst 0, 1) := by decide +kernel
theorem dX2_isOpen_7 : decode cX2_isOpen 7 = .ok (.bipush 8, 2) := by decide +kernel
theorem dX2_isOpen_9 : decode cX2_isOpen 9 = .ok (.invokestatic 54, 3) := by decide +kernel
theorem dX2_isOpen_12 : decode cX2_isOpen 12 = .ok (.ireturn, 1) := by decide +kernel
theorem dX2_isThere_0 : decode cX2_isThere 0 = .ok (.iload_n 1, 1) := by decide +kernel
theorem dX2_isThere_1 : decode cX2_isThere 1 = .ok (.invokestatic 73, 3) := by decide +kernel
theorem dX2_isThere_4 : decode cX2_isThere 4 = .ok (.ifCond .eq 19, 3) := by decide +kernel
theorem dX2_isThere_7 : decode cX2_isThere 7 = .ok (.aload_n 0, 1) := by decide +kernel
theorem dX2_isThere_8 : decode cX2_isThere 8 = .ok (.getfield 15, 3) := by decide +kernel
theorem dX2_isThere_11 : decode cX2_isThere 11 = .ok (.iload_n 1, 1) := by decide +kernel
theorem dX2_isThere_12 : decode cX2_isThere 12 = .ok (.invokestatic 42, 3) := by decide +kernel
theorem dX2_isThere_15 : decode cX2_isThere 15 = .ok (.iconst (-1), 1) := by decide +kernel
theorem dX2_isThere_16 : decode cX2_isThere 16 = .ok (.if_icmp .eq 7, 3) := by decide +kernel
theorem dX2_isThere_19 : decode cX2_isThere 19 = .ok (.iconst 1, 1) := by decide +kernel
theorem dX2_isThere_20 : decode cX2_isThere 20 = .ok (.goto 4, 3) := by decide +kernel
theorem dX2_isThere_23 : decode cX2_isThere 23 = .ok (.iconst 0, 1) := by decide +kernel
theorem dX2_isThere_24 : decode cX2_isThere 24 = .ok (.ireturn, 1) := by decide +kernel
theorem dX2_openFrom_0 : decode cX2_openFrom 0 = .ok (.iconst 0, 1) := by decide +kernel
theorem dX2_openFrom_1 : decode cX2_openFrom 1 = .ok (.istore_n 2, 1) := by decide +kernel
theorem dX2_openFrom_2 : decode cX2_openFrom 2 = .ok (.iconst 0, 1) := by decide +kernel
theorem dX2_openFrom_3 : decode cX2_openFrom 3 = .ok (.istore_n 3, 1) := by decide +kernel
theorem dX2_openFrom_4 : decode cX2_openFrom 4 = .ok (.iload_n 3, 1) := by decide +kernel
theorem dX2_openFrom_5 : decode cX2_openFrom 5 = .ok (.bipush 9, 2) := by decide +kernel
theorem dX2_openFrom_7 : decode cX2_openFrom 7 = .ok (.if_icmp .ge 24, 3) := by decide +kernel
theorem dX2_openFrom_10 : decode cX2_openFrom 10 = .ok (.aload_n 0, 1) := by decide +kernel
theorem dX2_openFrom_11 : decode cX2_openFrom 11 = .ok (.iload_n 1, 1) := by decide +kernel
theorem dX2_openFrom_12 : decode cX2_openFrom 12 = .ok (.iload_n 3, 1) := by decide +kernel
theorem dX2_openFrom_13 : decode cX2_openFrom 13 = .ok (.invokevirtual 58, 3) := by decide +kernel
theorem dX2_openFrom_16 : decode cX2_openFrom 16 = .ok (.ifCond .eq 9, 3) := by decide +kernel
theorem dX2_openFrom_19 : decode cX2_openFrom 19 = .ok (.iload_n 2, 1) := by decide +kernel
theorem dX2_openFrom_20 : decode cX2_openFrom 20 = .ok (.iconst 1, 1) := by decide +kernel
theorem dX2_openFrom_21 : decode cX2_openFrom 21 = .ok (.iload_n 3, 1) := by decide +kernel
theorem dX2_openFrom_22 : decode cX2_openFrom 22 = .ok (.ishl, 1) := by decide +kernel
theorem dX2_openFrom_23 : decode cX2_openFrom 23 = .ok (.ior, 1) := by decide +kernel
theorem dX2_openFrom_24 : decode cX2_openFrom 24 = .ok (.istore_n 2, 1) := by decide +kernel
theorem dX2_openFrom_25 : decode cX2_openFrom 25 = .ok (.iinc 3 1, 3) := by decide +kernel
theorem dX2_openFrom_28 : decode cX2_openFrom 28 = .ok (.goto (-24), 3) := by decide +kernel
theorem dX2_openFrom_31 : decode cX2_openFrom 31 = .ok (.iload_n 2, 1) := by decide +kernel
theorem dX2_openFrom_32 : decode cX2_openFrom 32 = .ok (.ireturn, 1) := by decide +kernel
theorem dX2_passDay_0 : decode cX2_passDay 0 = .ok (.aload_n 0, 1) := by decide +kernel
theorem dX2_passDay_1 : decode cX2_passDay 1 = .ok (.getfield 21, 3) := by decide +kernel
theorem dX2_passDay_4 : decode cX2_passDay 4 = .ok (.bipush 99, 2) := by decide +kernel
theorem dX2_passDay_6 : decode cX2_passDay 6 = .ok (.if_icmp .lt 6, 3) := by decide +kernel
theorem dX2_passDay_9 : decode cX2_passDay 9 = .ok (.bipush 7, 2) := by decide +kernel
theorem dX2_passDay_11 : decode cX2_passDay 11 = .ok (.ireturn, 1) := by decide +kernel
theorem dX2_passDay_12 : decode cX2_passDay 12 = .ok (.aload_n 0, 1) := by decide +kernel
theorem dX2_passDay_13 : decode cX2_passDay 13 = .ok (.dup, 1) := by decide +kernel
theorem dX2_passDay_14 : decode cX2_passDay 14 = .ok (.getfield 21, 3) := by decide +kernel
theorem dX2_passDay_17 : decode cX2_passDay 17 = .ok (.iconst 1, 1) := by decide +kernel
theorem dX2_passDay_18 : decode cX2_passDay 18 = .ok (.iadd, 1) := by decide +kernel
theorem dX2_passDay_19 : decode cX2_passDay 19 = .ok (.putfield 21, 3) := by decide +kernel
theorem dX2_passDay_22 : decode cX2_passDay 22 = .ok (.iconst 0, 1) := by decide +kernel
theorem dX2_passDay_23 : decode cX2_passDay 23 = .ok (.istore_n 1, 1) := by decide +kernel
theorem dX2_passDay_24 : decode cX2_passDay 24 = .ok (.iload_n 1, 1) := by decide +kernel
theorem dX2_passDay_25 : decode cX2_passDay 25 = .ok (.aload_n 0, 1) := by decide +kernel
theorem dX2_passDay_26 : decode cX2_passDay 26 = .ok (.getfield 9, 3) := by decide +kernel
theorem dX2_passDay_29 : decode cX2_passDay 29 = .ok (.arraylength, 1) := by decide +kernel
theorem dX2_passDay_30 : decode cX2_passDay 30 = .ok (.if_icmp .ge 49, 3) := by decide +kernel
theorem dX2_passDay_33 : decode cX2_passDay 33 = .ok (.aload_n 0, 1) := by decide +kernel
theorem dX2_passDay_34 : decode cX2_passDay 34 = .ok (.getfield 9, 3) := by decide +kernel
theorem dX2_passDay_37 : decode cX2_passDay 37 = .ok (.iload_n 1, 1) := by decide +kernel
theorem dX2_passDay_38 : decode cX2_passDay 38 = .ok (.iaload, 1) := by decide +kernel
theorem dX2_passDay_39 : decode cX2_passDay 39 = .ok (.bipush 100, 2) := by decide +kernel
theorem dX2_passDay_41 : decode cX2_passDay 41 = .ok (.if_icmp .le 32, 3) := by decide +kernel
theorem dX2_passDay_44 : decode cX2_passDay 44 = .ok (.aload_n 0, 1) := by decide +kernel
theorem dX2_passDay_45 : decode cX2_passDay 45 = .ok (.getfield 9, 3) := by decide +kernel
theorem dX2_passDay_48 : decode cX2_passDay 48 = .ok (.iload_n 1, 1) := by decide +kernel
theorem dX2_passDay_49 : decode cX2_passDay 49 = .ok (.aload_n 0, 1) := by decide +kernel
theorem dX2_passDay_50 : decode cX2_passDay 50 = .ok (.getfield 9, 3) := by decide +kernel
theorem dX2_passDay_53 : decode cX2_passDay 53 = .ok (.iload_n 1, 1) := by decide +kernel
theorem dX2_passDay_54 : decode cX2_passDay 54 = .ok (.iaload, 1) := by decide +kernel
theorem dX2_passDay_55 : decode cX2_passDay 55 = .ok (.bipush 101, 2) := by decide +kernel
theorem dX2_passDay_57 : decode cX2_passDay 57 = .ok (.if_icmp .ne 7, 3) := by decide +kernel
theorem dX2_passDay_60 : decode cX2_passDay 60 = .ok (.iconst 0, 1) := by decide +kernel
theorem dX2_passDay_61 : decode cX2_passDay 61 = .ok (.goto 11, 3) := by decide +kernel
theorem dX2_passDay_64 : decode cX2_passDay 64 = .ok (.aload_n 0, 1) := by decide +kernel
theorem dX2_passDay_65 : decode cX2_passDay 65 = .ok (.getfield 9, 3) := by decide +kernel
theorem dX2_passDay_68 : decode cX2_passDay 68 = .ok (.iload_n 1, 1) := by decide +kernel
theorem dX2_passDay_69 : decode cX2_passDay 69 = .ok (.iaload, 1) := by decide +kernel
theorem dX2_passDay_70 : decode cX2_passDay 70 = .ok (.iconst 1, 1) := by decide +kernel
theorem dX2_passDay_71 : decode cX2_passDay 71 = .ok (.isub, 1) := by decide +kernel
theorem dX2_passDay_72 : decode cX2_passDay 72 = .ok (.iastore, 1) := by decide +kernel
theorem dX2_passDay_73 : decode cX2_passDay 73 = .ok (.iinc 1 1, 3) := by decide +kernel
theorem dX2_passDay_76 : decode cX2_passDay 76 = .ok (.goto (-52), 3) := by decide +kernel
theorem dX2_passDay_79 : decode cX2_passDay 79 = .ok (.iconst 0, 1) := by decide +kernel
theorem dX2_passDay_80 : decode cX2_passDay 80 = .ok (.ireturn, 1) := by decide +kernel
theorem dX2_patch_0 : decode cX2_patch 0 = .ok (.aload_n 0, 1) := by decide +kernel
theorem dX2_patch_1 : decode cX2_patch 1 = .ok (.iload_n 1, 1) := by decide +kernel
theorem dX2_patch_2 : decode cX2_patch 2 = .ok (.iload_n 2, 1) := by decide +kernel
theorem dX2_patch_3 : decode cX2_patch 3 = .ok (.invokevirtual 50, 3) := by decide +kernel
theorem dX2_patch_6 : decode cX2_patch 6 = .ok (.istore 5, 2) := by decide +kernel
theorem dX2_patch_8 : decode cX2_patch 8 = .ok (.aload_n 0, 1) := by decide +kernel
theorem dX2_patch_9 : decode cX2_patch 9 = .ok (.iload_n 3, 1) := by decide +kernel
theorem dX2_patch_10 : decode cX2_patch 10 = .ok (.iload 4, 2) := by decide +kernel
theorem dX2_patch_12 : decode cX2_patch 12 = .ok (.invokevirtual 50, 3) := by decide +kernel
theorem dX2_patch_15 : decode cX2_patch 15 = .ok (.istore 6, 2) := by decide +kernel
theorem dX2_patch_17 : decode cX2_patch 17 = .ok (.iload 5, 2) := by decide +kernel
theorem dX2_patch_19 : decode cX2_patch 19 = .ok (.bipush (-6), 2) := by decide +kernel
theorem dX2_patch_21 : decode cX2_patch 21 = .ok (.if_icmp .eq 10, 3) := by decide +kernel
theorem dX2_patch_24 : decode cX2_patch 24 = .ok (.iload 6, 2) := by decide +kernel
theorem dX2_patch_26 : decode cX2_patch 26 = .ok (.bipush (-6), 2) := by decide +kernel
theorem dX2_patch_28 : decode cX2_patch 28 = .ok (.if_icmp .ne 5, 3) := by decide +kernel
theorem dX2_patch_31 : decode cX2_patch 31 = .ok (.iconst 3, 1) := by decide +kernel
theorem dX2_patch_32 : decode cX2_patch 32 = .ok (.ireturn, 1) := by decide +kernel
theorem dX2_patch_33 : decode cX2_patch 33 = .ok (.iload 5, 2) := by decide +kernel
theorem dX2_patch_35 : decode cX2_patch 35 = .ok (.bipush 100, 2) := by decide +kernel
theorem dX2_patch_37 : decode cX2_patch 37 = .ok (.if_icmp .ge 10, 3) := by decide +kernel
theorem dX2_patch_40 : decode cX2_patch 40 = .ok (.iload 6, 2) := by decide +kernel
theorem dX2_patch_42 : decode cX2_patch 42 = .ok (.bipush 100, 2) := by decide +kernel
theorem dX2_patch_44 : decode cX2_patch 44 = .ok (.if_icmp .lt 5, 3) := by decide +kernel
theorem dX2_patch_47 : decode cX2_patch 47 = .ok (.iconst 4, 1) := by decide +kernel
theorem dX2_patch_48 : decode cX2_patch 48 = .ok (.ireturn, 1) := by decide +kernel
theorem dX2_patch_49 : decode cX2_patch 49 = .ok (.iload_n 1, 1) := by decide +kernel
theorem dX2_patch_50 : decode cX2_patch 50 = .ok (.iload_n 2, 1) := by decide +kernel
theorem dX2_patch_51 : decode cX2_patch 51 = .ok (.invokestatic 95, 3) := by decide +kernel
theorem dX2_patch_54 : decode cX2_patch 54 = .ok (.iload_n 3, 1) := by decide +kernel
theorem dX2_patch_55 : decode cX2_patch 55 = .ok (.iload 4, 2) := by decide +kernel
theorem dX2_patch_57 : decode cX2_patch 57 = .ok (.invokestatic 95, 3) := by decide +kernel
theorem dX2_patch_60 : decode cX2_patch 60 = .ok (.if_icmp .ne 6, 3) := by decide +kernel
theorem dX2_patch_63 : decode cX2_patch 63 = .ok (.bipush 6, 2) := by decide +kernel
theorem dX2_patch_65 : decode cX2_patch 65 = .ok (.ireturn, 1) := by decide +kernel
theorem dX2_patch_66 : decode cX2_patch 66 = .ok (.aload_n 0, 1) := by decide +kernel
theorem dX2_patch_67 : decode cX2_patch 67 = .ok (.iload_n 1, 1) := by decide +kernel
theorem dX2_patch_68 : decode cX2_patch 68 = .ok (.iload_n 2, 1) := by decide +kernel
theorem dX2_patch_69 : decode cX2_patch 69 = .ok (.iload 5, 2) := by decide +kernel
theorem dX2_patch_71 : decode cX2_patch 71 = .ok (.iconst 2, 1) := by decide +kernel
theorem dX2_patch_72 : decode cX2_patch 72 = .ok (.idiv, 1) := by decide +kernel
theorem dX2_patch_73 : decode cX2_patch 73 = .ok (.invokevirtual 91, 3) := by decide +kernel
theorem dX2_patch_76 : decode cX2_patch 76 = .ok (.aload_n 0, 1) := by decide +kernel
theorem dX2_patch_77 : decode cX2_patch 77 = .ok (.iload_n 3, 1) := by decide +kernel
theorem dX2_patch_78 : decode cX2_patch 78 = .ok (.iload 4, 2) := by decide +kernel
theorem dX2_patch_80 : decode cX2_patch 80 = .ok (.bipush (-6), 2) := by decide +kernel
theorem dX2_patch_82 : decode cX2_patch 82 = .ok (.invokevirtual 91, 3) := by decide +kernel
theorem dX2_patch_85 : decode cX2_patch 85 = .ok (.iconst 0, 1) := by decide +kernel
theorem dX2_patch_86 : decode cX2_patch 86 = .ok (.ireturn, 1) := by decide +kernel
theorem dX2_placeOf_0 : decode cX2_placeOf 0 = .ok (.aload_n 0, 1) := by decide +kernel
theorem dX2_placeOf_1 : decode cX2_placeOf 1 = .ok (.getfield 15, 3) := by decide +kernel
theorem dX2_placeOf_4 : decode cX2_placeOf 4 = .ok (.iload_n 1, 1) := by decide +kernel
theorem dX2_placeOf_5 : decode cX2_placeOf 5 = .ok (.invokestatic 42, 3) := by decide +kernel
theorem dX2_placeOf_8 : decode cX2_placeOf 8 = .ok (.ireturn, 1) := by decide +kernel
theorem dX2_putRoad_0 : decode cX2_putRoad 0 = .ok (.iload_n 1, 1) := by decide +kernel
theorem dX2_putRoad_1 : decode cX2_putRoad 1 = .ok (.iload_n 2, 1) := by decide +kernel
theorem dX2_putRoad_2 : decode cX2_putRoad 2 = .ok (.invokestatic 38, 3) := by decide +kernel
theorem dX2_putRoad_5 : decode cX2_putRoad 5 = .ok (.ifCond .ne 4, 3) := by decide +kernel
theorem dX2_putRoad_8 : decode cX2_putRoad 8 = .ok (.return_, 1) := by decide +kernel
theorem dX2_putRoad_9 : decode cX2_putRoad 9 = .ok (.aload_n 0, 1) := by decide +kernel
theorem dX2_putRoad_10 : decode cX2_putRoad 10 = .ok (.getfield 9, 3) := by decide +kernel
theorem dX2_putRoad_13 : decode cX2_putRoad 13 = .ok (.iload_n 1, 1) := by decide +kernel
theorem dX2_putRoad_14 : decode cX2_putRoad 14 = .ok (.bipush 9, 2) := by decide +kernel
theorem dX2_putRoad_16 : decode cX2_putRoad 16 = .ok (.imul, 1) := by decide +kernel
theorem dX2_putRoad_17 : decode cX2_putRoad 17 = .ok (.iload_n 2, 1) := by decide +kernel
theorem dX2_putRoad_18 : decode cX2_putRoad 18 = .ok (.iadd, 1) := by decide +kernel
theorem dX2_putRoad_19 : decode cX2_putRoad 19 = .ok (.iload_n 3, 1) := by decide +kernel
theorem dX2_putRoad_20 : decode cX2_putRoad 20 = .ok (.invokestatic 46, 3) := by decide +kernel
theorem dX2_putRoad_23 : decode cX2_putRoad 23 = .ok (.aload_n 0, 1) := by decide +kernel
theorem dX2_putRoad_24 : decode cX2_putRoad 24 = .ok (.getfield 9, 3) := by decide +kernel
theorem dX2_putRoad_27 : decode cX2_putRoad 27 = .ok (.iload_n 2, 1) := by decide +kernel
theorem dX2_putRoad_28 : decode cX2_putRoad 28 = .ok (.bipush 9, 2) := by decide +kernel
theorem dX2_putRoad_30 : decode cX2_putRoad 30 = .ok (.imul, 1) := by decide +kernel
theorem dX2_putRoad_31 : decode cX2_putRoad 31 = .ok (.iload_n 1, 1) := by decide +kernel
theorem dX2_putRoad_32 : decode cX2_putRoad 32 = .ok (.iadd, 1) := by decide +kernel
theorem dX2_putRoad_33 : decode cX2_putRoad 33 = .ok (.iload_n 3, 1) := by decide +kernel
theorem dX2_putRoad_34 : decode cX2_putRoad 34 = .ok (.invokestatic 46, 3) := by decide +kernel
theorem dX2_putRoad_37 : decode cX2_putRoad 37 = .ok (.return_, 1) := by decide +kernel
theorem dX2_putWalker_0 : decode cX2_putWalker 0 = .ok (.aload_n 0, 1) := by decide +kernel
theorem dX2_putWalker_1 : decode cX2_putWalker 1 = .ok (.getfield 15, 3) := by decide +kernel
theorem dX2_putWalker_4 : decode cX2_putWalker 4 = .ok (.iload_n 1, 1) := by decide +kernel
theorem dX2_putWalker_5 : decode cX2_putWalker 5 = .ok (.iload_n 2, 1) := by decide +kernel
theorem dX2_putWalker_6 : decode cX2_putWalker 6 = .ok (.invokestatic 46, 3) := by decide +kernel
theorem dX2_putWalker_9 : decode cX2_putWalker 9 = .ok (.aload_n 0, 1) := by decide +kernel
theorem dX2_putWalker_10 : decode cX2_putWalker 10 = .ok (.getfield 18, 3) := by decide +kernel
theorem dX2_putWalker_13 : decode cX2_putWalker 13 = .ok (.iload_n 1, 1) := by decide +kernel
theorem dX2_putWalker_14 : decode cX2_putWalker 14 = .ok (.iload_n 3, 1) := by decide +kernel
theorem dX2_putWalker_15 : decode cX2_putWalker 15 = .ok (.ifCond .eq 7, 3) := by decide +kernel
theorem dX2_putWalker_18 : decode cX2_putWalker 18 = .ok (.iconst 1, 1) := by decide +kernel
theorem dX2_putWalker_19 : decode cX2_putWalker 19 = .ok (.goto 4, 3) := by decide +kernel
theorem dX2_putWalker_22 : decode cX2_putWalker 22 = .ok (.iconst 0, 1) := by decide +kernel
theorem dX2_putWalker_23 : decode cX2_putWalker 23 = .ok (.invokestatic 46, 3) := by decide +kernel
theorem dX2_putWalker_26 : decode cX2_putWalker 26 = .ok (.return_, 1) := by decide +kernel
theorem dX2_reached_0 : decode cX2_reached 0 = .ok (.iconst 1, 1) := by decide +kernel
theorem dX2_reached_1 : decode cX2_reached 1 = .ok (.iload_n 1, 1) := by decide +kernel
theorem dX2_reached_2 : decode cX2_reached 2 = .ok (.ishl, 1) := by decide +kernel
theorem dX2_reached_3 : decode cX2_reached 3 = .ok (.aload_n 0, 1) := by decide +kernel
theorem dX2_reached_4 : decode cX2_reached 4 = .ok (.iload_n 1, 1) := by decide +kernel
theorem dX2_reached_5 : decode cX2_reached 5 = .ok (.invokevirtual 61, 3) := by decide +kernel
theorem dX2_reached_8 : decode cX2_reached 8 = .ok (.iload_n 2, 1) := by decide +kernel
theorem dX2_reached_9 : decode cX2_reached 9 = .ok (.iconst (-1), 1) := by decide +kernel
theorem dX2_reached_10 : decode cX2_reached 10 = .ok (.ixor, 1) := by decide +kernel
theorem dX2_reached_11 : decode cX2_reached 11 = .ok (.iand, 1) := by decide +kernel
theorem dX2_reached_12 : decode cX2_reached 12 = .ok (.ior, 1) := by decide +kernel
theorem dX2_reached_13 : decode cX2_reached 13 = .ok (.istore_n 3, 1) := by decide +kernel
theorem dX2_reached_14 : decode cX2_reached 14 = .ok (.iconst 1, 1) := by decide +kernel
theorem dX2_reached_15 : decode cX2_reached 15 = .ok (.istore 4, 2) := by decide +kernel
theorem dX2_reached_17 : decode cX2_reached 17 = .ok (.iload 4, 2) := by decide +kernel
theorem dX2_reached_19 : decode cX2_reached 19 = .ok (.bipush 9, 2) := by decide +kernel
theorem dX2_reached_21 : decode cX2_reached 21 = .ok (.if_icmp .ge 49, 3) := by decide +kernel
theorem dX2_reached_24 : decode cX2_reached 24 = .ok (.iconst 0, 1) := by decide +kernel
theorem dX2_reached_25 : decode cX2_reached 25 = .ok (.istore 5, 2) := by decide +kernel
theorem dX2_reached_27 : decode cX2_reached 27 = .ok (.iload 5, 2) := by decide +kernel
theorem dX2_reached_29 : decode cX2_reached 29 = .ok (.bipush 9, 2) := by decide +kernel
theorem dX2_reached_31 : decode cX2_reached 31 = .ok (.if_icmp .ge 33, 3) := by decide +kernel
theorem dX2_reached_34 : decode cX2_reached 34 = .ok (.iload 5, 2) := by decide +kernel
theorem dX2_reached_36 : decode cX2_reached 36 = .ok (.iload_n 1, 1) := by decide +kernel
theorem dX2_reached_37 : decode cX2_reached 37 = .ok (.if_icmp .eq 21, 3) := by decide +kernel
theorem dX2_reached_40 : decode cX2_reached 40 = .ok (.iload_n 3, 1) := by decide +kernel
theorem dX2_reached_41 : decode cX2_reached 41 = .ok (.iload 5, 2) := by decide +kernel
theorem dX2_reached_43 : decode cX2_reached 43 = .ok (.invokestatic 70, 3) := by decide +kernel
theorem dX2_reached_46 : decode cX2_reached 46 = .ok (.ifCond .eq 12, 3) := by decide +kernel
theorem dX2_reached_49 : decode cX2_reached 49 = .ok (.iload_n 3, 1) := by decide +kernel
theorem dX2_reached_50 : decode cX2_reached 50 = .ok (.aload_n 0, 1) := by decide +kernel
theorem dX2_reached_51 : decode cX2_reached 51 = .ok (.iload 5, 2) := by decide +kernel
theorem dX2_reached_53 : decode cX2_reached 53 = .ok (.invokevirtual 61, 3) := by decide +kernel
theorem dX2_reached_56 : decode cX2_reached 56 = .ok (.ior, 1) := by decide +kernel
theorem dX2_reached_57 : decode cX2_reached 57 = .ok (.istore_n 3, 1) := by decide +kernel
theorem dX2_reached_58 : decode cX2_reached 58 = .ok (.iinc 5 1, 3) := by decide +kernel
theorem dX2_reached_61 : decode cX2_reached 61 = .ok (.goto (-34), 3) := by decide +kernel
theorem dX2_reached_64 : decode cX2_reached 64 = .ok (.iinc 4 1, 3) := by decide +kernel
theorem dX2_reached_67 : decode cX2_reached 67 = .ok (.goto (-50), 3) := by decide +kernel
theorem dX2_reached_70 : decode cX2_reached 70 = .ok (.iload_n 3, 1) := by decide +kernel
theorem dX2_reached_71 : decode cX2_reached 71 = .ok (.ireturn, 1) := by decide +kernel
theorem dX2_roadBetween_0 : decode cX2_roadBetween 0 = .ok (.iload_n 1, 1) := by decide +kernel
theorem dX2_roadBetween_1 : decode cX2_roadBetween 1 = .ok (.iload_n 2, 1) := by decide +kernel
theorem dX2_roadBetween_2 : decode cX2_roadBetween 2 = .ok (.invokestatic 38, 3) := by decide +kernel
theorem dX2_roadBetween_5 : decode cX2_roadBetween 5 = .ok (.ifCond .eq 19, 3) := by decide +kernel
theorem dX2_roadBetween_8 : decode cX2_roadBetween 8 = .ok (.aload_n 0, 1) := by decide +kernel
theorem dX2_roadBetween_9 : decode cX2_roadBetween 9 = .ok (.getfield 9, 3) := by decide +kernel
theorem dX2_roadBetween_12 : decode cX2_roadBetween 12 = .ok (.iload_n 1, 1) := by decide +kernel
theorem dX2_roadBetween_13 : decode cX2_roadBetween 13 = .ok (.bipush 9, 2) := by decide +kernel
theorem dX2_roadBetween_15 : decode cX2_roadBetween 15 = .ok (.imul, 1) := by decide +kernel
theorem dX2_roadBetween_16 : decode cX2_roadBetween 16 = .ok (.iload_n 2, 1) := by decide +kernel
theorem dX2_roadBetween_17 : decode cX2_roadBetween 17 = .ok (.iadd, 1) := by decide +kernel
theorem dX2_roadBetween_18 : decode cX2_roadBetween 18 = .ok (.invokestatic 42, 3) := by decide +kernel
theorem dX2_roadBetween_21 : decode cX2_roadBetween 21 = .ok (.goto 5, 3) := by decide +kernel
theorem dX2_roadBetween_24 : decode cX2_roadBetween 24 = .ok (.bipush (-6), 2) := by decide +kernel
theorem dX2_roadBetween_26 : decode cX2_roadBetween 26 = .ok (.ireturn, 1) := by decide +kernel
theorem dX2_shutIn_0 : decode cX2_shutIn 0 = .ok (.iconst 0, 1) := by decide +kernel
theorem dX2_shutIn_1 : decode cX2_shutIn 1 = .ok (.istore_n 1, 1) := by decide +kernel
theorem dX2_shutIn_2 : decode cX2_shutIn 2 = .ok (.iconst 0, 1) := by decide +kernel
theorem dX2_shutIn_3 : decode cX2_shutIn 3 = .ok (.istore_n 2, 1) := by decide +kernel
theorem dX2_shutIn_4 : decode cX2_shutIn 4 = .ok (.iload_n 2, 1) := by decide +kernel
theorem dX2_shutIn_5 : decode cX2_shutIn 5 = .ok (.bipush 6, 2) := by decide +kernel
theorem dX2_shutIn_7 : decode cX2_shutIn 7 = .ok (.if_icmp .ge 35, 3) := by decide +kernel
theorem dX2_shutIn_10 : decode cX2_shutIn 10 = .ok (.aload_n 0, 1) := by decide +kernel
theorem dX2_shutIn_11 : decode cX2_shutIn 11 = .ok (.iload_n 2, 1) := by decide +kernel
theorem dX2_shutIn_12 : decode cX2_shutIn 12 = .ok (.invokevirtual 77, 3) := by decide +kernel
theorem dX2_shutIn_15 : decode cX2_shutIn 15 = .ok (.ifCond .eq 21, 3) := by decide +kernel
theorem dX2_shutIn_18 : decode cX2_shutIn 18 = .ok (.aload_n 0, 1) := by decide +kernel
theorem dX2_shutIn_19 : decode cX2_shutIn 19 = .ok (.aload_n 0, 1) := by decide +kernel
theorem dX2_shutIn_20 : decode cX2_shutIn 20 = .ok (.iload_n 2, 1) := by decide +kernel
theorem dX2_shutIn_21 : decode cX2_shutIn 21 = .ok (.invokevirtual 80, 3) := by decide +kernel
theorem dX2_shutIn_24 : decode cX2_shutIn 24 = .ok (.invokevirtual 61, 3) := by decide +kernel
theorem dX2_shutIn_27 : decode cX2_shutIn 27 = .ok (.ifCond .ne 9, 3) := by decide +kernel
theorem dX2_shutIn_30 : decode cX2_shutIn 30 = .ok (.iload_n 1, 1) := by decide +kernel
theorem dX2_shutIn_31 : decode cX2_shutIn 31 = .ok (.iconst 1, 1) := by decide +kernel
theorem dX2_shutIn_32 : decode cX2_shutIn 32 = .ok (.iload_n 2, 1) := by decide +kernel
theorem dX2_shutIn_33 : decode cX2_shutIn 33 = .ok (.ishl, 1) := by decide +kernel
theorem dX2_shutIn_34 : decode cX2_shutIn 34 = .ok (.ior, 1) := by decide +kernel
theorem dX2_shutIn_35 : decode cX2_shutIn 35 = .ok (.istore_n 1, 1) := by decide +kernel
theorem dX2_shutIn_36 : decode cX2_shutIn 36 = .ok (.iinc 2 1, 3) := by decide +kernel
theorem dX2_shutIn_39 : decode cX2_shutIn 39 = .ok (.goto (-35), 3) := by decide +kernel
theorem dX2_shutIn_42 : decode cX2_shutIn 42 = .ok (.iload_n 1, 1) := by decide +kernel
theorem dX2_shutIn_43 : decode cX2_shutIn 43 = .ok (.ireturn, 1) := by decide +kernel
theorem dX2_walk_0 : decode cX2_walk 0 = .ok (.aload_n 0, 1) := by decide +kernel
theorem dX2_walk_1 : decode cX2_walk 1 = .ok (.iload_n 1, 1) := by decide +kernel
theorem dX2_walk_2 : decode cX2_walk 2 = .ok (.invokevirtual 77, 3) := by decide +kernel
theorem dX2_walk_5 : decode cX2_walk 5 = .ok (.ifCond .ne 5, 3) := by decide +kernel
theorem dX2_walk_8 : decode cX2_walk 8 = .ok (.iconst 1, 1) := by decide +kernel
theorem dX2_walk_9 : decode cX2_walk 9 = .ok (.ireturn, 1) := by decide +kernel
theorem dX2_walk_10 : decode cX2_walk 10 = .ok (.aload_n 0, 1) := by decide +kernel
theorem dX2_walk_11 : decode cX2_walk 11 = .ok (.iload_n 1, 1) := by decide +kernel
theorem dX2_walk_12 : decode cX2_walk 12 = .ok (.invokevirtual 80, 3) := by decide +kernel
theorem dX2_walk_15 : decode cX2_walk 15 = .ok (.istore_n 3, 1) := by decide +kernel
theorem dX2_walk_16 : decode cX2_walk 16 = .ok (.iload_n 3, 1) := by decide +kernel
theorem dX2_walk_17 : decode cX2_walk 17 = .ok (.iload_n 2, 1) := by decide +kernel
theorem dX2_walk_18 : decode cX2_walk 18 = .ok (.if_icmp .ne 5, 3) := by decide +kernel
theorem dX2_walk_21 : decode cX2_walk 21 = .ok (.iconst 2, 1) := by decide +kernel
theorem dX2_walk_22 : decode cX2_walk 22 = .ok (.ireturn, 1) := by decide +kernel
theorem dX2_walk_23 : decode cX2_walk 23 = .ok (.aload_n 0, 1) := by decide +kernel
theorem dX2_walk_24 : decode cX2_walk 24 = .ok (.iload_n 3, 1) := by decide +kernel
theorem dX2_walk_25 : decode cX2_walk 25 = .ok (.iload_n 2, 1) := by decide +kernel
theorem dX2_walk_26 : decode cX2_walk 26 = .ok (.invokevirtual 50, 3) := by decide +kernel
theorem dX2_walk_29 : decode cX2_walk 29 = .ok (.istore 4, 2) := by decide +kernel
theorem dX2_walk_31 : decode cX2_walk 31 = .ok (.iload 4, 2) := by decide +kernel
theorem dX2_walk_33 : decode cX2_walk 33 = .ok (.bipush (-6), 2) := by decide +kernel
theorem dX2_walk_35 : decode cX2_walk 35 = .ok (.if_icmp .ne 5, 3) := by decide +kernel
theorem dX2_walk_38 : decode cX2_walk 38 = .ok (.iconst 3, 1) := by decide +kernel
theorem dX2_walk_39 : decode cX2_walk 39 = .ok (.ireturn, 1) := by decide +kernel
theorem dX2_walk_40 : decode cX2_walk 40 = .ok (.iload 4, 2) := by decide +kernel
theorem dX2_walk_42 : decode cX2_walk 42 = .ok (.bipush 100, 2) := by decide +kernel
theorem dX2_walk_44 : decode cX2_walk 44 = .ok (.if_icmp .lt 5, 3) := by decide +kernel
theorem dX2_walk_47 : decode cX2_walk 47 = .ok (.iconst 4, 1) := by decide +kernel
theorem dX2_walk_48 : decode cX2_walk 48 = .ok (.ireturn, 1) := by decide +kernel
theorem dX2_walk_49 : decode cX2_walk 49 = .ok (.iload 4, 2) := by decide +kernel
theorem dX2_walk_51 : decode cX2_walk 51 = .ok (.bipush 9, 2) := by decide +kernel
theorem dX2_walk_53 : decode cX2_walk 53 = .ok (.if_icmp .lt 5, 3) := by decide +kernel
theorem dX2_walk_56 : decode cX2_walk 56 = .ok (.iconst 5, 1) := by decide +kernel
theorem dX2_walk_57 : decode cX2_walk 57 = .ok (.ireturn, 1) := by decide +kernel
theorem dX2_walk_58 : decode cX2_walk 58 = .ok (.bipush 9, 2) := by decide +kernel
theorem dX2_walk_60 : decode cX2_walk 60 = .ok (.iload 4, 2) := by decide +kernel
theorem dX2_walk_62 : decode cX2_walk 62 = .ok (.iconst 1, 1) := by decide +kernel
theorem dX2_walk_63 : decode cX2_walk 63 = .ok (.iadd, 1) := by decide +kernel
theorem dX2_walk_64 : decode cX2_walk 64 = .ok (.aload_n 0, 1) := by decide +kernel
theorem dX2_walk_65 : decode cX2_walk 65 = .ok (.iload_n 1, 1) := by decide +kernel
theorem dX2_walk_66 : decode cX2_walk 66 = .ok (.invokevirtual 83, 3) := by decide +kernel
theorem dX2_walk_69 : decode cX2_walk 69 = .ok (.iadd, 1) := by decide +kernel
theorem dX2_walk_70 : decode cX2_walk 70 = .ok (.invokestatic 86, 3) := by decide +kernel
theorem dX2_walk_73 : decode cX2_walk 73 = .ok (.istore 5, 2) := by decide +kernel
theorem dX2_walk_75 : decode cX2_walk 75 = .ok (.aload_n 0, 1) := by decide +kernel
theorem dX2_walk_76 : decode cX2_walk 76 = .ok (.iload_n 3, 1) := by decide +kernel
theorem dX2_walk_77 : decode cX2_walk 77 = .ok (.iload_n 2, 1) := by decide +kernel
theorem dX2_walk_78 : decode cX2_walk 78 = .ok (.iload 5, 2) := by decide +kernel
theorem dX2_walk_80 : decode cX2_walk 80 = .ok (.invokevirtual 91, 3) := by decide +kernel
theorem dX2_walk_83 : decode cX2_walk 83 = .ok (.aload_n 0, 1) := by decide +kernel
theorem dX2_walk_84 : decode cX2_walk 84 = .ok (.getfield 15, 3) := by decide +kernel
theorem dX2_walk_87 : decode cX2_walk 87 = .ok (.iload_n 1, 1) := by decide +kernel
theorem dX2_walk_88 : decode cX2_walk 88 = .ok (.iload_n 2, 1) := by decide +kernel
theorem dX2_walk_89 : decode cX2_walk 89 = .ok (.invokestatic 46, 3) := by decide +kernel
theorem dX2_walk_92 : decode cX2_walk 92 = .ok (.iload 5, 2) := by decide +kernel
theorem dX2_walk_94 : decode cX2_walk 94 = .ok (.bipush 9, 2) := by decide +kernel
theorem dX2_walk_96 : decode cX2_walk 96 = .ok (.if_icmp .ne 21, 3) := by decide +kernel
theorem dX2_walk_99 : decode cX2_walk 99 = .ok (.aload_n 0, 1) := by decide +kernel
theorem dX2_walk_100 : decode cX2_walk 100 = .ok (.getfield 25, 3) := by decide +kernel
theorem dX2_walk_103 : decode cX2_walk 103 = .ok (.bipush (-6), 2) := by decide +kernel
theorem dX2_walk_105 : decode cX2_walk 105 = .ok (.if_icmp .ne 12, 3) := by decide +kernel
theorem dX2_walk_108 : decode cX2_walk 108 = .ok (.aload_n 0, 1) := by decide +kernel
theorem dX2_walk_109 : decode cX2_walk 109 = .ok (.iload_n 3, 1) := by decide +kernel
theorem dX2_walk_110 : decode cX2_walk 110 = .ok (.iload_n 2, 1) := by decide +kernel
theorem dX2_walk_111 : decode cX2_walk 111 = .ok (.invokestatic 95, 3) := by decide +kernel
theorem dX2_walk_114 : decode cX2_walk 114 = .ok (.putfield 25, 3) := by decide +kernel
theorem dX2_walk_117 : decode cX2_walk 117 = .ok (.iconst 0, 1) := by decide +kernel
theorem dX2_walk_118 : decode cX2_walk 118 = .ok (.ireturn, 1) := by decide +kernel
theorem dX2_walkersThere_0 : decode cX2_walkersThere 0 = .ok (.iconst 0, 1) := by decide +kernel
theorem dX2_walkersThere_1 : decode cX2_walkersThere 1 = .ok (.istore_n 1, 1) := by decide +kernel
theorem dX2_walkersThere_2 : decode cX2_walkersThere 2 = .ok (.iconst 0, 1) := by decide +kernel
theorem dX2_walkersThere_3 : decode cX2_walkersThere 3 = .ok (.istore_n 2, 1) := by decide +kernel
theorem dX2_walkersThere_4 : decode cX2_walkersThere 4 = .ok (.iload_n 2, 1) := by decide +kernel
theorem dX2_walkersThere_5 : decode cX2_walkersThere 5 = .ok (.bipush 6, 2) := by decide +kernel
theorem dX2_walkersThere_7 : decode cX2_walkersThere 7 = .ok (.if_icmp .ge 23, 3) := by decide +kernel
theorem dX2_walkersThere_10 : decode cX2_walkersThere 10 = .ok (.aload_n 0, 1) := by decide +kernel
theorem dX2_walkersThere_11 : decode cX2_walkersThere 11 = .ok (.iload_n 2, 1) := by decide +kernel
theorem dX2_walkersThere_12 : decode cX2_walkersThere 12 = .ok (.invokevirtual 77, 3) := by decide +kernel
theorem dX2_walkersThere_15 : decode cX2_walkersThere 15 = .ok (.ifCond .eq 9, 3) := by decide +kernel
theorem dX2_walkersThere_18 : decode cX2_walkersThere 18 = .ok (.iload_n 1, 1) := by decide +kernel
theorem dX2_walkersThere_19 : decode cX2_walkersThere 19 = .ok (.iconst 1, 1) := by decide +kernel
theorem dX2_walkersThere_20 : decode cX2_walkersThere 20 = .ok (.iload_n 2, 1) := by decide +kernel
theorem dX2_walkersThere_21 : decode cX2_walkersThere 21 = .ok (.ishl, 1) := by decide +kernel
theorem dX2_walkersThere_22 : decode cX2_walkersThere 22 = .ok (.ior, 1) := by decide +kernel
theorem dX2_walkersThere_23 : decode cX2_walkersThere 23 = .ok (.istore_n 1, 1) := by decide +kernel
theorem dX2_walkersThere_24 : decode cX2_walkersThere 24 = .ok (.iinc 2 1, 3) := by decide +kernel
theorem dX2_walkersThere_27 : decode cX2_walkersThere 27 = .ok (.goto (-23), 3) := by decide +kernel
theorem dX2_walkersThere_30 : decode cX2_walkersThere 30 = .ok (.iload_n 1, 1) := by decide +kernel
theorem dX2_walkersThere_31 : decode cX2_walkersThere 31 = .ok (.ireturn, 1) := by decide +kernel
theorem dX3_add_0 : decode cX3_add 0 = .ok (.aload_n 0, 1) := by decide +kernel
theorem dX3_add_1 : decode cX3_add 1 = .ok (.getfield 21, 3) := by decide +kernel
theorem dX3_add_4 : decode cX3_add 4 = .ok (.bipush 8, 2) := by decide +kernel
theorem dX3_add_6 : decode cX3_add 6 = .ok (.if_icmp .lt 4, 3) := by decide +kernel
theorem dX3_add_9 : decode cX3_add 9 = .ok (.return_, 1) := by decide +kernel
theorem dX3_add_10 : decode cX3_add 10 = .ok (.aload_n 0, 1) := by decide +kernel
theorem dX3_add_11 : decode cX3_add 11 = .ok (.getfield 9, 3) := by decide +kernel
theorem dX3_add_14 : decode cX3_add 14 = .ok (.aload_n 0, 1) := by decide +kernel
theorem dX3_add_15 : decode cX3_add 15 = .ok (.getfield 21, 3) := by decide +kernel
theorem dX3_add_18 : decode cX3_add 18 = .ok (.iload_n 1, 1) := by decide +kernel
theorem dX3_add_19 : decode cX3_add 19 = .ok (.invokestatic 29, 3) := by decide +kernel
theorem dX3_add_22 : decode cX3_add 22 = .ok (.aload_n 0, 1) := by decide +kernel
theorem dX3_add_23 : decode cX3_add 23 = .ok (.getfield 15, 3) := by decide +kernel
theorem dX3_add_26 : decode cX3_add 26 = .ok (.aload_n 0, 1) := by decide +kernel
theorem dX3_add_27 : decode cX3_add 27 = .ok (.getfield 21, 3) := by decide +kernel
theorem dX3_add_30 : decode cX3_add 30 = .ok (.iload_n 2, 1) := by decide +kernel
theorem dX3_add_31 : decode cX3_add 31 = .ok (.invokestatic 29, 3) := by decide +kernel
theorem dX3_add_34 : decode cX3_add 34 = .ok (.aload_n 0, 1) := by decide +kernel
theorem dX3_add_35 : decode cX3_add 35 = .ok (.getfield 18, 3) := by decide +kernel
theorem dX3_add_38 : decode cX3_add 38 = .ok (.aload_n 0, 1) := by decide +kernel
theorem dX3_add_39 : decode cX3_add 39 = .ok (.getfield 21, 3) := by decide +kernel
theorem dX3_add_42 : decode cX3_add 42 = .ok (.iload_n 3, 1) := by decide +kernel
theorem dX3_add_43 : decode cX3_add 43 = .ok (.invokestatic 29, 3) := by decide +kernel
theorem dX3_add_46 : decode cX3_add 46 = .ok (.aload_n 0, 1) := by decide +kernel
theorem dX3_add_47 : decode cX3_add 47 = .ok (.dup, 1) := by decide +kernel
theorem dX3_add_48 : decode cX3_add 48 = .ok (.getfield 21, 3) := by decide +kernel
theorem dX3_add_51 : decode cX3_add 51 = .ok (.iconst 1, 1) := by decide +kernel
theorem dX3_add_52 : decode cX3_add 52 = .ok (.iadd, 1) := by decide +kernel
theorem dX3_add_53 : decode cX3_add 53 = .ok (.putfield 21, 3) := by decide +kernel
theorem dX3_add_56 : decode cX3_add 56 = .ok (.return_, 1) := by decide +kernel
theorem dX3_allowGuess_0 : decode cX3_allowGuess 0 = .ok (.iconst 0, 1) := by decide +kernel
theorem dX3_allowGuess_1 : decode cX3_allowGuess 1 = .ok (.istore_n 2, 1) := by decide +kernel
theorem dX3_allowGuess_2 : decode cX3_allowGuess 2 = .ok (.iload_n 2, 1) := by decide +kernel
theorem dX3_allowGuess_3 : decode cX3_allowGuess 3 = .ok (.aload_n 0, 1) := by decide +kernel
theorem dX3_allowGuess_4 : decode cX3_allowGuess 4 = .ok (.getfield 21, 3) := by decide +kernel
theorem dX3_allowGuess_7 : decode cX3_allowGuess 7 = .ok (.if_icmp .ge 48, 3) := by decide +kernel
theorem dX3_allowGuess_10 : decode cX3_allowGuess 10 = .ok (.iload_n 2, 1) := by decide +kernel
theorem dX3_allowGuess_11 : decode cX3_allowGuess 11 = .ok (.bipush 8, 2) := by decide +kernel
theorem dX3_allowGuess_13 : decode cX3_allowGuess 13 = .ok (.if_icmp .ge 42, 3) := by decide +kernel
theorem dX3_allowGuess_16 : decode cX3_allowGuess 16 = .ok (.aload_n 0, 1) := by decide +kernel
theorem dX3_allowGuess_17 : decode cX3_allowGuess 17 = .ok (.getfield 9, 3) := by decide +kernel
theorem dX3_allowGuess_20 : decode cX3_allowGuess 20 = .ok (.iload_n 2, 1) := by decide +kernel
theorem dX3_allowGuess_21 : decode cX3_allowGuess 21 = .ok (.invokestatic 33, 3) := by decide +kernel
theorem dX3_allowGuess_24 : decode cX3_allowGuess 24 = .ok (.aload_n 0, 1) := by decide +kernel
theorem dX3_allowGuess_25 : decode cX3_allowGuess 25 = .ok (.getfield 15, 3) := by decide +kernel
theorem dX3_allowGuess_28 : decode cX3_allowGuess 28 = .ok (.iload_n 2, 1) := by decide +kernel
theorem dX3_allowGuess_29 : decode cX3_allowGuess 29 = .ok (.invokestatic 33, 3) := by decide +kernel
theorem dX3_allowGuess_32 : decode cX3_allowGuess 32 = .ok (.iload_n 1, 1) := by decide +kernel
theorem dX3_allowGuess_33 : decode cX3_allowGuess 33 = .ok (.invokestatic 37, 3) := by decide +kernel
theorem dX3_allowGuess_36 : decode cX3_allowGuess 36 = .ok (.aload_n 0, 1) := by decide +kernel
theorem dX3_allowGuess_37 : decode cX3_allowGuess 37 = .ok (.getfield 18, 3) := by decide +kernel
theorem dX3_allowGuess_40 : decode cX3_allowGuess 40 = .ok (.iload_n 2, 1) := by decide +kernel
theorem dX3_allowGuess_41 : decode cX3_allowGuess 41 = .ok (.invokestatic 33, 3) := by decide +kernel
theorem dX3_allowGuess_44 : decode cX3_allowGuess 44 = .ok (.if_icmp .eq 5, 3) := by decide +kernel
theorem dX3_allowGuess_47 : decode cX3_allowGuess 47 = .ok (.iconst 0, 1) := by decide +kernel
theorem dX3_allowGuess_48 : decode cX3_allowGuess 48 = .ok (.ireturn, 1) := by decide +kernel
theorem dX3_allowGuess_49 : decode cX3_allowGuess 49 = .ok (.iinc 2 1, 3) := by decide +kernel
theorem dX3_allowGuess_52 : decode cX3_allowGuess 52 = .ok (.goto (-50), 3) := by decide +kernel
theorem dX3_allowGuess_55 : decode cX3_allowGuess 55 = .ok (.iconst 1, 1) := by decide +kernel
theorem dX3_allowGuess_56 : decode cX3_allowGuess 56 = .ok (.ireturn, 1) := by decide +kernel
theorem dX3_copyFrom_0 : decode cX3_copyFrom 0 = .ok (.aload_n 1, 1) := by decide +kernel
theorem dX3_copyFrom_1 : decode cX3_copyFrom 1 = .ok (.getfield 9, 3) := by decide +kernel
theorem dX3_copyFrom_4 : decode cX3_copyFrom 4 = .ok (.aload_n 0, 1) := by decide +kernel
theorem dX3_copyFrom_5 : decode cX3_copyFrom 5 = .ok (.getfield 9, 3) := by decide +kernel
theorem dX3_copyFrom_8 : decode cX3_copyFrom 8 = .ok (.invokestatic 25, 3) := by decide +kernel
theorem dX3_copyFrom_11 : decode cX3_copyFrom 11 = .ok (.aload_n 1, 1) := by decide +kernel
theorem dX3_copyFrom_12 : decode cX3_copyFrom 12 = .ok (.getfield 15, 3) := by decide +kernel
theorem dX3_copyFrom_15 : decode cX3_copyFrom 15 = .ok (.aload_n 0, 1) := by decide +kernel
theorem dX3_copyFrom_16 : decode cX3_copyFrom 16 = .ok (.getfield 15, 3) := by decide +kernel
theorem dX3_copyFrom_19 : decode cX3_copyFrom 19 = .ok (.invokestatic 25, 3) := by decide +kernel
theorem dX3_copyFrom_22 : decode cX3_copyFrom 22 = .ok (.aload_n 1, 1) := by decide +kernel
theorem dX3_copyFrom_23 : decode cX3_copyFrom 23 = .ok (.getfield 18, 3) := by decide +kernel
theorem dX3_copyFrom_26 : decode cX3_copyFrom 26 = .ok (.aload_n 0, 1) := by decide +kernel
theorem dX3_copyFrom_27 : decode cX3_copyFrom 27 = .ok (.getfield 18, 3) := by decide +kernel
theorem dX3_copyFrom_30 : decode cX3_copyFrom 30 = .ok (.invokestatic 25, 3) := by decide +kernel
theorem dX3_copyFrom_33 : decode cX3_copyFrom 33 = .ok (.aload_n 0, 1) := by decide +kernel
theorem dX3_copyFrom_34 : decode cX3_copyFrom 34 = .ok (.aload_n 1, 1) := by decide +kernel
theorem dX3_copyFrom_35 : decode cX3_copyFrom 35 = .ok (.getfield 21, 3) := by decide +kernel
theorem dX3_copyFrom_38 : decode cX3_copyFrom 38 = .ok (.putfield 21, 3) := by decide +kernel
theorem dX3_copyFrom_41 : decode cX3_copyFrom 41 = .ok (.return_, 1) := by decide +kernel
theorem dX3_init_0 : decode cX3_init 0 = .ok (.aload_n 0, 1) := by decide +kernel
theorem dX3_init_1 : decode cX3_init 1 = .ok (.invokespecial 3, 3) := by decide +kernel
theorem dX3_init_4 : decode cX3_init 4 = .ok (.aload_n 0, 1) := by decide +kernel
theorem dX3_init_5 : decode cX3_init 5 = .ok (.bipush 8, 2) := by decide +kernel
theorem dX3_init_7 : decode cX3_init 7 = .ok (.newarray .int, 2) := by decide +kernel
theorem dX3_init_9 : decode cX3_init 9 = .ok (.putfield 9, 3) := by decide +kernel
theorem dX3_init_12 : decode cX3_init 12 = .ok (.aload_n 0, 1) := by decide +kernel
theorem dX3_init_13 : decode cX3_init 13 = .ok (.bipush 8, 2) := by decide +kernel
theorem dX3_init_15 : decode cX3_init 15 = .ok (.newarray .int, 2) := by decide +kernel
theorem dX3_init_17 : decode cX3_init 17 = .ok (.putfield 15, 3) := by decide +kernel
theorem dX3_init_20 : decode cX3_init 20 = .ok (.aload_n 0, 1) := by decide +kernel
theorem dX3_init_21 : decode cX3_init 21 = .ok (.bipush 8, 2) := by decide +kernel
theorem dX3_init_23 : decode cX3_init 23 = .ok (.newarray .int, 2) := by decide +kernel
theorem dX3_init_25 : decode cX3_init 25 = .ok (.putfield 18, 3) := by decide +kernel
theorem dX3_init_28 : decode cX3_init 28 = .ok (.aload_n 0, 1) := by decide +kernel
theorem dX3_init_29 : decode cX3_init 29 = .ok (.iconst 0, 1) := by decide +kernel
theorem dX3_init_30 : decode cX3_init 30 = .ok (.putfield 21, 3) := by decide +kernel
theorem dX3_init_33 : decode cX3_init 33 = .ok (.return_, 1) := by decide +kernel
theorem dX4_begin_0 : decode cX4_begin 0 = .ok (.aload_n 0, 1) := by decide +kernel
theorem dX4_begin_1 : decode cX4_begin 1 = .ok (.getfield 12, 3) := by decide +kernel
theorem dX4_begin_4 : decode cX4_begin 4 = .ok (.aload_n 1, 1) := by decide +kernel
theorem dX4_begin_5 : decode cX4_begin 5 = .ok (.invokevirtual 51, 3) := by decide +kernel
theorem dX4_begin_8 : decode cX4_begin 8 = .ok (.aload_n 0, 1) := by decide +kernel
theorem dX4_begin_9 : decode cX4_begin 9 = .ok (.iconst 0, 1) := by decide +kernel
theorem dX4_begin_10 : decode cX4_begin 10 = .ok (.putfield 18, 3) := by decide +kernel
theorem dX4_begin_13 : decode cX4_begin 13 = .ok (.aload_n 0, 1) := by decide +kernel
theorem dX4_begin_14 : decode cX4_begin 14 = .ok (.bipush (-6), 2) := by decide +kernel
theorem dX4_begin_16 : decode cX4_begin 16 = .ok (.putfield 22, 3) := by decide +kernel
theorem dX4_begin_19 : decode cX4_begin 19 = .ok (.aload_n 0, 1) := by decide +kernel
theorem dX4_begin_20 : decode cX4_begin 20 = .ok (.bipush (-6), 2) := by decide +kernel
theorem dX4_begin_22 : decode cX4_begin 22 = .ok (.putfield 25, 3) := by decide +kernel
theorem dX4_begin_25 : decode cX4_begin 25 = .ok (.aload_n 0, 1) := by decide +kernel
theorem dX4_begin_26 : decode cX4_begin 26 = .ok (.bipush (-6), 2) := by decide +kernel
theorem dX4_begin_28 : decode cX4_begin 28 = .ok (.putfield 28, 3) := by decide +kernel
theorem dX4_begin_31 : decode cX4_begin 31 = .ok (.return_, 1) := by decide +kernel
theorem dX4_follow_0 : decode cX4_follow 0 = .ok (.aload_n 0, 1) := by decide +kernel
theorem dX4_follow_1 : decode cX4_follow 1 = .ok (.aload_n 2, 1) := by decide +kernel
theorem dX4_follow_2 : decode cX4_follow 2 = .ok (.invokevirtual 31, 3) := by decide +kernel
theorem dX4_follow_5 : decode cX4_follow 5 = .ok (.iconst 0, 1) := by decide +kernel
theorem dX4_follow_6 : decode cX4_follow 6 = .ok (.istore_n 3, 1) := by decide +kernel
theorem dX4_follow_7 : decode cX4_follow 7 = .ok (.iconst 0, 1) := by decide +kernel
theorem dX4_follow_8 : decode cX4_follow 8 = .ok (.istore 4, 2) := by decide +kernel
theorem dX4_follow_10 : decode cX4_follow 10 = .ok (.iload 4, 2) := by decide +kernel
theorem dX4_follow_12 : decode cX4_follow 12 = .ok (.bipush 60, 2) := by decide +kernel
theorem dX4_follow_14 : decode cX4_follow 14 = .ok (.if_icmp .ge 88, 3) := by decide +kernel
theorem dX4_follow_17 : decode cX4_follow 17 = .ok (.iload_n 3, 1) := by decide +kernel
theorem dX4_follow_18 : decode cX4_follow 18 = .ok (.aload_n 1, 1) := by decide +kernel
theorem dX4_follow_19 : decode cX4_follow 19 = .ok (.getfield 35, 3) := by decide +kernel
theorem dX4_follow_22 : decode cX4_follow 22 = .ok (.if_icmp .ge 80, 3) := by decide +kernel
theorem dX4_follow_25 : decode cX4_follow 25 = .ok (.aload_n 0, 1) := by decide +kernel
theorem dX4_follow_26 : decode cX4_follow 26 = .ok (.aload_n 1, 1) := by decide +kernel
theorem dX4_follow_27 : decode cX4_follow 27 = .ok (.iload_n 3, 1) := by decide +kernel
theorem dX4_follow_28 : decode cX4_follow 28 = .ok (.invokevirtual 40, 3) := by decide +kernel
theorem dX4_follow_31 : decode cX4_follow 31 = .ok (.istore 5, 2) := by decide +kernel
theorem dX4_follow_33 : decode cX4_follow 33 = .ok (.iload 5, 2) := by decide +kernel
theorem dX4_follow_35 : decode cX4_follow 35 = .ok (.ifCond .eq 16, 3) := by decide +kernel
theorem dX4_follow_38 : decode cX4_follow 38 = .ok (.aload_n 0, 1) := by decide +kernel
theorem dX4_follow_39 : decode cX4_follow 39 = .ok (.iload 4, 2) := by decide +kernel
theorem dX4_follow_41 : decode cX4_follow 41 = .ok (.putfield 22, 3) := by decide +kernel
theorem dX4_follow_44 : decode cX4_follow 44 = .ok (.aload_n 0, 1) := by decide +kernel
theorem dX4_follow_45 : decode cX4_follow 45 = .ok (.iload 5, 2) := by decide +kernel
theorem dX4_follow_47 : decode cX4_follow 47 = .ok (.putfield 25, 3) := by decide +kernel
theorem dX4_follow_50 : decode cX4_follow 50 = .ok (.return_, 1) := by decide +kernel
theorem dX4_follow_51 : decode cX4_follow 51 = .ok (.aload_n 0, 1) := by decide +kernel
theorem dX4_follow_52 : decode cX4_follow 52 = .ok (.getfield 28, 3) := by decide +kernel
theorem dX4_follow_55 : decode cX4_follow 55 = .ok (.bipush (-6), 2) := by decide +kernel
theorem dX4_follow_57 : decode cX4_follow 57 = .ok (.if_icmp .ne 21, 3) := by decide +kernel
theorem dX4_follow_60 : decode cX4_follow 60 = .ok (.aload_n 0, 1) := by decide +kernel
theorem dX4_follow_61 : decode cX4_follow 61 = .ok (.getfield 12, 3) := by decide +kernel
theorem dX4_follow_64 : decode cX4_follow 64 = .ok (.getfield 44, 3) := by decide +kernel
theorem dX4_follow_67 : decode cX4_follow 67 = .ok (.bipush (-6), 2) := by decide +kernel
theorem dX4_follow_69 : decode cX4_follow 69 = .ok (.if_icmp .eq 9, 3) := by decide +kernel
theorem dX4_follow_72 : decode cX4_follow 72 = .ok (.aload_n 0, 1) := by decide +kernel
theorem dX4_follow_73 : decode cX4_follow 73 = .ok (.iload 4, 2) := by decide +kernel
theorem dX4_follow_75 : decode cX4_follow 75 = .ok (.putfield 28, 3) := by decide +kernel
theorem dX4_follow_78 : decode cX4_follow 78 = .ok (.aload_n 0, 1) := by decide +kernel
theorem dX4_follow_79 : decode cX4_follow 79 = .ok (.dup, 1) := by decide +kernel
theorem dX4_follow_80 : decode cX4_follow 80 = .ok (.getfield 18, 3) := by decide +kernel
theorem dX4_follow_83 : decode cX4_follow 83 = .ok (.iconst 1, 1) := by decide +kernel
theorem dX4_follow_84 : decode cX4_follow 84 = .ok (.iadd, 1) := by decide +kernel
theorem dX4_follow_85 : decode cX4_follow 85 = .ok (.putfield 18, 3) := by decide +kernel
theorem dX4_follow_88 : decode cX4_follow 88 = .ok (.iload_n 3, 1) := by decide +kernel
theorem dX4_follow_89 : decode cX4_follow 89 = .ok (.aload_n 1, 1) := by decide +kernel
theorem dX4_follow_90 : decode cX4_follow 90 = .ok (.iload_n 3, 1) := by decide +kernel
theorem dX4_follow_91 : decode cX4_follow 91 = .ok (.invokevirtual 47, 3) := by decide +kernel
theorem dX4_follow_94 : decode cX4_follow 94 = .ok (.iadd, 1) := by decide +kernel
theorem dX4_follow_95 : decode cX4_follow 95 = .ok (.istore_n 3, 1) := by decide +kernel
theorem dX4_follow_96 : decode cX4_follow 96 = .ok (.iinc 4 1, 3) := by decide +kernel
theorem dX4_follow_99 : decode cX4_follow 99 = .ok (.goto (-89), 3) := by decide +kernel
theorem dX4_follow_102 : decode cX4_follow 102 = .ok (.return_, 1) := by decide +kernel
theorem dX4_followDraws_0 : decode cX4_followDraws 0 = .ok (.aload_n 0, 1) := by decide +kernel
theorem dX4_followDraws_1 : decode cX4_followDraws 1 = .ok (.aload_n 3, 1) := by decide +kernel
theorem dX4_followDraws_2 : decode cX4_followDraws 2 = .ok (.invokevirtual 31, 3) := by decide +kernel
theorem dX4_followDraws_5 : decode cX4_followDraws 5 = .ok (.iload_n 1, 1) := by decide +kernel
theorem dX4_followDraws_6 : decode cX4_followDraws 6 = .ok (.istore 4, 2) := by decide +kernel
theorem dX4_followDraws_8 : decode cX4_followDraws 8 = .ok (.iconst 0, 1) := by decide +kernel
theorem dX4_followDraws_9 : decode cX4_followDraws 9 = .ok (.istore 5, 2) := by decide +kernel
theorem dX4_followDraws_11 : decode cX4_followDraws 11 = .ok (.iload 5, 2) := by decide +kernel
theorem dX4_followDraws_13 : decode cX4_followDraws 13 = .ok (.iload_n 2, 1) := by decide +kernel
theorem dX4_followDraws_14 : decode cX4_followDraws 14 = .ok (.if_icmp .ge 28, 3) := by decide +kernel
theorem dX4_followDraws_17 : decode cX4_followDraws 17 = .ok (.bipush 75, 2) := by decide +kernel
theorem dX4_followDraws_19 : decode cX4_followDraws 19 = .ok (.iload 4, 2) := by decide +kernel
theorem dX4_followDraws_21 : decode cX4_followDraws 21 = .ok (.imul, 1) := by decide +kernel
theorem dX4_followDraws_22 : decode cX4_followDraws 22 = .ok (.bipush 74, 2) := by decide +kernel
theorem dX4_followDraws_24 : decode cX4_followDraws 24 = .ok (.iadd, 1) := by decide +kernel
theorem dX4_followDraws_25 : decode cX4_followDraws 25 = .ok (.ldc 78, 2) := by decide +kernel
theorem dX4_followDraws_27 : decode cX4_followDraws 27 = .ok (.irem, 1) := by decide +kernel
theorem dX4_followDraws_28 : decode cX4_followDraws 28 = .ok (.istore 4, 2) := by decide +kernel
theorem dX4_followDraws_30 : decode cX4_followDraws 30 = .ok (.aload_n 0, 1) := by decide +kernel
theorem dX4_followDraws_31 : decode cX4_followDraws 31 = .ok (.iload 4, 2) := by decide +kernel
theorem dX4_followDraws_33 : decode cX4_followDraws 33 = .ok (.invokevirtual 79, 3) := by decide +kernel
theorem dX4_followDraws_36 : decode cX4_followDraws 36 = .ok (.iinc 5 1, 3) := by decide +kernel
theorem dX4_followDraws_39 : decode cX4_followDraws 39 = .ok (.goto (-28), 3) := by decide +kernel
theorem dX4_followDraws_42 : decode cX4_followDraws 42 = .ok (.return_, 1) := by decide +kernel
theorem dX4_init_0 : decode cX4_init 0 = .ok (.aload_n 0, 1) := by decide +kernel
theorem dX4_init_1 : decode cX4_init 1 = .ok (.invokespecial 3, 3) := by decide +kernel
theorem dX4_init_4 : decode cX4_init 4 = .ok (.aload_n 0, 1) := by decide +kernel
theorem dX4_init_5 : decode cX4_init 5 = .ok (.new 9, 3) := by decide +kernel
theorem dX4_init_8 : decode cX4_init 8 = .ok (.dup, 1) := by decide +kernel
theorem dX4_init_9 : decode cX4_init 9 = .ok (.invokespecial 11, 3) := by decide +kernel
theorem dX4_init_12 : decode cX4_init 12 = .ok (.putfield 12, 3) := by decide +kernel
theorem dX4_init_15 : decode cX4_init 15 = .ok (.aload_n 0, 1) := by decide +kernel
theorem dX4_init_16 : decode cX4_init 16 = .ok (.iconst 0, 1) := by decide +kernel
theorem dX4_init_17 : decode cX4_init 17 = .ok (.putfield 18, 3) := by decide +kernel
theorem dX4_init_20 : decode cX4_init 20 = .ok (.aload_n 0, 1) := by decide +kernel
theorem dX4_init_21 : decode cX4_init 21 = .ok (.bipush (-6), 2) := by decide +kernel
theorem dX4_init_23 : decode cX4_init 23 = .ok (.putfield 22, 3) := by decide +kernel
theorem dX4_init_26 : decode cX4_init 26 = .ok (.aload_n 0, 1) := by decide +kernel
theorem dX4_init_27 : decode cX4_init 27 = .ok (.bipush (-6), 2) := by decide +kernel
theorem dX4_init_29 : decode cX4_init 29 = .ok (.putfield 25, 3) := by decide +kernel
theorem dX4_init_32 : decode cX4_init 32 = .ok (.aload_n 0, 1) := by decide +kernel
theorem dX4_init_33 : decode cX4_init 33 = .ok (.bipush (-6), 2) := by decide +kernel
theorem dX4_init_35 : decode cX4_init 35 = .ok (.putfield 28, 3) := by decide +kernel
theorem dX4_init_38 : decode cX4_init 38 = .ok (.return_, 1) := by decide +kernel
theorem dX4_take_0 : decode cX4_take 0 = .ok (.aload_n 1, 1) := by decide +kernel
theorem dX4_take_1 : decode cX4_take 1 = .ok (.iload_n 2, 1) := by decide +kernel
theorem dX4_take_2 : decode cX4_take 2 = .ok (.invokevirtual 54, 3) := by decide +kernel
theorem dX4_take_5 : decode cX4_take 5 = .ok (.istore_n 3, 1) := by decide +kernel
theorem dX4_take_6 : decode cX4_take 6 = .ok (.iload_n 3, 1) := by decide +kernel
theorem dX4_take_7 : decode cX4_take 7 = .ok (.bipush 46, 2) := by decide +kernel
theorem dX4_take_9 : decode cX4_take 9 = .ok (.if_icmp .ne 11, 3) := by decide +kernel
theorem dX4_take_12 : decode cX4_take 12 = .ok (.aload_n 0, 1) := by decide +kernel
theorem dX4_take_13 : decode cX4_take 13 = .ok (.getfield 12, 3) := by decide +kernel
theorem dX4_take_16 : decode cX4_take 16 = .ok (.invokevirtual 57, 3) := by decide +kernel
theorem dX4_take_19 : decode cX4_take 19 = .ok (.ireturn, 1) := by decide +kernel
theorem dX4_take_20 : decode cX4_take 20 = .ok (.aload_n 1, 1) := by decide +kernel
theorem dX4_take_21 : decode cX4_take 21 = .ok (.iload_n 2, 1) := by decide +kernel
theorem dX4_take_22 : decode cX4_take 22 = .ok (.iconst 1, 1) := by decide +kernel
theorem dX4_take_23 : decode cX4_take 23 = .ok (.iadd, 1) := by decide +kernel
theorem dX4_take_24 : decode cX4_take 24 = .ok (.invokevirtual 61, 3) := by decide +kernel
theorem dX4_take_27 : decode cX4_take 27 = .ok (.istore 4, 2) := by decide +kernel
theorem dX4_take_29 : decode cX4_take 29 = .ok (.aload_n 1, 1) := by decide +kernel
theorem dX4_take_30 : decode cX4_take 30 = .ok (.iload_n 2, 1) := by decide +kernel
theorem dX4_take_31 : decode cX4_take 31 = .ok (.iconst 2, 1) := by decide +kernel
theorem dX4_take_32 : decode cX4_take 32 = .ok (.iadd, 1) := by decide +kernel
theorem dX4_take_33 : decode cX4_take 33 = .ok (.invokevirtual 61, 3) := by decide +kernel
theorem dX4_take_36 : decode cX4_take 36 = .ok (.istore 5, 2) := by decide +kernel
theorem dX4_take_38 : decode cX4_take 38 = .ok (.iload_n 3, 1) := by decide +kernel
theorem dX4_take_39 : decode cX4_take 39 = .ok (.bipush 109, 2) := by decide +kernel
theorem dX4_take_41 : decode cX4_take 41 = .ok (.if_icmp .ne 15, 3) := by decide +kernel
theorem dX4_take_44 : decode cX4_take 44 = .ok (.aload_n 0, 1) := by decide +kernel
theorem dX4_take_45 : decode cX4_take 45 = .ok (.getfield 12, 3) := by decide +kernel
theorem dX4_take_48 : decode cX4_take 48 = .ok (.iload 4, 2) := by decide +kernel
theorem dX4_take_50 : decode cX4_take 50 = .ok (.iload 5, 2) := by decide +kernel
theorem dX4_take_52 : decode cX4_take 52 = .ok (.invokevirtual 64, 3) := by decide +kernel
theorem dX4_take_55 : decode cX4_take 55 = .ok (.ireturn, 1) := by decide +kernel
theorem dX4_take_56 : decode cX4_take 56 = .ok (.iload_n 3, 1) := by decide +kernel
theorem dX4_take_57 : decode cX4_take 57 = .ok (.bipush 112, 2) := by decide +kernel
theorem dX4_take_59 : decode cX4_take 59 = .ok (.if_icmp .ne 29, 3) := by decide +kernel
theorem dX4_take_62 : decode cX4_take 62 = .ok (.aload_n 0, 1) := by decide +kernel
theorem dX4_take_63 : decode cX4_take 63 = .ok (.getfield 12, 3) := by decide +kernel
theorem dX4_take_66 : decode cX4_take 66 = .ok (.iload 4, 2) := by decide +kernel
theorem dX4_take_68 : decode cX4_take 68 = .ok (.iload 5, 2) := by decide +kernel
theorem dX4_take_70 : decode cX4_take 70 = .ok (.aload_n 1, 1) := by decide +kernel
theorem dX4_take_71 : decode cX4_take 71 = .ok (.iload_n 2, 1) := by decide +kernel
theorem dX4_take_72 : decode cX4_take 72 = .ok (.iconst 3, 1) := by decide +kernel
theorem dX4_take_73 : decode cX4_take 73 = .ok (.iadd, 1) := by decide +kernel
theorem dX4_take_74 : decode cX4_take 74 = .ok (.invokevirtual 61, 3) := by decide +kernel
theorem dX4_take_77 : decode cX4_take 77 = .ok (.aload_n 1, 1) := by decide +kernel
theorem dX4_take_78 : decode cX4_take 78 = .ok (.iload_n 2, 1) := by decide +kernel
theorem dX4_take_79 : decode cX4_take 79 = .ok (.iconst 4, 1) := by decide +kernel
theorem dX4_take_80 : decode cX4_take 80 = .ok (.iadd, 1) := by decide +kernel
theorem dX4_take_81 : decode cX4_take 81 = .ok (.invokevirtual 61, 3) := by decide +kernel
theorem dX4_take_84 : decode cX4_take 84 = .ok (.invokevirtual 68, 3) := by decide +kernel
theorem dX4_take_87 : decode cX4_take 87 = .ok (.ireturn, 1) := by decide +kernel
theorem dX4_take_88 : decode cX4_take 88 = .ok (.aload_n 1, 1) := by decide +kernel
theorem dX4_take_89 : decode cX4_take 89 = .ok (.iload_n 2, 1) := by decide +kernel
theorem dX4_take_90 : decode cX4_take 90 = .ok (.iconst 1, 1) := by decide +kernel
theorem dX4_take_91 : decode cX4_take 91 = .ok (.iadd, 1) := by decide +kernel
theorem dX4_take_92 : decode cX4_take 92 = .ok (.invokevirtual 54, 3) := by decide +kernel
theorem dX4_take_95 : decode cX4_take 95 = .ok (.bipush 94, 2) := by decide +kernel
theorem dX4_take_97 : decode cX4_take 97 = .ok (.if_icmp .ne 15, 3) := by decide +kernel
theorem dX4_take_100 : decode cX4_take 100 = .ok (.aload_n 0, 1) := by decide +kernel
theorem dX4_take_101 : decode cX4_take 101 = .ok (.getfield 12, 3) := by decide +kernel
theorem dX4_take_104 : decode cX4_take 104 = .ok (.iload_n 3, 1) := by decide +kernel
theorem dX4_take_105 : decode cX4_take 105 = .ok (.bipush 65, 2) := by decide +kernel
theorem dX4_take_107 : decode cX4_take 107 = .ok (.isub, 1) := by decide +kernel
theorem dX4_take_108 : decode cX4_take 108 = .ok (.invokevirtual 72, 3) := by decide +kernel
theorem dX4_take_111 : decode cX4_take 111 = .ok (.ireturn, 1) := by decide +kernel
theorem dX4_take_112 : decode cX4_take 112 = .ok (.aload_n 0, 1) := by decide +kernel
theorem dX4_take_113 : decode cX4_take 113 = .ok (.getfield 12, 3) := by decide +kernel
theorem dX4_take_116 : decode cX4_take 116 = .ok (.iload_n 3, 1) := by decide +kernel
theorem dX4_take_117 : decode cX4_take 117 = .ok (.bipush 65, 2) := by decide +kernel
theorem dX4_take_119 : decode cX4_take 119 = .ok (.isub, 1) := by decide +kernel
theorem dX4_take_120 : decode cX4_take 120 = .ok (.iload 4, 2) := by decide +kernel
theorem dX4_take_122 : decode cX4_take 122 = .ok (.invokevirtual 75, 3) := by decide +kernel
theorem dX4_take_125 : decode cX4_take 125 = .ok (.ireturn, 1) := by decide +kernel
theorem dX4_takeDrawn_0 : decode cX4_takeDrawn 0 = .ok (.iload_n 1, 1) := by decide +kernel
theorem dX4_takeDrawn_1 : decode cX4_takeDrawn 1 = .ok (.bipush 6, 2) := by decide +kernel
theorem dX4_takeDrawn_3 : decode cX4_takeDrawn 3 = .ok (.irem, 1) := by decide +kernel
theorem dX4_takeDrawn_4 : decode cX4_takeDrawn 4 = .ok (.istore_n 2, 1) := by decide +kernel
theorem dX4_takeDrawn_5 : decode cX4_takeDrawn 5 = .ok (.iload_n 1, 1) := by decide +kernel
theorem dX4_takeDrawn_6 : decode cX4_takeDrawn 6 = .ok (.bipush 6, 2) := by decide +kernel
theorem dX4_takeDrawn_8 : decode cX4_takeDrawn 8 = .ok (.idiv, 1) := by decide +kernel
theorem dX4_takeDrawn_9 : decode cX4_takeDrawn 9 = .ok (.bipush 8, 2) := by decide +kernel
theorem dX4_takeDrawn_11 : decode cX4_takeDrawn 11 = .ok (.irem, 1) := by decide +kernel
theorem dX4_takeDrawn_12 : decode cX4_takeDrawn 12 = .ok (.istore_n 3, 1) := by decide +kernel
theorem dX4_takeDrawn_13 : decode cX4_takeDrawn 13 = .ok (.iload_n 1, 1) := by decide +kernel
theorem dX4_takeDrawn_14 : decode cX4_takeDrawn 14 = .ok (.bipush 48, 2) := by decide +kernel
theorem dX4_takeDrawn_16 : decode cX4_takeDrawn 16 = .ok (.idiv, 1) := by decide +kernel
theorem dX4_takeDrawn_17 : decode cX4_takeDrawn 17 = .ok (.istore 4, 2) := by decide +kernel
theorem dX4_takeDrawn_19 : decode cX4_takeDrawn 19 = .ok (.iload_n 3, 1) := by decide +kernel
theorem dX4_takeDrawn_20 : decode cX4_takeDrawn 20 = .ok (.bipush 7, 2) := by decide +kernel
theorem dX4_takeDrawn_22 : decode cX4_takeDrawn 22 = .ok (.if_icmp .ne 14, 3) := by decide +kernel
theorem dX4_takeDrawn_25 : decode cX4_takeDrawn 25 = .ok (.aload_n 0, 1) := by decide +kernel
theorem dX4_takeDrawn_26 : decode cX4_takeDrawn 26 = .ok (.getfield 12, 3) := by decide +kernel
theorem dX4_takeDrawn_29 : decode cX4_takeDrawn 29 = .ok (.invokevirtual 57, 3) := by decide +kernel
theorem dX4_takeDrawn_32 : decode cX4_takeDrawn 32 = .ok (.pop, 1) := by decide +kernel
theorem dX4_takeDrawn_33 : decode cX4_takeDrawn 33 = .ok (.goto 64, 3) := by decide +kernel
theorem dX4_takeDrawn_36 : decode cX4_takeDrawn 36 = .ok (.iload_n 3, 1) := by decide +kernel
theorem dX4_takeDrawn_37 : decode cX4_takeDrawn 37 = .ok (.bipush 6, 2) := by decide +kernel
theorem dX4_takeDrawn_39 : decode cX4_takeDrawn 39 = .ok (.if_icmp .ne 27, 3) := by decide +kernel
theorem dX4_takeDrawn_42 : decode cX4_takeDrawn 42 = .ok (.aload_n 0, 1) := by decide +kernel
theorem dX4_takeDrawn_43 : decode cX4_takeDrawn 43 = .ok (.getfield 12, 3) := by decide +kernel
theorem dX4_takeDrawn_46 : decode cX4_takeDrawn 46 = .ok (.iload 4, 2) := by decide +kernel
theorem dX4_takeDrawn_48 : decode cX4_takeDrawn 48 = .ok (.bipush 9, 2) := by decide +kernel
theorem dX4_takeDrawn_50 : decode cX4_takeDrawn 50 = .ok (.irem, 1) := by decide +kernel
theorem dX4_takeDrawn_51 : decode cX4_takeDrawn 51 = .ok (.iload 4, 2) := by decide +kernel
theorem dX4_takeDrawn_53 : decode cX4_takeDrawn 53 = .ok (.bipush 9, 2) := by decide +kernel
theorem dX4_takeDrawn_55 : decode cX4_takeDrawn 55 = .ok (.idiv, 1) := by decide +kernel
theorem dX4_takeDrawn_56 : decode cX4_takeDrawn 56 = .ok (.bipush 9, 2) := by decide +kernel
theorem dX4_takeDrawn_58 : decode cX4_takeDrawn 58 = .ok (.irem, 1) := by decide +kernel
theorem dX4_takeDrawn_59 : decode cX4_takeDrawn 59 = .ok (.invokevirtual 64, 3) := by decide +kernel
theorem dX4_takeDrawn_62 : decode cX4_takeDrawn 62 = .ok (.pop, 1) := by decide +kernel
theorem dX4_takeDrawn_63 : decode cX4_takeDrawn 63 = .ok (.goto 34, 3) := by decide +kernel
theorem dX4_takeDrawn_66 : decode cX4_takeDrawn 66 = .ok (.iload_n 3, 1) := by decide +kernel
theorem dX4_takeDrawn_67 : decode cX4_takeDrawn 67 = .ok (.iconst 5, 1) := by decide +kernel
theorem dX4_takeDrawn_68 : decode cX4_takeDrawn 68 = .ok (.if_icmp .ne 15, 3) := by decide +kernel
theorem dX4_takeDrawn_71 : decode cX4_takeDrawn 71 = .ok (.aload_n 0, 1) := by decide +kernel
theorem dX4_takeDrawn_72 : decode cX4_takeDrawn 72 = .ok (.getfield 12, 3) := by decide +kernel
theorem dX4_takeDrawn_75 : decode cX4_takeDrawn 75 = .ok (.iload_n 2, 1) := by decide +kernel
theorem dX4_takeDrawn_76 : decode cX4_takeDrawn 76 = .ok (.invokevirtual 72, 3) := by decide +kernel
theorem dX4_takeDrawn_79 : decode cX4_takeDrawn 79 = .ok (.pop, 1) := by decide +kernel
theorem dX4_takeDrawn_80 : decode cX4_takeDrawn 80 = .ok (.goto 17, 3) := by decide +kernel
theorem dX4_takeDrawn_83 : decode cX4_takeDrawn 83 = .ok (.aload_n 0, 1) := by decide +kernel
theorem dX4_takeDrawn_84 : decode cX4_takeDrawn 84 = .ok (.getfield 12, 3) := by decide +kernel
theorem dX4_takeDrawn_87 : decode cX4_takeDrawn 87 = .ok (.iload_n 2, 1) := by decide +kernel
theorem dX4_takeDrawn_88 : decode cX4_takeDrawn 88 = .ok (.iload 4, 2) := by decide +kernel
theorem dX4_takeDrawn_90 : decode cX4_takeDrawn 90 = .ok (.bipush 9, 2) := by decide +kernel
theorem dX4_takeDrawn_92 : decode cX4_takeDrawn 92 = .ok (.irem, 1) := by decide +kernel
theorem dX4_takeDrawn_93 : decode cX4_takeDrawn 93 = .ok (.invokevirtual 75, 3) := by decide +kernel
theorem dX4_takeDrawn_96 : decode cX4_takeDrawn 96 = .ok (.pop, 1) := by decide +kernel
theorem dX4_takeDrawn_97 : decode cX4_takeDrawn 97 = .ok (.return_, 1) := by decide +kernel
theorem dX5_areTwoPlaces_0 : decode cX5_areTwoPlaces 0 = .ok (.iload_n 0, 1) := by decide +kernel
theorem dX5_areTwoPlaces_1 : decode cX5_areTwoPlaces 1 = .ok (.ifCond .lt 28, 3) := by decide +kernel
theorem dX5_areTwoPlaces_4 : decode cX5_areTwoPlaces 4 = .ok (.iload_n 0, 1) := by decide +kernel
theorem dX5_areTwoPlaces_5 : decode cX5_areTwoPlaces 5 = .ok (.bipush 9, 2) := by decide +kernel
theorem dX5_areTwoPlaces_7 : decode cX5_areTwoPlaces 7 = .ok (.if_icmp .ge 22, 3) := by decide +kernel
theorem dX5_areTwoPlaces_10 : decode cX5_areTwoPlaces 10 = .ok (.iload_n 1, 1) := by decide +kernel
theorem dX5_areTwoPlaces_11 : decode cX5_areTwoPlaces 11 = .ok (.ifCond .lt 18, 3) := by decide +kernel
theorem dX5_areTwoPlaces_14 : decode cX5_areTwoPlaces 14 = .ok (.iload_n 1, 1) := by decide +kernel
theorem dX5_areTwoPlaces_15 : decode cX5_areTwoPlaces 15 = .ok (.bipush 9, 2) := by decide +kernel
theorem dX5_areTwoPlaces_17 : decode cX5_areTwoPlaces 17 = .ok (.if_icmp .ge 12, 3) := by decide +kernel
theorem dX5_areTwoPlaces_20 : decode cX5_areTwoPlaces 20 = .ok (.iload_n 0, 1) := by decide +kernel
theorem dX5_areTwoPlaces_21 : decode cX5_areTwoPlaces 21 = .ok (.iload_n 1, 1) := by decide +kernel
theorem dX5_areTwoPlaces_22 : decode cX5_areTwoPlaces 22 = .ok (.if_icmp .eq 7, 3) := by decide +kernel
theorem dX5_areTwoPlaces_25 : decode cX5_areTwoPlaces 25 = .ok (.iconst 1, 1) := by decide +kernel
theorem dX5_areTwoPlaces_26 : decode cX5_areTwoPlaces 26 = .ok (.goto 4, 3) := by decide +kernel
theorem dX5_areTwoPlaces_29 : decode cX5_areTwoPlaces 29 = .ok (.iconst 0, 1) := by decide +kernel
theorem dX5_areTwoPlaces_30 : decode cX5_areTwoPlaces 30 = .ok (.ireturn, 1) := by decide +kernel
theorem dX5_ask_0 : decode cX5_ask 0 = .ok (.iload_n 1, 1) := by decide +kernel
theorem dX5_ask_1 : decode cX5_ask 1 = .ok (.iconst 0, 1) := by decide +kernel
theorem dX5_ask_2 : decode cX5_ask 2 = .ok (.iconst 1, 1) := by decide +kernel
theorem dX5_ask_3 : decode cX5_ask 3 = .ok (.invokestatic 74, 3) := by decide +kernel
theorem dX5_ask_6 : decode cX5_ask 6 = .ok (.ifCond .ne 6, 3) := by decide +kernel
theorem dX5_ask_9 : decode cX5_ask 9 = .ok (.bipush (-2), 2) := by decide +kernel
theorem dX5_ask_11 : decode cX5_ask 11 = .ok (.ireturn, 1) := by decide +kernel
theorem dX5_ask_12 : decode cX5_ask 12 = .ok (.aload_n 0, 1) := by decide +kernel
theorem dX5_ask_13 : decode cX5_ask 13 = .ok (.invokevirtual 225, 3) := by decide +kernel
theorem dX5_ask_16 : decode cX5_ask 16 = .ok (.istore_n 2, 1) := by decide +kernel
theorem dX5_ask_17 : decode cX5_ask 17 = .ok (.iload_n 2, 1) := by decide +kernel
theorem dX5_ask_18 : decode cX5_ask 18 = .ok (.ifCond .ne 6, 3) := by decide +kernel
theorem dX5_ask_21 : decode cX5_ask 21 = .ok (.bipush (-6), 2) := by decide +kernel
theorem dX5_ask_23 : decode cX5_ask 23 = .ok (.ireturn, 1) := by decide +kernel
theorem dX5_ask_24 : decode cX5_ask 24 = .ok (.iconst 0, 1) := by decide +kernel
theorem dX5_ask_25 : decode cX5_ask 25 = .ok (.istore_n 3, 1) := by decide +kernel
theorem dX5_ask_26 : decode cX5_ask 26 = .ok (.sipush 1001, 3) := by decide +kernel
theorem dX5_ask_29 : decode cX5_ask 29 = .ok (.istore 4, 2) := by decide +kernel
theorem dX5_ask_31 : decode cX5_ask 31 = .ok (.iconst 0, 1) := by decide +kernel
theorem dX5_ask_32 : decode cX5_ask 32 = .ok (.istore 5, 2) := by decide +kernel
theorem dX5_ask_34 : decode cX5_ask 34 = .ok (.iload 5, 2) := by decide +kernel
theorem dX5_ask_36 : decode cX5_ask 36 = .ok (.bipush 10, 2) := by decide +kernel
theorem dX5_ask_38 : decode cX5_ask 38 = .ok (.if_icmp .gt 55, 3) := by decide +kernel
theorem dX5_ask_41 : decode cX5_ask 41 = .ok (.iconst 0, 1) := by decide +kernel
theorem dX5_ask_42 : decode cX5_ask 42 = .ok (.istore 6, 2) := by decide +kernel
theorem dX5_ask_44 : decode cX5_ask 44 = .ok (.iload 6, 2) := by decide +kernel
theorem dX5_ask_46 : decode cX5_ask 46 = .ok (.iconst 1, 1) := by decide +kernel
theorem dX5_ask_47 : decode cX5_ask 47 = .ok (.if_icmp .gt 40, 3) := by decide +kernel
theorem dX5_ask_50 : decode cX5_ask 50 = .ok (.aload_n 0, 1) := by decide +kernel
theorem dX5_ask_51 : decode cX5_ask 51 = .ok (.iload 6, 2) := by decide +kernel
theorem dX5_ask_53 : decode cX5_ask 53 = .ok (.iload 5, 2) := by decide +kernel
theorem dX5_ask_55 : decode cX5_ask 55 = .ok (.iload_n 2, 1) := by decide +kernel
theorem dX5_ask_56 : decode cX5_ask 56 = .ok (.invokevirtual 228, 3) := by decide +kernel
theorem dX5_ask_59 : decode cX5_ask 59 = .ok (.istore 7, 2) := by decide +kernel
theorem dX5_ask_61 : decode cX5_ask 61 = .ok (.iload 7, 2) := by decide +kernel
theorem dX5_ask_63 : decode cX5_ask 63 = .ok (.iload 4, 2) := by decide +kernel
theorem dX5_ask_65 : decode cX5_ask 65 = .ok (.if_icmp .ge 16, 3) := by decide +kernel
theorem dX5_ask_68 : decode cX5_ask 68 = .ok (.iload 7, 2) := by decide +kernel
theorem dX5_ask_70 : decode cX5_ask 70 = .ok (.istore 4, 2) := by decide +kernel
theorem dX5_ask_72 : decode cX5_ask 72 = .ok (.bipush 10, 2) := by decide +kernel
theorem dX5_ask_74 : decode cX5_ask 74 = .ok (.iload 5, 2) := by decide +kernel
theorem dX5_ask_76 : decode cX5_ask 76 = .ok (.imul, 1) := by decide +kernel
theorem dX5_ask_77 : decode cX5_ask 77 = .ok (.iload 6, 2) := by decide +kernel
theorem dX5_ask_79 : decode cX5_ask 79 = .ok (.iadd, 1) := by decide +kernel
theorem dX5_ask_80 : decode cX5_ask 80 = .ok (.istore_n 3, 1) := by decide +kernel
theorem dX5_ask_81 : decode cX5_ask 81 = .ok (.iinc 6 1, 3) := by decide +kernel
theorem dX5_ask_84 : decode cX5_ask 84 = .ok (.goto (-40), 3) := by decide +kernel
theorem dX5_ask_87 : decode cX5_ask 87 = .ok (.iinc 5 1, 3) := by decide +kernel
theorem dX5_ask_90 : decode cX5_ask 90 = .ok (.goto (-56), 3) := by decide +kernel
theorem dX5_ask_93 : decode cX5_ask 93 = .ok (.iload_n 1, 1) := by decide +kernel
theorem dX5_ask_94 : decode cX5_ask 94 = .ok (.ifCond .ne 7, 3) := by decide +kernel
theorem dX5_ask_97 : decode cX5_ask 97 = .ok (.iload_n 3, 1) := by decide +kernel
theorem dX5_ask_98 : decode cX5_ask 98 = .ok (.goto 5, 3) := by decide +kernel
theorem dX5_ask_101 : decode cX5_ask 101 = .ok (.iload 4, 2) := by decide +kernel
theorem dX5_ask_103 : decode cX5_ask 103 = .ok (.ireturn, 1) := by decide +kernel
theorem dX5_at_0 : decode cX5_at 0 = .ok (.iload_n 1, 1) := by decide +kernel
theorem dX5_at_1 : decode cX5_at 1 = .ok (.ifCond .lt 15, 3) := by decide +kernel
theorem dX5_at_4 : decode cX5_at 4 = .ok (.iload_n 1, 1) := by decide +kernel
theorem dX5_at_5 : decode cX5_at 5 = .ok (.aload_n 0, 1) := by decide +kernel
theorem dX5_at_6 : decode cX5_at 6 = .ok (.arraylength, 1) := by decide +kernel
theorem dX5_at_7 : decode cX5_at 7 = .ok (.if_icmp .ge 9, 3) := by decide +kernel
theorem dX5_at_10 : decode cX5_at 10 = .ok (.aload_n 0, 1) := by decide +kernel
theorem dX5_at_11 : decode cX5_at 11 = .ok (.iload_n 1, 1) := by decide +kernel
theorem dX5_at_12 : decode cX5_at 12 = .ok (.iaload, 1) := by decide +kernel
theorem dX5_at_13 : decode cX5_at 13 = .ok (.goto 4, 3) := by decide +kernel
theorem dX5_at_16 : decode cX5_at 16 = .ok (.iconst 0, 1) := by decide +kernel
theorem dX5_at_17 : decode cX5_at 17 = .ok (.ireturn, 1) := by decide +kernel
theorem dX5_behind_0 : decode cX5_behind 0 = .ok (.iload_n 1, 1) := by decide +kernel
theorem dX5_behind_1 : decode cX5_behind 1 = .ok (.iload_n 2, 1) := by decide +kernel
theorem dX5_behind_2 : decode cX5_behind 2 = .ok (.invokestatic 70, 3) := by decide +kernel
theorem dX5_behind_5 : decode cX5_behind 5 = .ok (.ifCond .ne 5, 3) := by decide +kernel
theorem dX5_behind_8 : decode cX5_behind 8 = .ok (.iconst (-1), 1) := by decide +kernel
theorem dX5_behind_9 : decode cX5_behind 9 = .ok (.ireturn, 1) := by decide +kernel
theorem dX5_behind_10 : decode cX5_behind 10 = .ok (.aload_n 0, 1) := by decide +kernel
theorem dX5_behind_11 : decode cX5_behind 11 = .ok (.invokevirtual 130, 3) := by decide +kernel
theorem dX5_behind_14 : decode cX5_behind 14 = .ok (.ifCond .ne 6, 3) := by decide +kernel
theorem dX5_behind_17 : decode cX5_behind 17 = .ok (.bipush (-5), 2) := by decide +kernel
theorem dX5_behind_19 : decode cX5_behind 19 = .ok (.ireturn, 1) := by decide +kernel
theorem dX5_behind_20 : decode cX5_behind 20 = .ok (.aload_n 0, 1) := by decide +kernel
theorem dX5_behind_21 : decode cX5_behind 21 = .ok (.getfield 33, 3) := by decide +kernel
theorem dX5_behind_24 : decode cX5_behind 24 = .ok (.getfield 134, 3) := by decide +kernel
theorem dX5_behind_27 : decode cX5_behind 27 = .ok (.iload_n 1, 1) := by decide +kernel
theorem dX5_behind_28 : decode cX5_behind 28 = .ok (.iload_n 2, 1) := by decide +kernel
theorem dX5_behind_29 : decode cX5_behind 29 = .ok (.invokevirtual 142, 3) := by decide +kernel
theorem dX5_behind_32 : decode cX5_behind 32 = .ok (.ireturn, 1) := by decide +kernel
theorem dX5_canBeDone_0 : decode cX5_canBeDone 0 = .ok (.aload_n 0, 1) := by decide +kernel
theorem dX5_canBeDone_1 : decode cX5_canBeDone 1 = .ok (.getfield 26, 3) := by decide +kernel
theorem dX5_canBeDone_4 : decode cX5_canBeDone 4 = .ok (.invokevirtual 117, 3) := by decide +kernel
theorem dX5_canBeDone_7 : decode cX5_canBeDone 7 = .ok (.bipush (-6), 2) := by decide +kernel
theorem dX5_canBeDone_9 : decode cX5_canBeDone 9 = .ok (.if_icmp .eq 5, 3) := by decide +kernel
theorem dX5_canBeDone_12 : decode cX5_canBeDone 12 = .ok (.iconst 0, 1) := by decide +kernel
theorem dX5_canBeDone_13 : decode cX5_canBeDone 13 = .ok (.ireturn, 1) := by decide +kernel
theorem dX5_canBeDone_14 : decode cX5_canBeDone 14 = .ok (.aload_n 0, 1) := by decide +kernel
theorem dX5_canBeDone_15 : decode cX5_canBeDone 15 = .ok (.getfield 33, 3) := by decide +kernel
theorem dX5_canBeDone_18 : decode cX5_canBeDone 18 = .ok (.aload_n 0, 1) := by decide +kernel
theorem dX5_canBeDone_19 : decode cX5_canBeDone 19 = .ok (.getfield 26, 3) := by decide +kernel
theorem dX5_canBeDone_22 : decode cX5_canBeDone 22 = .ok (.aload_n 0, 1) := by decide +kernel
theorem dX5_canBeDone_23 : decode cX5_canBeDone 23 = .ok (.getfield 12, 3) := by decide +kernel
theorem dX5_canBeDone_26 : decode cX5_canBeDone 26 = .ok (.invokevirtual 120, 3) := by decide +kernel
theorem dX5_canBeDone_29 : decode cX5_canBeDone 29 = .ok (.aload_n 0, 1) := by decide +kernel
theorem dX5_canBeDone_30 : decode cX5_canBeDone 30 = .ok (.getfield 33, 3) := by decide +kernel
theorem dX5_canBeDone_33 : decode cX5_canBeDone 33 = .ok (.getfield 124, 3) := by decide +kernel
theorem dX5_canBeDone_36 : decode cX5_canBeDone 36 = .ok (.bipush (-6), 2) := by decide +kernel
theorem dX5_canBeDone_38 : decode cX5_canBeDone 38 = .ok (.if_icmp .ne 7, 3) := by decide +kernel
theorem dX5_canBeDone_41 : decode cX5_canBeDone 41 = .ok (.iconst 1, 1) := by decide +kernel
theorem dX5_canBeDone_42 : decode cX5_canBeDone 42 = .ok (.goto 4, 3) := by decide +kernel
theorem dX5_canBeDone_45 : decode cX5_canBeDone 45 = .ok (.iconst 0, 1) := by decide +kernel
theorem dX5_canBeDone_46 : decode cX5_canBeDone 46 = .ok (.ireturn, 1) := by decide +kernel
theorem dX5_commonDivisor_0 : decode cX5_commonDivisor 0 = .ok (.lload_n 0, 1) := by decide +kernel
theorem dX5_commonDivisor_1 : decode cX5_commonDivisor 1 = .ok (.lstore 4, 2) := by decide +kernel
theorem dX5_commonDivisor_3 : decode cX5_commonDivisor 3 = .ok (.lload_n 2, 1) := by decide +kernel
theorem dX5_commonDivisor_4 : decode cX5_commonDivisor 4 = .ok (.lstore 6, 2) := by decide +kernel
theorem dX5_commonDivisor_6 : decode cX5_commonDivisor 6 = .ok (.iconst 0, 1) := by decide +kernel
theorem dX5_commonDivisor_7 : decode cX5_commonDivisor 7 = .ok (.istore 8, 2) := by decide +kernel
theorem dX5_commonDivisor_9 : decode cX5_commonDivisor 9 = .ok (.iload 8, 2) := by decide +kernel
theorem dX5_commonDivisor_11 : decode cX5_commonDivisor 11 = .ok (.sipush 200, 3) := by decide +kernel
theorem dX5_commonDivisor_14 : decode cX5_commonDivisor 14 = .ok (.if_icmp .ge 31, 3) := by decide +kernel
theorem dX5_commonDivisor_17 : decode cX5_commonDivisor 17 = .ok (.lload 6, 2) := by decide +kernel
theorem dX5_commonDivisor_19 : decode cX5_commonDivisor 19 = .ok (.lconst 0, 1) := by decide +kernel
theorem dX5_commonDivisor_20 : decode cX5_commonDivisor 20 = .ok (.lcmp, 1) := by decide +kernel
theorem dX5_commonDivisor_21 : decode cX5_commonDivisor 21 = .ok (.ifCond .eq 24, 3) := by decide +kernel
theorem dX5_commonDivisor_24 : decode cX5_commonDivisor 24 = .ok (.lload 4, 2) := by decide +kernel
theorem dX5_commonDivisor_26 : decode cX5_commonDivisor 26 = .ok (.lload 6, 2) := by decide +kernel
theorem dX5_commonDivisor_28 : decode cX5_commonDivisor 28 = .ok (.lrem, 1) := by decide +kernel
theorem dX5_commonDivisor_29 : decode cX5_commonDivisor 29 = .ok (.lstore 9, 2) := by decide +kernel
theorem dX5_commonDivisor_31 : decode cX5_commonDivisor 31 = .ok (.lload 6, 2) := by decide +kernel
theorem dX5_commonDivisor_33 : decode cX5_commonDivisor 33 = .ok (.lstore 4, 2) := by decide +kernel
theorem dX5_commonDivisor_35 : decode cX5_commonDivisor 35 = .ok (.lload 9, 2) := by decide +kernel
theorem dX5_commonDivisor_37 : decode cX5_commonDivisor 37 = .ok (.lstore 6, 2) := by decide +kernel
theorem dX5_commonDivisor_39 : decode cX5_commonDivisor 39 = .ok (.iinc 8 1, 3) := by decide +kernel
theorem dX5_commonDivisor_42 : decode cX5_commonDivisor 42 = .ok (.goto (-33), 3) := by decide +kernel
theorem dX5_commonDivisor_45 : decode cX5_commonDivisor 45 = .ok (.lload 4, 2) := by decide +kernel
theorem dX5_commonDivisor_47 : decode cX5_commonDivisor 47 = .ok (.lreturn, 1) := by decide +kernel
theorem dX5_copy_0 : decode cX5_copy 0 = .ok (.iconst 0, 1) := by decide +kernel
theorem dX5_copy_1 : decode cX5_copy 1 = .ok (.istore_n 2, 1) := by decide +kernel
theorem dX5_copy_2 : decode cX5_copy 2 = .ok (.iload_n 2, 1) := by decide +kernel
theorem dX5_copy_3 : decode cX5_copy 3 = .ok (.aload_n 1, 1) := by decide +kernel
theorem dX5_copy_4 : decode cX5_copy 4 = .ok (.arraylength, 1) := by decide +kernel
theorem dX5_copy_5 : decode cX5_copy 5 = .ok (.if_icmp .ge 21, 3) := by decide +kernel
theorem dX5_copy_8 : decode cX5_copy 8 = .ok (.iload_n 2, 1) := by decide +kernel
theorem dX5_copy_9 : decode cX5_copy 9 = .ok (.aload_n 0, 1) := by decide +kernel
theorem dX5_copy_10 : decode cX5_copy 10 = .ok (.arraylength, 1) := by decide +kernel
theorem dX5_copy_11 : decode cX5_copy 11 = .ok (.if_icmp .ge 15, 3) := by decide +kernel
theorem dX5_copy_14 : decode cX5_copy 14 = .ok (.aload_n 1, 1) := by decide +kernel
theorem dX5_copy_15 : decode cX5_copy 15 = .ok (.iload_n 2, 1) := by decide +kernel
theorem dX5_copy_16 : decode cX5_copy 16 = .ok (.aload_n 0, 1) := by decide +kernel
theorem dX5_copy_17 : decode cX5_copy 17 = .ok (.iload_n 2, 1) := by decide +kernel
theorem dX5_copy_18 : decode cX5_copy 18 = .ok (.iaload, 1) := by decide +kernel
theorem dX5_copy_19 : decode cX5_copy 19 = .ok (.iastore, 1) := by decide +kernel
theorem dX5_copy_20 : decode cX5_copy 20 = .ok (.iinc 2 1, 3) := by decide +kernel
theorem dX5_copy_23 : decode cX5_copy 23 = .ok (.goto (-21), 3) := by decide +kernel
theorem dX5_copy_26 : decode cX5_copy 26 = .ok (.return_, 1) := by decide +kernel
theorem dX5_countUsers_0 : decode cX5_countUsers 0 = .ok (.iconst 0, 1) := by decide +kernel
theorem dX5_countUsers_1 : decode cX5_countUsers 1 = .ok (.istore_n 3, 1) := by decide +kernel
theorem dX5_countUsers_2 : decode cX5_countUsers 2 = .ok (.iconst 0, 1) := by decide +kernel
theorem dX5_countUsers_3 : decode cX5_countUsers 3 = .ok (.istore 4, 2) := by decide +kernel
theorem dX5_countUsers_5 : decode cX5_countUsers 5 = .ok (.iload 4, 2) := by decide +kernel
theorem dX5_countUsers_7 : decode cX5_countUsers 7 = .ok (.iload_n 1, 1) := by decide +kernel
theorem dX5_countUsers_8 : decode cX5_countUsers 8 = .ok (.if_icmp .ge 22, 3) := by decide +kernel
theorem dX5_countUsers_11 : decode cX5_countUsers 11 = .ok (.iload_n 0, 1) := by decide +kernel
theorem dX5_countUsers_12 : decode cX5_countUsers 12 = .ok (.iload 4, 2) := by decide +kernel
theorem dX5_countUsers_14 : decode cX5_countUsers 14 = .ok (.invokestatic 209, 3) := by decide +kernel
theorem dX5_countUsers_17 : decode cX5_countUsers 17 = .ok (.iload_n 2, 1) := by decide +kernel
theorem dX5_countUsers_18 : decode cX5_countUsers 18 = .ok (.if_icmp .lt 6, 3) := by decide +kernel
theorem dX5_countUsers_21 : decode cX5_countUsers 21 = .ok (.iinc 3 1, 3) := by decide +kernel
theorem dX5_countUsers_24 : decode cX5_countUsers 24 = .ok (.iinc 4 1, 3) := by decide +kernel
theorem dX5_countUsers_27 : decode cX5_countUsers 27 = .ok (.goto (-22), 3) := by decide +kernel
theorem dX5_countUsers_30 : decode cX5_countUsers 30 = .ok (.iload_n 3, 1) := by decide +kernel
theorem dX5_countUsers_31 : decode cX5_countUsers 31 = .ok (.ireturn, 1) := by decide +kernel
theorem dX5_digit_0 : decode cX5_digit 0 = .ok (.iload_n 0, 1) := by decide +kernel
theorem dX5_digit_1 : decode cX5_digit 1 = .ok (.istore_n 2, 1) := by decide +kernel
theorem dX5_digit_2 : decode cX5_digit 2 = .ok (.iconst 0, 1) := by decide +kernel
theorem dX5_digit_3 : decode cX5_digit 3 = .ok (.istore_n 3, 1) := by decide +kernel
theorem dX5_digit_4 : decode cX5_digit 4 = .ok (.iload_n 3, 1) := by decide +kernel
theorem dX5_digit_5 : decode cX5_digit 5 = .ok (.iload_n 1, 1) := by decide +kernel
theorem dX5_digit_6 : decode cX5_digit 6 = .ok (.if_icmp .ge 14, 3) := by decide +kernel
theorem dX5_digit_9 : decode cX5_digit 9 = .ok (.iload_n 2, 1) := by decide +kernel
theorem dX5_digit_10 : decode cX5_digit 10 = .ok (.bipush 10, 2) := by decide +kernel
theorem dX5_digit_12 : decode cX5_digit 12 = .ok (.idiv, 1) := by decide +kernel
theorem dX5_digit_13 : decode cX5_digit 13 = .ok (.istore_n 2, 1) := by decide +kernel
theorem dX5_digit_14 : decode cX5_digit 14 = .ok (.iinc 3 1, 3) := by decide +kernel
theorem dX5_digit_17 : decode cX5_digit 17 = .ok (.goto (-13), 3) := by decide +kernel
theorem dX5_digit_20 : decode cX5_digit 20 = .ok (.iload_n 2, 1) := by decide +kernel
theorem dX5_digit_21 : decode cX5_digit 21 = .ok (.bipush 10, 2) := by decide +kernel
theorem dX5_digit_23 : decode cX5_digit 23 = .ok (.irem, 1) := by decide +kernel
theorem dX5_digit_24 : decode cX5_digit 24 = .ok (.ireturn, 1) := by decide +kernel
theorem dX5_done_0 : decode cX5_done 0 = .ok (.aload_n 0, 1) := by decide +kernel
theorem dX5_done_1 : decode cX5_done 1 = .ok (.invokevirtual 130, 3) := by decide +kernel
theorem dX5_done_4 : decode cX5_done 4 = .ok (.ifCond .ne 6, 3) := by decide +kernel
theorem dX5_done_7 : decode cX5_done 7 = .ok (.bipush (-5), 2) := by decide +kernel
theorem dX5_done_9 : decode cX5_done 9 = .ok (.ireturn, 1) := by decide +kernel
theorem dX5_done_10 : decode cX5_done 10 = .ok (.aload_n 0, 1) := by decide +kernel
theorem dX5_done_11 : decode cX5_done 11 = .ok (.getfield 12, 3) := by decide +kernel
theorem dX5_done_14 : decode cX5_done 14 = .ok (.aload_n 0, 1) := by decide +kernel
theorem dX5_done_15 : decode cX5_done 15 = .ok (.getfield 33, 3) := by decide +kernel
theorem dX5_done_18 : decode cX5_done 18 = .ok (.getfield 134, 3) := by decide +kernel
theorem dX5_done_21 : decode cX5_done 21 = .ok (.invokevirtual 135, 3) := by decide +kernel
theorem dX5_done_24 : decode cX5_done 24 = .ok (.aload_n 0, 1) := by decide +kernel
theorem dX5_done_25 : decode cX5_done 25 = .ok (.getfield 26, 3) := by decide +kernel
theorem dX5_done_28 : decode cX5_done 28 = .ok (.invokevirtual 114, 3) := by decide +kernel
theorem dX5_done_31 : decode cX5_done 31 = .ok (.aload_n 0, 1) := by decide +kernel
theorem dX5_done_32 : decode cX5_done 32 = .ok (.getfield 33, 3) := by decide +kernel
theorem dX5_done_35 : decode cX5_done 35 = .ok (.getfield 139, 3) := by decide +kernel
theorem dX5_done_38 : decode cX5_done 38 = .ok (.ireturn, 1) := by decide +kernel
theorem dX5_fault_0 : decode cX5_fault 0 = .ok (.aload_n 0, 1) := by decide +kernel
theorem dX5_fault_1 : decode cX5_fault 1 = .ok (.getfield 26, 3) := by decide +kernel
theorem dX5_fault_4 : decode cX5_fault 4 = .ok (.invokevirtual 117, 3) := by decide +kernel
theorem dX5_fault_7 : decode cX5_fault 7 = .ok (.ireturn, 1) := by decide +kernel
theorem dX5_fillChances_0 : decode cX5_fillChances 0 = .ok (.aload_n 0, 1) := by decide +kernel
theorem dX5_fillChances_1 : decode cX5_fillChances 1 = .ok (.getfield 66, 3) := by decide +kernel
theorem dX5_fillChances_4 : decode cX5_fillChances 4 = .ok (.lconst 0, 1) := by decide +kernel
theorem dX5_fillChances_5 : decode cX5_fillChances 5 = .ok (.invokestatic 286, 3) := by decide +kernel
theorem dX5_fillChances_8 : decode cX5_fillChances 8 = .ok (.aload_n 0, 1) := by decide +kernel
theorem dX5_fillChances_9 : decode cX5_fillChances 9 = .ok (.getfield 66, 3) := by decide +kernel
theorem dX5_fillChances_12 : decode cX5_fillChances 12 = .ok (.arraylength, 1) := by decide +kernel
theorem dX5_fillChances_13 : decode cX5_fillChances 13 = .ok (.ifCond .le 10, 3) := by decide +kernel
theorem dX5_fillChances_16 : decode cX5_fillChances 16 = .ok (.aload_n 0, 1) := by decide +kernel
theorem dX5_fillChances_17 : decode cX5_fillChances 17 = .ok (.getfield 66, 3) := by decide +kernel
theorem dX5_fillChances_20 : decode cX5_fillChances 20 = .ok (.iconst 0, 1) := by decide +kernel
theorem dX5_fillChances_21 : decode cX5_fillChances 21 = .ok (.lconst 1, 1) := by decide +kernel
theorem dX5_fillChances_22 : decode cX5_fillChances 22 = .ok (.lastore, 1) := by decide +kernel
theorem dX5_fillChances_23 : decode cX5_fillChances 23 = .ok (.iconst 1, 1) := by decide +kernel
theorem dX5_fillChances_24 : decode cX5_fillChances 24 = .ok (.istore_n 3, 1) := by decide +kernel
theorem dX5_fillChances_25 : decode cX5_fillChances 25 = .ok (.iload_n 3, 1) := by decide +kernel
theorem dX5_fillChances_26 : decode cX5_fillChances 26 = .ok (.iload_n 1, 1) := by decide +kernel
theorem dX5_fillChances_27 : decode cX5_fillChances 27 = .ok (.if_icmp .gt 75, 3) := by decide +kernel
theorem dX5_fillChances_30 : decode cX5_fillChances 30 = .ok (.aload_n 0, 1) := by decide +kernel
theorem dX5_fillChances_31 : decode cX5_fillChances 31 = .ok (.getfield 66, 3) := by decide +kernel
theorem dX5_fillChances_34 : decode cX5_fillChances 34 = .ok (.arraylength, 1) := by decide +kernel
theorem dX5_fillChances_35 : decode cX5_fillChances 35 = .ok (.iconst 1, 1) := by decide +kernel
theorem dX5_fillChances_36 : decode cX5_fillChances 36 = .ok (.isub, 1) := by decide +kernel
theorem dX5_fillChances_37 : decode cX5_fillChances 37 = .ok (.istore 4, 2) := by decide +kernel
theorem dX5_fillChances_39 : decode cX5_fillChances 39 = .ok (.iload 4, 2) := by decide +kernel
theorem dX5_fillChances_41 : decode cX5_fillChances 41 = .ok (.ifCond .lt 55, 3) := by decide +kernel
theorem dX5_fillChances_44 : decode cX5_fillChances 44 = .ok (.iload 4, 2) := by decide +kernel
theorem dX5_fillChances_46 : decode cX5_fillChances 46 = .ok (.ifCond .le 18, 3) := by decide +kernel
theorem dX5_fillChances_49 : decode cX5_fillChances 49 = .ok (.aload_n 0, 1) := by decide +kernel
theorem dX5_fillChances_50 : decode cX5_fillChances 50 = .ok (.getfield 66, 3) := by decide +kernel
theorem dX5_fillChances_53 : decode cX5_fillChances 53 = .ok (.iload 4, 2) := by decide +kernel
theorem dX5_fillChances_55 : decode cX5_fillChances 55 = .ok (.iconst 1, 1) := by decide +kernel
theorem dX5_fillChances_56 : decode cX5_fillChances 56 = .ok (.isub, 1) := by decide +kernel
theorem dX5_fillChances_57 : decode cX5_fillChances 57 = .ok (.laload, 1) := by decide +kernel
theorem dX5_fillChances_58 : decode cX5_fillChances 58 = .ok (.iload_n 2, 1) := by decide +kernel
theorem dX5_fillChances_59 : decode cX5_fillChances 59 = .ok (.i2l, 1) := by decide +kernel
theorem dX5_fillChances_60 : decode cX5_fillChances 60 = .ok (.lmul, 1) := by decide +kernel
theorem dX5_fillChances_61 : decode cX5_fillChances 61 = .ok (.goto 4, 3) := by decide +kernel
theorem dX5_fillChances_64 : decode cX5_fillChances 64 = .ok (.lconst 0, 1) := by decide +kernel
theorem dX5_fillChances_65 : decode cX5_fillChances 65 = .ok (.lstore 5, 2) := by decide +kernel
theorem dX5_fillChances_67 : decode cX5_fillChances 67 = .ok (.aload_n 0, 1) := by decide +kernel
theorem dX5_fillChances_68 : decode cX5_fillChances 68 = .ok (.getfield 66, 3) := by decide +kernel
theorem dX5_fillChances_71 : decode cX5_fillChances 71 = .ok (.iload 4, 2) := by decide +kernel
theorem dX5_fillChances_73 : decode cX5_fillChances 73 = .ok (.aload_n 0, 1) := by decide +kernel
theorem dX5_fillChances_74 : decode cX5_fillChances 74 = .ok (.getfield 66, 3) := by decide +kernel
theorem dX5_fillChances_77 : decode cX5_fillChances 77 = .ok (.iload 4, 2) := by decide +kernel
theorem dX5_fillChances_79 : decode cX5_fillChances 79 = .ok (.laload, 1) := by decide +kernel
theorem dX5_fillChances_80 : decode cX5_fillChances 80 = .ok (.bipush 10, 2) := by decide +kernel
theorem dX5_fillChances_82 : decode cX5_fillChances 82 = .ok (.iload_n 2, 1) := by decide +kernel
theorem dX5_fillChances_83 : decode cX5_fillChances 83 = .ok (.isub, 1) := by decide +kernel
theorem dX5_fillChances_84 : decode cX5_fillChances 84 = .ok (.i2l, 1) := by decide +kernel
theorem dX5_fillChances_85 : decode cX5_fillChances 85 = .ok (.lmul, 1) := by decide +kernel
theorem dX5_fillChances_86 : decode cX5_fillChances 86 = .ok (.lload 5, 2) := by decide +kernel
theorem dX5_fillChances_88 : decode cX5_fillChances 88 = .ok (.ladd, 1) := by decide +kernel
theorem dX5_fillChances_89 : decode cX5_fillChances 89 = .ok (.lastore, 1) := by decide +kernel
theorem dX5_fillChances_90 : decode cX5_fillChances 90 = .ok (.iinc 4 (-1), 3) := by decide +kernel
theorem dX5_fillChances_93 : decode cX5_fillChances 93 = .ok (.goto (-54), 3) := by decide +kernel
theorem dX5_fillChances_96 : decode cX5_fillChances 96 = .ok (.iinc 3 1, 3) := by decide +kernel
theorem dX5_fillChances_99 : decode cX5_fillChances 99 = .ok (.goto (-74), 3) := by decide +kernel
theorem dX5_fillChances_102 : decode cX5_fillChances 102 = .ok (.return_, 1) := by decide +kernel
theorem dX5_fillLoads_0 : decode cX5_fillLoads 0 = .ok (.iconst 0, 1) := by decide +kernel
theorem dX5_fillLoads_1 : decode cX5_fillLoads 1 = .ok (.istore_n 3, 1) := by decide +kernel
theorem dX5_fillLoads_2 : decode cX5_fillLoads 2 = .ok (.iload_n 3, 1) := by decide +kernel
theorem dX5_fillLoads_3 : decode cX5_fillLoads 3 = .ok (.iload_n 2, 1) := by decide +kernel
theorem dX5_fillLoads_4 : decode cX5_fillLoads 4 = .ok (.if_icmp .ge 68, 3) := by decide +kernel
theorem dX5_fillLoads_7 : decode cX5_fillLoads 7 = .ok (.iconst 0, 1) := by decide +kernel
theorem dX5_fillLoads_8 : decode cX5_fillLoads 8 = .ok (.istore 4, 2) := by decide +kernel
theorem dX5_fillLoads_10 : decode cX5_fillLoads 10 = .ok (.iconst 0, 1) := by decide +kernel
theorem dX5_fillLoads_11 : decode cX5_fillLoads 11 = .ok (.istore 5, 2) := by decide +kernel
theorem dX5_fillLoads_13 : decode cX5_fillLoads 13 = .ok (.iload 5, 2) := by decide +kernel
theorem dX5_fillLoads_15 : decode cX5_fillLoads 15 = .ok (.bipush 8, 2) := by decide +kernel
theorem dX5_fillLoads_17 : decode cX5_fillLoads 17 = .ok (.if_icmp .ge 29, 3) := by decide +kernel
theorem dX5_fillLoads_20 : decode cX5_fillLoads 20 = .ok (.iload_n 3, 1) := by decide +kernel
theorem dX5_fillLoads_21 : decode cX5_fillLoads 21 = .ok (.iload 5, 2) := by decide +kernel
theorem dX5_fillLoads_23 : decode cX5_fillLoads 23 = .ok (.invokestatic 180, 3) := by decide +kernel
theorem dX5_fillLoads_26 : decode cX5_fillLoads 26 = .ok (.ifCond .eq 14, 3) := by decide +kernel
theorem dX5_fillLoads_29 : decode cX5_fillLoads 29 = .ok (.iload 4, 2) := by decide +kernel
theorem dX5_fillLoads_31 : decode cX5_fillLoads 31 = .ok (.iload_n 1, 1) := by decide +kernel
theorem dX5_fillLoads_32 : decode cX5_fillLoads 32 = .ok (.iload 5, 2) := by decide +kernel
theorem dX5_fillLoads_34 : decode cX5_fillLoads 34 = .ok (.invokestatic 209, 3) := by decide +kernel
theorem dX5_fillLoads_37 : decode cX5_fillLoads 37 = .ok (.iadd, 1) := by decide +kernel
theorem dX5_fillLoads_38 : decode cX5_fillLoads 38 = .ok (.istore 4, 2) := by decide +kernel
theorem dX5_fillLoads_40 : decode cX5_fillLoads 40 = .ok (.iinc 5 1, 3) := by decide +kernel
theorem dX5_fillLoads_43 : decode cX5_fillLoads 43 = .ok (.goto (-30), 3) := by decide +kernel
theorem dX5_fillLoads_46 : decode cX5_fillLoads 46 = .ok (.aload_n 0, 1) := by decide +kernel
theorem dX5_fillLoads_47 : decode cX5_fillLoads 47 = .ok (.getfield 51, 3) := by decide +kernel
theorem dX5_fillLoads_50 : decode cX5_fillLoads 50 = .ok (.iload_n 3, 1) := by decide +kernel
theorem dX5_fillLoads_51 : decode cX5_fillLoads 51 = .ok (.iload 4, 2) := by decide +kernel
theorem dX5_fillLoads_53 : decode cX5_fillLoads 53 = .ok (.invokestatic 234, 3) := by decide +kernel
theorem dX5_fillLoads_56 : decode cX5_fillLoads 56 = .ok (.aload_n 0, 1) := by decide +kernel
theorem dX5_fillLoads_57 : decode cX5_fillLoads 57 = .ok (.getfield 54, 3) := by decide +kernel
theorem dX5_fillLoads_60 : decode cX5_fillLoads 60 = .ok (.iload_n 3, 1) := by decide +kernel
theorem dX5_fillLoads_61 : decode cX5_fillLoads 61 = .ok (.iload 4, 2) := by decide +kernel
theorem dX5_fillLoads_63 : decode cX5_fillLoads 63 = .ok (.invokestatic 234, 3) := by decide +kernel
theorem dX5_fillLoads_66 : decode cX5_fillLoads 66 = .ok (.iinc 3 1, 3) := by decide +kernel
theorem dX5_fillLoads_69 : decode cX5_fillLoads 69 = .ok (.goto (-67), 3) := by decide +kernel
theorem dX5_fillLoads_72 : decode cX5_fillLoads 72 = .ok (.return_, 1) := by decide +kernel
theorem dX5_forget_0 : decode cX5_forget 0 = .ok (.aload_n 0, 1) := by decide +kernel
theorem dX5_forget_1 : decode cX5_forget 1 = .ok (.getfield 19, 3) := by decide +kernel
theorem dX5_forget_4 : decode cX5_forget 4 = .ok (.getfield 222, 3) := by decide +kernel
theorem dX5_forget_7 : decode cX5_forget 7 = .ok (.istore_n 1, 1) := by decide +kernel
theorem dX5_forget_8 : decode cX5_forget 8 = .ok (.aload_n 0, 1) := by decide +kernel
theorem dX5_forget_9 : decode cX5_forget 9 = .ok (.getfield 19, 3) := by decide +kernel
theorem dX5_forget_12 : decode cX5_forget 12 = .ok (.iconst 0, 1) := by decide +kernel
theorem dX5_forget_13 : decode cX5_forget 13 = .ok (.putfield 222, 3) := by decide +kernel
theorem dX5_forget_16 : decode cX5_forget 16 = .ok (.iload_n 1, 1) := by decide +kernel
theorem dX5_forget_17 : decode cX5_forget 17 = .ok (.ireturn, 1) := by decide +kernel
theorem dX5_gatherFitting_0 : decode cX5_gatherFitting 0 = .ok (.iconst 0, 1) := by decide +kernel
theorem dX5_gatherFitting_1 : decode cX5_gatherFitting 1 = .ok (.istore_n 1, 1) := by decide +kernel
theorem dX5_gatherFitting_2 : decode cX5_gatherFitting 2 = .ok (.iconst 0, 1) := by decide +kernel
theorem dX5_gatherFitting_3 : decode cX5_gatherFitting 3 = .ok (.istore_n 2, 1) := by decide +kernel
theorem dX5_gatherFitting_4 : decode cX5_gatherFitting 4 = .ok (.iload_n 2, 1) := by decide +kernel
theorem dX5_gatherFitting_5 : decode cX5_gatherFitting 5 = .ok (.sipush 1000, 3) := by decide +kernel
theorem dX5_gatherFitting_8 : decode cX5_gatherFitting 8 = .ok (.if_icmp .ge 32, 3) := by decide +kernel
theorem dX5_gatherFitting_11 : decode cX5_gatherFitting 11 = .ok (.aload_n 0, 1) := by decide +kernel
theorem dX5_gatherFitting_12 : decode cX5_gatherFitting 12 = .ok (.getfield 19, 3) := by decide +kernel
theorem dX5_gatherFitting_15 : decode cX5_gatherFitting 15 = .ok (.iload_n 2, 1) := by decide +kernel
theorem dX5_gatherFitting_16 : decode cX5_gatherFitting 16 = .ok (.invokevirtual 280, 3) := by decide +kernel
theorem dX5_gatherFitting_19 : decode cX5_gatherFitting 19 = .ok (.ifCond .eq 15, 3) := by decide +kernel
theorem dX5_gatherFitting_22 : decode cX5_gatherFitting 22 = .ok (.aload_n 0, 1) := by decide +kernel
theorem dX5_gatherFitting_23 : decode cX5_gatherFitting 23 = .ok (.getfield 57, 3) := by decide +kernel
theorem dX5_gatherFitting_26 : decode cX5_gatherFitting 26 = .ok (.iload_n 1, 1) := by decide +kernel
theorem dX5_gatherFitting_27 : decode cX5_gatherFitting 27 = .ok (.iload_n 2, 1) := by decide +kernel
theorem dX5_gatherFitting_28 : decode cX5_gatherFitting 28 = .ok (.invokestatic 234, 3) := by decide +kernel
theorem dX5_gatherFitting_31 : decode cX5_gatherFitting 31 = .ok (.iinc 1 1, 3) := by decide +kernel
theorem dX5_gatherFitting_34 : decode cX5_gatherFitting 34 = .ok (.iinc 2 1, 3) := by decide +kernel
theorem dX5_gatherFitting_37 : decode cX5_gatherFitting 37 = .ok (.goto (-33), 3) := by decide +kernel
theorem dX5_gatherFitting_40 : decode cX5_gatherFitting 40 = .ok (.iload_n 1, 1) := by decide +kernel
theorem dX5_gatherFitting_41 : decode cX5_gatherFitting 41 = .ok (.ireturn, 1) := by decide +kernel
theorem dX5_giveToOneMoreHand_0 : decode cX5_giveToOneMoreHand 0 = .ok (.iload_n 1, 1) := by decide +kernel
theorem dX5_giveToOneMoreHand_1 : decode cX5_giveToOneMoreHand 1 = .ok (.iconst 1, 1) := by decide +kernel
theorem dX5_giveToOneMoreHand_2 : decode cX5_giveToOneMoreHand 2 = .ok (.isub, 1) := by decide +kernel
theorem dX5_giveToOneMoreHand_3 : decode cX5_giveToOneMoreHand 3 = .ok (.istore_n 2, 1) := by decide +kernel
theorem dX5_giveToOneMoreHand_4 : decode cX5_giveToOneMoreHand 4 = .ok (.iload_n 2, 1) := by decide +kernel
theorem dX5_giveToOneMoreHand_5 : decode cX5_giveToOneMoreHand 5 = .ok (.ifCond .le 79, 3) := by decide +kernel
theorem dX5_giveToOneMoreHand_8 : decode cX5_giveToOneMoreHand 8 = .ok (.aload_n 0, 1) := by decide +kernel
theorem dX5_giveToOneMoreHand_9 : decode cX5_giveToOneMoreHand 9 = .ok (.getfield 54, 3) := by decide +kernel
theorem dX5_giveToOneMoreHand_12 : decode cX5_giveToOneMoreHand 12 = .ok (.iload_n 2, 1) := by decide +kernel
theorem dX5_giveToOneMoreHand_13 : decode cX5_giveToOneMoreHand 13 = .ok (.invokestatic 199, 3) := by decide +kernel
theorem dX5_giveToOneMoreHand_16 : decode cX5_giveToOneMoreHand 16 = .ok (.istore_n 3, 1) := by decide +kernel
theorem dX5_giveToOneMoreHand_17 : decode cX5_giveToOneMoreHand 17 = .ok (.iconst 1, 1) := by decide +kernel
theorem dX5_giveToOneMoreHand_18 : decode cX5_giveToOneMoreHand 18 = .ok (.istore 4, 2) := by decide +kernel
theorem dX5_giveToOneMoreHand_20 : decode cX5_giveToOneMoreHand 20 = .ok (.iload 4, 2) := by decide +kernel
theorem dX5_giveToOneMoreHand_22 : decode cX5_giveToOneMoreHand 22 = .ok (.iload_n 2, 1) := by decide +kernel
theorem dX5_giveToOneMoreHand_23 : decode cX5_giveToOneMoreHand 23 = .ok (.if_icmp .gt 46, 3) := by decide +kernel
theorem dX5_giveToOneMoreHand_26 : decode cX5_giveToOneMoreHand 26 = .ok (.iload 4, 2) := by decide +kernel
theorem dX5_giveToOneMoreHand_28 : decode cX5_giveToOneMoreHand 28 = .ok (.iload_n 2, 1) := by decide +kernel
theorem dX5_giveToOneMoreHand_29 : decode cX5_giveToOneMoreHand 29 = .ok (.iand, 1) := by decide +kernel
theorem dX5_giveToOneMoreHand_30 : decode cX5_giveToOneMoreHand 30 = .ok (.iload 4, 2) := by decide +kernel
theorem dX5_giveToOneMoreHand_32 : decode cX5_giveToOneMoreHand 32 = .ok (.if_icmp .ne 31, 3) := by decide +kernel
theorem dX5_giveToOneMoreHand_35 : decode cX5_giveToOneMoreHand 35 = .ok (.iload_n 3, 1) := by decide +kernel
theorem dX5_giveToOneMoreHand_36 : decode cX5_giveToOneMoreHand 36 = .ok (.aload_n 0, 1) := by decide +kernel
theorem dX5_giveToOneMoreHand_37 : decode cX5_giveToOneMoreHand 37 = .ok (.getfield 51, 3) := by decide +kernel
theorem dX5_giveToOneMoreHand_40 : decode cX5_giveToOneMoreHand 40 = .ok (.iload 4, 2) := by decide +kernel
theorem dX5_giveToOneMoreHand_42 : decode cX5_giveToOneMoreHand 42 = .ok (.invokestatic 199, 3) := by decide +kernel
theorem dX5_giveToOneMoreHand_45 : decode cX5_giveToOneMoreHand 45 = .ok (.aload_n 0, 1) := by decide +kernel
theorem dX5_giveToOneMoreHand_46 : decode cX5_giveToOneMoreHand 46 = .ok (.getfield 54, 3) := by decide +kernel
theorem dX5_giveToOneMoreHand_49 : decode cX5_giveToOneMoreHand 49 = .ok (.iload_n 2, 1) := by decide +kernel
theorem dX5_giveToOneMoreHand_50 : decode cX5_giveToOneMoreHand 50 = .ok (.iload 4, 2) := by decide +kernel
theorem dX5_giveToOneMoreHand_52 : decode cX5_giveToOneMoreHand 52 = .ok (.isub, 1) := by decide +kernel
theorem dX5_giveToOneMoreHand_53 : decode cX5_giveToOneMoreHand 53 = .ok (.invokestatic 199, 3) := by decide +kernel
theorem dX5_giveToOneMoreHand_56 : decode cX5_giveToOneMoreHand 56 = .ok (.invokestatic 272, 3) := by decide +kernel
theorem dX5_giveToOneMoreHand_59 : decode cX5_giveToOneMoreHand 59 = .ok (.invokestatic 277, 3) := by decide +kernel
theorem dX5_giveToOneMoreHand_62 : decode cX5_giveToOneMoreHand 62 = .ok (.istore_n 3, 1) := by decide +kernel
theorem dX5_giveToOneMoreHand_63 : decode cX5_giveToOneMoreHand 63 = .ok (.iinc 4 1, 3) := by decide +kernel
theorem dX5_giveToOneMoreHand_66 : decode cX5_giveToOneMoreHand 66 = .ok (.goto (-46), 3) := by decide +kernel
theorem dX5_giveToOneMoreHand_69 : decode cX5_giveToOneMoreHand 69 = .ok (.aload_n 0, 1) := by decide +kernel
theorem dX5_giveToOneMoreHand_70 : decode cX5_giveToOneMoreHand 70 = .ok (.getfield 54, 3) := by decide +kernel
theorem dX5_giveToOneMoreHand_73 : decode cX5_giveToOneMoreHand 73 = .ok (.iload_n 2, 1) := by decide +kernel
theorem dX5_giveToOneMoreHand_74 : decode cX5_giveToOneMoreHand 74 = .ok (.iload_n 3, 1) := by decide +kernel
theorem dX5_giveToOneMoreHand_75 : decode cX5_giveToOneMoreHand 75 = .ok (.invokestatic 234, 3) := by decide +kernel
theorem dX5_giveToOneMoreHand_78 : decode cX5_giveToOneMoreHand 78 = .ok (.iinc 2 (-1), 3) := by decide +kernel
theorem dX5_giveToOneMoreHand_81 : decode cX5_giveToOneMoreHand 81 = .ok (.goto (-77), 3) := by decide +kernel
theorem dX5_giveToOneMoreHand_84 : decode cX5_giveToOneMoreHand 84 = .ok (.return_, 1) := by decide +kernel
theorem dX5_goes_0 : decode cX5_goes 0 = .ok (.aload_n 0, 1) := by decide +kernel
theorem dX5_goes_1 : decode cX5_goes 1 = .ok (.getfield 12, 3) := by decide +kernel
theorem dX5_goes_4 : decode cX5_goes 4 = .ok (.iload_n 1, 1) := by decide +kernel
theorem dX5_goes_5 : decode cX5_goes 5 = .ok (.invokevirtual 146, 3) := by decide +kernel
theorem dX5_goes_8 : decode cX5_goes 8 = .ok (.ifCond .ne 5, 3) := by decide +kernel
theorem dX5_goes_11 : decode cX5_goes 11 = .ok (.iconst (-1), 1) := by decide +kernel
theorem dX5_goes_12 : decode cX5_goes 12 = .ok (.ireturn, 1) := by decide +kernel
theorem dX5_goes_13 : decode cX5_goes 13 = .ok (.iload_n 2, 1) := by decide +kernel
theorem dX5_goes_14 : decode cX5_goes 14 = .ok (.iconst 0, 1) := by decide +kernel
theorem dX5_goes_15 : decode cX5_goes 15 = .ok (.iconst 1, 1) := by decide +kernel
theorem dX5_goes_16 : decode cX5_goes 16 = .ok (.invokestatic 74, 3) := by decide +kernel
theorem dX5_goes_19 : decode cX5_goes 19 = .ok (.ifCond .ne 6, 3) := by decide +kernel
theorem dX5_goes_22 : decode cX5_goes 22 = .ok (.bipush (-2), 2) := by decide +kernel
theorem dX5_goes_24 : decode cX5_goes 24 = .ok (.ireturn, 1) := by decide +kernel
theorem dX5_goes_25 : decode cX5_goes 25 = .ok (.aload_n 0, 1) := by decide +kernel
theorem dX5_goes_26 : decode cX5_goes 26 = .ok (.invokevirtual 130, 3) := by decide +kernel
theorem dX5_goes_29 : decode cX5_goes 29 = .ok (.ifCond .ne 6, 3) := by decide +kernel
theorem dX5_goes_32 : decode cX5_goes 32 = .ok (.bipush (-5), 2) := by decide +kernel
theorem dX5_goes_34 : decode cX5_goes 34 = .ok (.ireturn, 1) := by decide +kernel
theorem dX5_goes_35 : decode cX5_goes 35 = .ok (.iload_n 2, 1) := by decide +kernel
theorem dX5_goes_36 : decode cX5_goes 36 = .ok (.ifCond .ne 17, 3) := by decide +kernel
theorem dX5_goes_39 : decode cX5_goes 39 = .ok (.aload_n 0, 1) := by decide +kernel
theorem dX5_goes_40 : decode cX5_goes 40 = .ok (.getfield 33, 3) := by decide +kernel
theorem dX5_goes_43 : decode cX5_goes 43 = .ok (.getfield 134, 3) := by decide +kernel
theorem dX5_goes_46 : decode cX5_goes 46 = .ok (.iload_n 1, 1) := by decide +kernel
theorem dX5_goes_47 : decode cX5_goes 47 = .ok (.invokevirtual 149, 3) := by decide +kernel
theorem dX5_goes_50 : decode cX5_goes 50 = .ok (.goto 14, 3) := by decide +kernel
theorem dX5_goes_53 : decode cX5_goes 53 = .ok (.aload_n 0, 1) := by decide +kernel
theorem dX5_goes_54 : decode cX5_goes 54 = .ok (.getfield 33, 3) := by decide +kernel
theorem dX5_goes_57 : decode cX5_goes 57 = .ok (.getfield 134, 3) := by decide +kernel
theorem dX5_goes_60 : decode cX5_goes 60 = .ok (.iload_n 1, 1) := by decide +kernel
theorem dX5_goes_61 : decode cX5_goes 61 = .ok (.invokevirtual 152, 3) := by decide +kernel
theorem dX5_goes_64 : decode cX5_goes 64 = .ok (.ireturn, 1) := by decide +kernel
theorem dX5_hasDigits_0 : decode cX5_hasDigits 0 = .ok (.iload_n 0, 1) := by decide +kernel
theorem dX5_hasDigits_1 : decode cX5_hasDigits 1 = .ok (.ifCond .lt 13, 3) := by decide +kernel
theorem dX5_hasDigits_4 : decode cX5_hasDigits 4 = .ok (.iload_n 0, 1) := by decide +kernel
theorem dX5_hasDigits_5 : decode cX5_hasDigits 5 = .ok (.i2l, 1) := by decide +kernel
theorem dX5_hasDigits_6 : decode cX5_hasDigits 6 = .ok (.iload_n 1, 1) := by decide +kernel
theorem dX5_hasDigits_7 : decode cX5_hasDigits 7 = .ok (.invokestatic 203, 3) := by decide +kernel
theorem dX5_hasDigits_10 : decode cX5_hasDigits 10 = .ok (.lcmp, 1) := by decide +kernel
theorem dX5_hasDigits_11 : decode cX5_hasDigits 11 = .ok (.ifCond .lt 5, 3) := by decide +kernel
theorem dX5_hasDigits_14 : decode cX5_hasDigits 14 = .ok (.iconst 0, 1) := by decide +kernel
theorem dX5_hasDigits_15 : decode cX5_hasDigits 15 = .ok (.ireturn, 1) := by decide +kernel
theorem dX5_hasDigits_16 : decode cX5_hasDigits 16 = .ok (.iconst 0, 1) := by decide +kernel
theorem dX5_hasDigits_17 : decode cX5_hasDigits 17 = .ok (.istore_n 2, 1) := by decide +kernel
theorem dX5_hasDigits_18 : decode cX5_hasDigits 18 = .ok (.iload_n 2, 1) := by decide +kernel
theorem dX5_hasDigits_19 : decode cX5_hasDigits 19 = .ok (.iload_n 1, 1) := by decide +kernel
theorem dX5_hasDigits_20 : decode cX5_hasDigits 20 = .ok (.if_icmp .ge 19, 3) := by decide +kernel
theorem dX5_hasDigits_23 : decode cX5_hasDigits 23 = .ok (.iload_n 0, 1) := by decide +kernel
theorem dX5_hasDigits_24 : decode cX5_hasDigits 24 = .ok (.iload_n 2, 1) := by decide +kernel
theorem dX5_hasDigits_25 : decode cX5_hasDigits 25 = .ok (.invokestatic 209, 3) := by decide +kernel
theorem dX5_hasDigits_28 : decode cX5_hasDigits 28 = .ok (.ifCond .ne 5, 3) := by decide +kernel
theorem dX5_hasDigits_31 : decode cX5_hasDigits 31 = .ok (.iconst 0, 1) := by decide +kernel
theorem dX5_hasDigits_32 : decode cX5_hasDigits 32 = .ok (.ireturn, 1) := by decide +kernel
theorem dX5_hasDigits_33 : decode cX5_hasDigits 33 = .ok (.iinc 2 1, 3) := by decide +kernel
theorem dX5_hasDigits_36 : decode cX5_hasDigits 36 = .ok (.goto (-18), 3) := by decide +kernel
theorem dX5_hasDigits_39 : decode cX5_hasDigits 39 = .ok (.iconst 1, 1) := by decide +kernel
theorem dX5_hasDigits_40 : decode cX5_hasDigits 40 = .ok (.ireturn, 1) := by decide +kernel
theorem dX5_holds_0 : decode cX5_holds 0 = .ok (.iload_n 0, 1) := by decide +kernel
theorem dX5_holds_1 : decode cX5_holds 1 = .ok (.iload_n 1, 1) := by decide +kernel
theorem dX5_holds_2 : decode cX5_holds 2 = .ok (.ishr, 1) := by decide +kernel
theorem dX5_holds_3 : decode cX5_holds 3 = .ok (.iconst 1, 1) := by decide +kernel
theorem dX5_holds_4 : decode cX5_holds 4 = .ok (.iand, 1) := by decide +kernel
theorem dX5_holds_5 : decode cX5_holds 5 = .ok (.iconst 1, 1) := by decide +kernel
theorem dX5_holds_6 : decode cX5_holds 6 = .ok (.if_icmp .ne 7, 3) := by decide +kernel
theorem dX5_holds_9 : decode cX5_holds 9 = .ok (.iconst 1, 1) := by decide +kernel
theorem dX5_holds_10 : decode cX5_holds 10 = .ok (.goto 4, 3) := by decide +kernel
theorem dX5_holds_13 : decode cX5_holds 13 = .ok (.iconst 0, 1) := by decide +kernel
theorem dX5_holds_14 : decode cX5_holds 14 = .ok (.ireturn, 1) := by decide +kernel
theorem dX5_image_0 : decode cX5_image 0 = .ok (.iload_n 1, 1) := by decide +kernel
theorem dX5_image_1 : decode cX5_image 1 = .ok (.iconst 0, 1) := by decide +kernel
theorem dX5_image_2 : decode cX5_image 2 = .ok (.iconst 1, 1) := by decide +kernel
theorem dX5_image_3 : decode cX5_image 3 = .ok (.invokestatic 74, 3) := by decide +kernel
theorem dX5_image_6 : decode cX5_image 6 = .ok (.ifCond .ne 6, 3) := by decide +kernel
theorem dX5_image_9 : decode cX5_image 9 = .ok (.bipush (-2), 2) := by decide +kernel
theorem dX5_image_11 : decode cX5_image 11 = .ok (.ireturn, 1) := by decide +kernel
theorem dX5_image_12 : decode cX5_image 12 = .ok (.iload_n 1, 1) := by decide +kernel
theorem dX5_image_13 : decode cX5_image 13 = .ok (.ifCond .ne 10, 3) := by decide +kernel
theorem dX5_image_16 : decode cX5_image 16 = .ok (.aload_n 0, 1) := by decide +kernel
theorem dX5_image_17 : decode cX5_image 17 = .ok (.getfield 40, 3) := by decide +kernel
theorem dX5_image_20 : decode cX5_image 20 = .ok (.goto 7, 3) := by decide +kernel
theorem dX5_image_23 : decode cX5_image 23 = .ok (.aload_n 0, 1) := by decide +kernel
theorem dX5_image_24 : decode cX5_image 24 = .ok (.getfield 44, 3) := by decide +kernel
theorem dX5_image_27 : decode cX5_image 27 = .ok (.astore_n 2, 1) := by decide +kernel
theorem dX5_image_28 : decode cX5_image 28 = .ok (.aload_n 2, 1) := by decide +kernel
theorem dX5_image_29 : decode cX5_image 29 = .ok (.getfield 250, 3) := by decide +kernel
theorem dX5_image_32 : decode cX5_image 32 = .ok (.aload_n 0, 1) := by decide +kernel
theorem dX5_image_33 : decode cX5_image 33 = .ok (.getfield 12, 3) := by decide +kernel
theorem dX5_image_36 : decode cX5_image 36 = .ok (.invokevirtual 135, 3) := by decide +kernel
theorem dX5_image_39 : decode cX5_image 39 = .ok (.aload_n 2, 1) := by decide +kernel
theorem dX5_image_40 : decode cX5_image 40 = .ok (.getfield 251, 3) := by decide +kernel
theorem dX5_image_43 : decode cX5_image 43 = .ok (.aload_n 0, 1) := by decide +kernel
theorem dX5_image_44 : decode cX5_image 44 = .ok (.getfield 19, 3) := by decide +kernel
theorem dX5_image_47 : decode cX5_image 47 = .ok (.invokevirtual 252, 3) := by decide +kernel
theorem dX5_image_50 : decode cX5_image 50 = .ok (.aload_n 2, 1) := by decide +kernel
theorem dX5_image_51 : decode cX5_image 51 = .ok (.iconst 1, 1) := by decide +kernel
theorem dX5_image_52 : decode cX5_image 52 = .ok (.putfield 255, 3) := by decide +kernel
theorem dX5_image_55 : decode cX5_image 55 = .ok (.iconst 1, 1) := by decide +kernel
theorem dX5_image_56 : decode cX5_image 56 = .ok (.ireturn, 1) := by decide +kernel
theorem dX5_init_0 : decode cX5_init 0 = .ok (.aload_n 0, 1) := by decide +kernel
theorem dX5_init_1 : decode cX5_init 1 = .ok (.invokespecial 3, 3) := by decide +kernel
theorem dX5_init_4 : decode cX5_init 4 = .ok (.aload_n 0, 1) := by decide +kernel
theorem dX5_init_5 : decode cX5_init 5 = .ok (.new 9, 3) := by decide +kernel
theorem dX5_init_8 : decode cX5_init 8 = .ok (.dup, 1) := by decide +kernel
theorem dX5_init_9 : decode cX5_init 9 = .ok (.invokespecial 11, 3) := by decide +kernel
theorem dX5_init_12 : decode cX5_init 12 = .ok (.putfield 12, 3) := by decide +kernel
theorem dX5_init_15 : decode cX5_init 15 = .ok (.aload_n 0, 1) := by decide +kernel
theorem dX5_init_16 : decode cX5_init 16 = .ok (.new 16, 3) := by decide +kernel
theorem dX5_init_19 : decode cX5_init 19 = .ok (.dup, 1) := by decide +kernel
theorem dX5_init_20 : decode cX5_init 20 = .ok (.invokespecial 18, 3) := by decide +kernel
theorem dX5_init_23 : decode cX5_init 23 = .ok (.putfield 19, 3) := by decide +kernel
theorem dX5_init_26 : decode cX5_init 26 = .ok (.aload_n 0, 1) := by decide +kernel
theorem dX5_init_27 : decode cX5_init 27 = .ok (.new 23, 3) := by decide +kernel
theorem dX5_init_30 : decode cX5_init 30 = .ok (.dup, 1) := by decide +kernel
theorem dX5_init_31 : decode cX5_init 31 = .ok (.invokespecial 25, 3) := by decide +kernel
theorem dX5_init_34 : decode cX5_init 34 = .ok (.putfield 26, 3) := by decide +kernel
theorem dX5_init_37 : decode cX5_init 37 = .ok (.aload_n 0, 1) := by decide +kernel
theorem dX5_init_38 : decode cX5_init 38 = .ok (.new 30, 3) := by decide +kernel
theorem dX5_init_41 : decode cX5_init 41 = .ok (.dup, 1) := by decide +kernel
theorem dX5_init_42 : decode cX5_init 42 = .ok (.invokespecial 32, 3) := by decide +kernel
theorem dX5_init_45 : decode cX5_init 45 = .ok (.putfield 33, 3) := by decide +kernel
theorem dX5_init_48 : decode cX5_init 48 = .ok (.aload_n 0, 1) := by decide +kernel
theorem dX5_init_49 : decode cX5_init 49 = .ok (.new 37, 3) := by decide +kernel
theorem dX5_init_52 : decode cX5_init 52 = .ok (.dup, 1) := by decide +kernel
theorem dX5_init_53 : decode cX5_init 53 = .ok (.invokespecial 39, 3) := by decide +kernel
theorem dX5_init_56 : decode cX5_init 56 = .ok (.putfield 40, 3) := by decide +kernel
theorem dX5_init_59 : decode cX5_init 59 = .ok (.aload_n 0, 1) := by decide +kernel
theorem dX5_init_60 : decode cX5_init 60 = .ok (.new 37, 3) := by decide +kernel
theorem dX5_init_63 : decode cX5_init 63 = .ok (.dup, 1) := by decide +kernel
theorem dX5_init_64 : decode cX5_init 64 = .ok (.invokespecial 39, 3) := by decide +kernel
theorem dX5_init_67 : decode cX5_init 67 = .ok (.putfield 44, 3) := by decide +kernel
theorem dX5_init_70 : decode cX5_init 70 = .ok (.aload_n 0, 1) := by decide +kernel
theorem dX5_init_71 : decode cX5_init 71 = .ok (.bipush 9, 2) := by decide +kernel
theorem dX5_init_73 : decode cX5_init 73 = .ok (.newarray .int, 2) := by decide +kernel
theorem dX5_init_75 : decode cX5_init 75 = .ok (.putfield 47, 3) := by decide +kernel
theorem dX5_init_78 : decode cX5_init 78 = .ok (.aload_n 0, 1) := by decide +kernel
theorem dX5_init_79 : decode cX5_init 79 = .ok (.sipush 256, 3) := by decide +kernel
theorem dX5_init_82 : decode cX5_init 82 = .ok (.newarray .int, 2) := by decide +kernel
theorem dX5_init_84 : decode cX5_init 84 = .ok (.putfield 51, 3) := by decide +kernel
theorem dX5_init_87 : decode cX5_init 87 = .ok (.aload_n 0, 1) := by decide +kernel
theorem dX5_init_88 : decode cX5_init 88 = .ok (.sipush 256, 3) := by decide +kernel
theorem dX5_init_91 : decode cX5_init 91 = .ok (.newarray .int, 2) := by decide +kernel
theorem dX5_init_93 : decode cX5_init 93 = .ok (.putfield 54, 3) := by decide +kernel
theorem dX5_init_96 : decode cX5_init 96 = .ok (.aload_n 0, 1) := by decide +kernel
theorem dX5_init_97 : decode cX5_init 97 = .ok (.sipush 1000, 3) := by decide +kernel
theorem dX5_init_100 : decode cX5_init 100 = .ok (.newarray .int, 2) := by decide +kernel
theorem dX5_init_102 : decode cX5_init 102 = .ok (.putfield 57, 3) := by decide +kernel
theorem dX5_init_105 : decode cX5_init 105 = .ok (.aload_n 0, 1) := by decide +kernel
theorem dX5_init_106 : decode cX5_init 106 = .ok (.sipush 280, 3) := by decide +kernel
theorem dX5_init_109 : decode cX5_init 109 = .ok (.newarray .int, 2) := by decide +kernel
theorem dX5_init_111 : decode cX5_init 111 = .ok (.putfield 60, 3) := by decide +kernel
theorem dX5_init_114 : decode cX5_init 114 = .ok (.aload_n 0, 1) := by decide +kernel
theorem dX5_init_115 : decode cX5_init 115 = .ok (.bipush 100, 2) := by decide +kernel
theorem dX5_init_117 : decode cX5_init 117 = .ok (.newarray .int, 2) := by decide +kernel
theorem dX5_init_119 : decode cX5_init 119 = .ok (.putfield 63, 3) := by decide +kernel
theorem dX5_init_122 : decode cX5_init 122 = .ok (.aload_n 0, 1) := by decide +kernel
theorem dX5_init_123 : decode cX5_init 123 = .ok (.bipush 17, 2) := by decide +kernel
theorem dX5_init_125 : decode cX5_init 125 = .ok (.newarray .long, 2) := by decide +kernel
theorem dX5_init_127 : decode cX5_init 127 = .ok (.putfield 66, 3) := by decide +kernel
theorem dX5_init_130 : decode cX5_init 130 = .ok (.return_, 1) := by decide +kernel
theorem dX5_isPlace_0 : decode cX5_isPlace 0 = .ok (.iload_n 0, 1) := by decide +kernel
theorem dX5_isPlace_1 : decode cX5_isPlace 1 = .ok (.ifCond .lt 13, 3) := by decide +kernel
theorem dX5_isPlace_4 : decode cX5_isPlace 4 = .ok (.iload_n 0, 1) := by decide +kernel
theorem dX5_isPlace_5 : decode cX5_isPlace 5 = .ok (.bipush 9, 2) := by decide +kernel
theorem dX5_isPlace_7 : decode cX5_isPlace 7 = .ok (.if_icmp .ge 7, 3) := by decide +kernel
theorem dX5_isPlace_10 : decode cX5_isPlace 10 = .ok (.iconst 1, 1) := by decide +kernel
theorem dX5_isPlace_11 : decode cX5_isPlace 11 = .ok (.goto 4, 3) := by decide +kernel
theorem dX5_isPlace_14 : decode cX5_isPlace 14 = .ok (.iconst 0, 1) := by decide +kernel
theorem dX5_isPlace_15 : decode cX5_isPlace 15 = .ok (.ireturn, 1) := by decide +kernel
theorem dX5_isWalker_0 : decode cX5_isWalker 0 = .ok (.iload_n 0, 1) := by decide +kernel
theorem dX5_isWalker_1 : decode cX5_isWalker 1 = .ok (.ifCond .lt 13, 3) := by decide +kernel
theorem dX5_isWalker_4 : decode cX5_isWalker 4 = .ok (.iload_n 0, 1) := by decide +kernel
theorem dX5_isWalker_5 : decode cX5_isWalker 5 = .ok (.bipush 6, 2) := by decide +kernel
theorem dX5_isWalker_7 : decode cX5_isWalker 7 = .ok (.if_icmp .ge 7, 3) := by decide +kernel
theorem dX5_isWalker_10 : decode cX5_isWalker 10 = .ok (.iconst 1, 1) := by decide +kernel
theorem dX5_isWalker_11 : decode cX5_isWalker 11 = .ok (.goto 4, 3) := by decide +kernel
theorem dX5_isWalker_14 : decode cX5_isWalker 14 = .ok (.iconst 0, 1) := by decide +kernel
theorem dX5_isWalker_15 : decode cX5_isWalker 15 = .ok (.ireturn, 1) := by decide +kernel
theorem dX5_judge_0 : decode cX5_judge 0 = .ok (.iload_n 1, 1) := by decide +kernel
theorem dX5_judge_1 : decode cX5_judge 1 = .ok (.iconst 0, 1) := by decide +kernel
theorem dX5_judge_2 : decode cX5_judge 2 = .ok (.iconst 1, 1) := by decide +kernel
theorem dX5_judge_3 : decode cX5_judge 3 = .ok (.invokestatic 74, 3) := by decide +kernel
theorem dX5_judge_6 : decode cX5_judge 6 = .ok (.ifCond .ne 6, 3) := by decide +kernel
theorem dX5_judge_9 : decode cX5_judge 9 = .ok (.bipush (-2), 2) := by decide +kernel
theorem dX5_judge_11 : decode cX5_judge 11 = .ok (.ireturn, 1) := by decide +kernel
theorem dX5_judge_12 : decode cX5_judge 12 = .ok (.aload_n 0, 1) := by decide +kernel
theorem dX5_judge_13 : decode cX5_judge 13 = .ok (.getfield 26, 3) := by decide +kernel
theorem dX5_judge_16 : decode cX5_judge 16 = .ok (.invokevirtual 117, 3) := by decide +kernel
theorem dX5_judge_19 : decode cX5_judge 19 = .ok (.bipush (-6), 2) := by decide +kernel
theorem dX5_judge_21 : decode cX5_judge 21 = .ok (.if_icmp .eq 6, 3) := by decide +kernel
theorem dX5_judge_24 : decode cX5_judge 24 = .ok (.bipush (-5), 2) := by decide +kernel
theorem dX5_judge_26 : decode cX5_judge 26 = .ok (.ireturn, 1) := by decide +kernel
theorem dX5_judge_27 : decode cX5_judge 27 = .ok (.aload_n 0, 1) := by decide +kernel
theorem dX5_judge_28 : decode cX5_judge 28 = .ok (.getfield 33, 3) := by decide +kernel
theorem dX5_judge_31 : decode cX5_judge 31 = .ok (.aload_n 0, 1) := by decide +kernel
theorem dX5_judge_32 : decode cX5_judge 32 = .ok (.getfield 26, 3) := by decide +kernel
theorem dX5_judge_35 : decode cX5_judge 35 = .ok (.aload_n 0, 1) := by decide +kernel
theorem dX5_judge_36 : decode cX5_judge 36 = .ok (.getfield 12, 3) := by decide +kernel
theorem dX5_judge_39 : decode cX5_judge 39 = .ok (.invokevirtual 120, 3) := by decide +kernel
theorem dX5_judge_42 : decode cX5_judge 42 = .ok (.iload_n 1, 1) := by decide +kernel
theorem dX5_judge_43 : decode cX5_judge 43 = .ok (.ifCond .ne 13, 3) := by decide +kernel
theorem dX5_judge_46 : decode cX5_judge 46 = .ok (.aload_n 0, 1) := by decide +kernel
theorem dX5_judge_47 : decode cX5_judge 47 = .ok (.getfield 33, 3) := by decide +kernel
theorem dX5_judge_50 : decode cX5_judge 50 = .ok (.getfield 124, 3) := by decide +kernel
theorem dX5_judge_53 : decode cX5_judge 53 = .ok (.goto 10, 3) := by decide +kernel
theorem dX5_judge_56 : decode cX5_judge 56 = .ok (.aload_n 0, 1) := by decide +kernel
theorem dX5_judge_57 : decode cX5_judge 57 = .ok (.getfield 33, 3) := by decide +kernel
theorem dX5_judge_60 : decode cX5_judge 60 = .ok (.getfield 127, 3) := by decide +kernel
theorem dX5_judge_63 : decode cX5_judge 63 = .ok (.ireturn, 1) := by decide +kernel
theorem dX5_leastWay_0 : decode cX5_leastWay 0 = .ok (.aload_n 0, 1) := by decide +kernel
theorem dX5_leastWay_1 : decode cX5_leastWay 1 = .ok (.getfield 47, 3) := by decide +kernel
theorem dX5_leastWay_4 : decode cX5_leastWay 4 = .ok (.bipush (-6), 2) := by decide +kernel
theorem dX5_leastWay_6 : decode cX5_leastWay 6 = .ok (.invokestatic 262, 3) := by decide +kernel
theorem dX5_leastWay_9 : decode cX5_leastWay 9 = .ok (.aload_n 0, 1) := by decide +kernel
theorem dX5_leastWay_10 : decode cX5_leastWay 10 = .ok (.getfield 47, 3) := by decide +kernel
theorem dX5_leastWay_13 : decode cX5_leastWay 13 = .ok (.iload_n 1, 1) := by decide +kernel
theorem dX5_leastWay_14 : decode cX5_leastWay 14 = .ok (.iconst 0, 1) := by decide +kernel
theorem dX5_leastWay_15 : decode cX5_leastWay 15 = .ok (.invokestatic 234, 3) := by decide +kernel
theorem dX5_leastWay_18 : decode cX5_leastWay 18 = .ok (.iconst 1, 1) := by decide +kernel
theorem dX5_leastWay_19 : decode cX5_leastWay 19 = .ok (.istore 4, 2) := by decide +kernel
theorem dX5_leastWay_21 : decode cX5_leastWay 21 = .ok (.iload 4, 2) := by decide +kernel
theorem dX5_leastWay_23 : decode cX5_leastWay 23 = .ok (.bipush 9, 2) := by decide +kernel
theorem dX5_leastWay_25 : decode cX5_leastWay 25 = .ok (.if_icmp .ge 32, 3) := by decide +kernel
theorem dX5_leastWay_28 : decode cX5_leastWay 28 = .ok (.iconst 0, 1) := by decide +kernel
theorem dX5_leastWay_29 : decode cX5_leastWay 29 = .ok (.istore 5, 2) := by decide +kernel
theorem dX5_leastWay_31 : decode cX5_leastWay 31 = .ok (.iload 5, 2) := by decide +kernel
theorem dX5_leastWay_33 : decode cX5_leastWay 33 = .ok (.bipush 9, 2) := by decide +kernel
theorem dX5_leastWay_35 : decode cX5_leastWay 35 = .ok (.if_icmp .ge 16, 3) := by decide +kernel
theorem dX5_leastWay_38 : decode cX5_leastWay 38 = .ok (.aload_n 0, 1) := by decide +kernel
theorem dX5_leastWay_39 : decode cX5_leastWay 39 = .ok (.iload 5, 2) := by decide +kernel
theorem dX5_leastWay_41 : decode cX5_leastWay 41 = .ok (.iload_n 3, 1) := by decide +kernel
theorem dX5_leastWay_42 : decode cX5_leastWay 42 = .ok (.invokevirtual 268, 3) := by decide +kernel
theorem dX5_leastWay_45 : decode cX5_leastWay 45 = .ok (.iinc 5 1, 3) := by decide +kernel
theorem dX5_leastWay_48 : decode cX5_leastWay 48 = .ok (.goto (-17), 3) := by decide +kernel
theorem dX5_leastWay_51 : decode cX5_leastWay 51 = .ok (.iinc 4 1, 3) := by decide +kernel
theorem dX5_leastWay_54 : decode cX5_leastWay 54 = .ok (.goto (-33), 3) := by decide +kernel
theorem dX5_leastWay_57 : decode cX5_leastWay 57 = .ok (.aload_n 0, 1) := by decide +kernel
theorem dX5_leastWay_58 : decode cX5_leastWay 58 = .ok (.getfield 47, 3) := by decide +kernel
theorem dX5_leastWay_61 : decode cX5_leastWay 61 = .ok (.iload_n 2, 1) := by decide +kernel
theorem dX5_leastWay_62 : decode cX5_leastWay 62 = .ok (.invokestatic 199, 3) := by decide +kernel
theorem dX5_leastWay_65 : decode cX5_leastWay 65 = .ok (.ireturn, 1) := by decide +kernel
theorem dX5_lengthenFrom_0 : decode cX5_lengthenFrom 0 = .ok (.aload_n 0, 1) := by decide +kernel
theorem dX5_lengthenFrom_1 : decode cX5_lengthenFrom 1 = .ok (.getfield 47, 3) := by decide +kernel
theorem dX5_lengthenFrom_4 : decode cX5_lengthenFrom 4 = .ok (.iload_n 1, 1) := by decide +kernel
theorem dX5_lengthenFrom_5 : decode cX5_lengthenFrom 5 = .ok (.invokestatic 199, 3) := by decide +kernel
theorem dX5_lengthenFrom_8 : decode cX5_lengthenFrom 8 = .ok (.istore_n 3, 1) := by decide +kernel
theorem dX5_lengthenFrom_9 : decode cX5_lengthenFrom 9 = .ok (.iload_n 3, 1) := by decide +kernel
theorem dX5_lengthenFrom_10 : decode cX5_lengthenFrom 10 = .ok (.bipush (-6), 2) := by decide +kernel
theorem dX5_lengthenFrom_12 : decode cX5_lengthenFrom 12 = .ok (.if_icmp .ne 4, 3) := by decide +kernel
theorem dX5_lengthenFrom_15 : decode cX5_lengthenFrom 15 = .ok (.return_, 1) := by decide +kernel
theorem dX5_lengthenFrom_16 : decode cX5_lengthenFrom 16 = .ok (.iconst 0, 1) := by decide +kernel
theorem dX5_lengthenFrom_17 : decode cX5_lengthenFrom 17 = .ok (.istore 4, 2) := by decide +kernel
theorem dX5_lengthenFrom_19 : decode cX5_lengthenFrom 19 = .ok (.iload 4, 2) := by decide +kernel
theorem dX5_lengthenFrom_21 : decode cX5_lengthenFrom 21 = .ok (.bipush 9, 2) := by decide +kernel
theorem dX5_lengthenFrom_23 : decode cX5_lengthenFrom 23 = .ok (.if_icmp .ge 80, 3) := by decide +kernel
theorem dX5_lengthenFrom_26 : decode cX5_lengthenFrom 26 = .ok (.aload_n 0, 1) := by decide +kernel
theorem dX5_lengthenFrom_27 : decode cX5_lengthenFrom 27 = .ok (.getfield 12, 3) := by decide +kernel
theorem dX5_lengthenFrom_30 : decode cX5_lengthenFrom 30 = .ok (.iload_n 1, 1) := by decide +kernel
theorem dX5_lengthenFrom_31 : decode cX5_lengthenFrom 31 = .ok (.iload 4, 2) := by decide +kernel
theorem dX5_lengthenFrom_33 : decode cX5_lengthenFrom 33 = .ok (.invokevirtual 174, 3) := by decide +kernel
theorem dX5_lengthenFrom_36 : decode cX5_lengthenFrom 36 = .ok (.ifCond .eq 61, 3) := by decide +kernel
theorem dX5_lengthenFrom_39 : decode cX5_lengthenFrom 39 = .ok (.iload_n 3, 1) := by decide +kernel
theorem dX5_lengthenFrom_40 : decode cX5_lengthenFrom 40 = .ok (.iload_n 2, 1) := by decide +kernel
theorem dX5_lengthenFrom_41 : decode cX5_lengthenFrom 41 = .ok (.ifCond .eq 16, 3) := by decide +kernel
theorem dX5_lengthenFrom_44 : decode cX5_lengthenFrom 44 = .ok (.aload_n 0, 1) := by decide +kernel
theorem dX5_lengthenFrom_45 : decode cX5_lengthenFrom 45 = .ok (.getfield 12, 3) := by decide +kernel
theorem dX5_lengthenFrom_48 : decode cX5_lengthenFrom 48 = .ok (.iload_n 1, 1) := by decide +kernel
theorem dX5_lengthenFrom_49 : decode cX5_lengthenFrom 49 = .ok (.iload 4, 2) := by decide +kernel
theorem dX5_lengthenFrom_51 : decode cX5_lengthenFrom 51 = .ok (.invokevirtual 142, 3) := by decide +kernel
theorem dX5_lengthenFrom_54 : decode cX5_lengthenFrom 54 = .ok (.goto 4, 3) := by decide +kernel
theorem dX5_lengthenFrom_57 : decode cX5_lengthenFrom 57 = .ok (.iconst 1, 1) := by decide +kernel
theorem dX5_lengthenFrom_58 : decode cX5_lengthenFrom 58 = .ok (.iadd, 1) := by decide +kernel
theorem dX5_lengthenFrom_59 : decode cX5_lengthenFrom 59 = .ok (.istore 5, 2) := by decide +kernel
theorem dX5_lengthenFrom_61 : decode cX5_lengthenFrom 61 = .ok (.aload_n 0, 1) := by decide +kernel
theorem dX5_lengthenFrom_62 : decode cX5_lengthenFrom 62 = .ok (.getfield 47, 3) := by decide +kernel
theorem dX5_lengthenFrom_65 : decode cX5_lengthenFrom 65 = .ok (.iload 4, 2) := by decide +kernel
theorem dX5_lengthenFrom_67 : decode cX5_lengthenFrom 67 = .ok (.invokestatic 199, 3) := by decide +kernel
theorem dX5_lengthenFrom_70 : decode cX5_lengthenFrom 70 = .ok (.istore 6, 2) := by decide +kernel
theorem dX5_lengthenFrom_72 : decode cX5_lengthenFrom 72 = .ok (.iload 6, 2) := by decide +kernel
theorem dX5_lengthenFrom_74 : decode cX5_lengthenFrom 74 = .ok (.bipush (-6), 2) := by decide +kernel
theorem dX5_lengthenFrom_76 : decode cX5_lengthenFrom 76 = .ok (.if_icmp .eq 10, 3) := by decide +kernel
theorem dX5_lengthenFrom_79 : decode cX5_lengthenFrom 79 = .ok (.iload 5, 2) := by decide +kernel
theorem dX5_lengthenFrom_81 : decode cX5_lengthenFrom 81 = .ok (.iload 6, 2) := by decide +kernel
theorem dX5_lengthenFrom_83 : decode cX5_lengthenFrom 83 = .ok (.if_icmp .ge 14, 3) := by decide +kernel
theorem dX5_lengthenFrom_86 : decode cX5_lengthenFrom 86 = .ok (.aload_n 0, 1) := by decide +kernel
theorem dX5_lengthenFrom_87 : decode cX5_lengthenFrom 87 = .ok (.getfield 47, 3) := by decide +kernel
theorem dX5_lengthenFrom_90 : decode cX5_lengthenFrom 90 = .ok (.iload 4, 2) := by decide +kernel
theorem dX5_lengthenFrom_92 : decode cX5_lengthenFrom 92 = .ok (.iload 5, 2) := by decide +kernel
theorem dX5_lengthenFrom_94 : decode cX5_lengthenFrom 94 = .ok (.invokestatic 234, 3) := by decide +kernel
theorem dX5_lengthenFrom_97 : decode cX5_lengthenFrom 97 = .ok (.iinc 4 1, 3) := by decide +kernel
theorem dX5_lengthenFrom_100 : decode cX5_lengthenFrom 100 = .ok (.goto (-81), 3) := by decide +kernel
theorem dX5_lengthenFrom_103 : decode cX5_lengthenFrom 103 = .ok (.return_, 1) := by decide +kernel
theorem dX5_lowestTerms_0 : decode cX5_lowestTerms 0 = .ok (.lload_n 0, 1) := by decide +kernel
theorem dX5_lowestTerms_1 : decode cX5_lowestTerms 1 = .ok (.lload_n 2, 1) := by decide +kernel
theorem dX5_lowestTerms_2 : decode cX5_lowestTerms 2 = .ok (.invokestatic 289, 3) := by decide +kernel
theorem dX5_lowestTerms_5 : decode cX5_lowestTerms 5 = .ok (.lstore 5, 2) := by decide +kernel
theorem dX5_lowestTerms_7 : decode cX5_lowestTerms 7 = .ok (.iload 4, 2) := by decide +kernel
theorem dX5_lowestTerms_9 : decode cX5_lowestTerms 9 = .ok (.ifCond .ne 7, 3) := by decide +kernel
theorem dX5_lowestTerms_12 : decode cX5_lowestTerms 12 = .ok (.lload_n 0, 1) := by decide +kernel
theorem dX5_lowestTerms_13 : decode cX5_lowestTerms 13 = .ok (.goto 4, 3) := by decide +kernel
theorem dX5_lowestTerms_16 : decode cX5_lowestTerms 16 = .ok (.lload_n 2, 1) := by decide +kernel
theorem dX5_lowestTerms_17 : decode cX5_lowestTerms 17 = .ok (.lstore 7, 2) := by decide +kernel
theorem dX5_lowestTerms_19 : decode cX5_lowestTerms 19 = .ok (.lload 5, 2) := by decide +kernel
theorem dX5_lowestTerms_21 : decode cX5_lowestTerms 21 = .ok (.lconst 0, 1) := by decide +kernel
theorem dX5_lowestTerms_22 : decode cX5_lowestTerms 22 = .ok (.lcmp, 1) := by decide +kernel
theorem dX5_lowestTerms_23 : decode cX5_lowestTerms 23 = .ok (.ifCond .le 11, 3) := by decide +kernel
theorem dX5_lowestTerms_26 : decode cX5_lowestTerms 26 = .ok (.lload 7, 2) := by decide +kernel
theorem dX5_lowestTerms_28 : decode cX5_lowestTerms 28 = .ok (.lload 5, 2) := by decide +kernel
theorem dX5_lowestTerms_30 : decode cX5_lowestTerms 30 = .ok (.ldiv, 1) := by decide +kernel
theorem dX5_lowestTerms_31 : decode cX5_lowestTerms 31 = .ok (.goto 5, 3) := by decide +kernel
theorem dX5_lowestTerms_34 : decode cX5_lowestTerms 34 = .ok (.lload 7, 2) := by decide +kernel
theorem dX5_lowestTerms_36 : decode cX5_lowestTerms 36 = .ok (.lreturn, 1) := by decide +kernel
theorem dX5_mended_0 : decode cX5_mended 0 = .ok (.iload_n 2, 1) := by decide +kernel
theorem dX5_mended_1 : decode cX5_mended 1 = .ok (.iconst 1, 1) := by decide +kernel
theorem dX5_mended_2 : decode cX5_mended 2 = .ok (.bipush 8, 2) := by decide +kernel
theorem dX5_mended_4 : decode cX5_mended 4 = .ok (.invokestatic 74, 3) := by decide +kernel
theorem dX5_mended_7 : decode cX5_mended 7 = .ok (.ifCond .eq 12, 3) := by decide +kernel
theorem dX5_mended_10 : decode cX5_mended 10 = .ok (.iload_n 3, 1) := by decide +kernel
theorem dX5_mended_11 : decode cX5_mended 11 = .ok (.iconst 1, 1) := by decide +kernel
theorem dX5_mended_12 : decode cX5_mended 12 = .ok (.iconst 4, 1) := by decide +kernel
theorem dX5_mended_13 : decode cX5_mended 13 = .ok (.invokestatic 74, 3) := by decide +kernel
theorem dX5_mended_16 : decode cX5_mended 16 = .ok (.ifCond .ne 6, 3) := by decide +kernel
theorem dX5_mended_19 : decode cX5_mended 19 = .ok (.bipush (-2), 2) := by decide +kernel
theorem dX5_mended_21 : decode cX5_mended 21 = .ok (.ireturn, 1) := by decide +kernel
theorem dX5_mended_22 : decode cX5_mended 22 = .ok (.iload_n 1, 1) := by decide +kernel
theorem dX5_mended_23 : decode cX5_mended 23 = .ok (.iload_n 2, 1) := by decide +kernel
theorem dX5_mended_24 : decode cX5_mended 24 = .ok (.invokestatic 189, 3) := by decide +kernel
theorem dX5_mended_27 : decode cX5_mended 27 = .ok (.ifCond .ne 6, 3) := by decide +kernel
theorem dX5_mended_30 : decode cX5_mended 30 = .ok (.bipush (-2), 2) := by decide +kernel
theorem dX5_mended_32 : decode cX5_mended 32 = .ok (.ireturn, 1) := by decide +kernel
theorem dX5_mended_33 : decode cX5_mended 33 = .ok (.iconst 1, 1) := by decide +kernel
theorem dX5_mended_34 : decode cX5_mended 34 = .ok (.iload_n 2, 1) := by decide +kernel
theorem dX5_mended_35 : decode cX5_mended 35 = .ok (.ishl, 1) := by decide +kernel
theorem dX5_mended_36 : decode cX5_mended 36 = .ok (.istore 4, 2) := by decide +kernel
theorem dX5_mended_38 : decode cX5_mended 38 = .ok (.aload_n 0, 1) := by decide +kernel
theorem dX5_mended_39 : decode cX5_mended 39 = .ok (.iload_n 1, 1) := by decide +kernel
theorem dX5_mended_40 : decode cX5_mended 40 = .ok (.iload 4, 2) := by decide +kernel
theorem dX5_mended_42 : decode cX5_mended 42 = .ok (.invokevirtual 192, 3) := by decide +kernel
theorem dX5_mended_45 : decode cX5_mended 45 = .ok (.iconst 2, 1) := by decide +kernel
theorem dX5_mended_46 : decode cX5_mended 46 = .ok (.istore 5, 2) := by decide +kernel
theorem dX5_mended_48 : decode cX5_mended 48 = .ok (.iload 5, 2) := by decide +kernel
theorem dX5_mended_50 : decode cX5_mended 50 = .ok (.iload_n 3, 1) := by decide +kernel
theorem dX5_mended_51 : decode cX5_mended 51 = .ok (.if_icmp .gt 15, 3) := by decide +kernel
theorem dX5_mended_54 : decode cX5_mended 54 = .ok (.aload_n 0, 1) := by decide +kernel
theorem dX5_mended_55 : decode cX5_mended 55 = .ok (.iload 4, 2) := by decide +kernel
theorem dX5_mended_57 : decode cX5_mended 57 = .ok (.invokevirtual 196, 3) := by decide +kernel
theorem dX5_mended_60 : decode cX5_mended 60 = .ok (.iinc 5 1, 3) := by decide +kernel
theorem dX5_mended_63 : decode cX5_mended 63 = .ok (.goto (-15), 3) := by decide +kernel
theorem dX5_mended_66 : decode cX5_mended 66 = .ok (.aload_n 0, 1) := by decide +kernel
theorem dX5_mended_67 : decode cX5_mended 67 = .ok (.getfield 54, 3) := by decide +kernel
theorem dX5_mended_70 : decode cX5_mended 70 = .ok (.iload 4, 2) := by decide +kernel
theorem dX5_mended_72 : decode cX5_mended 72 = .ok (.iconst 1, 1) := by decide +kernel
theorem dX5_mended_73 : decode cX5_mended 73 = .ok (.isub, 1) := by decide +kernel
theorem dX5_mended_74 : decode cX5_mended 74 = .ok (.invokestatic 199, 3) := by decide +kernel
theorem dX5_mended_77 : decode cX5_mended 77 = .ok (.ireturn, 1) := by decide +kernel
theorem dX5_mostLeft_0 : decode cX5_mostLeft 0 = .ok (.aload_n 0, 1) := by decide +kernel
theorem dX5_mostLeft_1 : decode cX5_mostLeft 1 = .ok (.getfield 60, 3) := by decide +kernel
theorem dX5_mostLeft_4 : decode cX5_mostLeft 4 = .ok (.iconst 0, 1) := by decide +kernel
theorem dX5_mostLeft_5 : decode cX5_mostLeft 5 = .ok (.invokestatic 262, 3) := by decide +kernel
theorem dX5_mostLeft_8 : decode cX5_mostLeft 8 = .ok (.iconst 0, 1) := by decide +kernel
theorem dX5_mostLeft_9 : decode cX5_mostLeft 9 = .ok (.istore 4, 2) := by decide +kernel
theorem dX5_mostLeft_11 : decode cX5_mostLeft 11 = .ok (.iconst 0, 1) := by decide +kernel
theorem dX5_mostLeft_12 : decode cX5_mostLeft 12 = .ok (.istore 5, 2) := by decide +kernel
theorem dX5_mostLeft_14 : decode cX5_mostLeft 14 = .ok (.iload 5, 2) := by decide +kernel
theorem dX5_mostLeft_16 : decode cX5_mostLeft 16 = .ok (.iload_n 3, 1) := by decide +kernel
theorem dX5_mostLeft_17 : decode cX5_mostLeft 17 = .ok (.if_icmp .ge 58, 3) := by decide +kernel
theorem dX5_mostLeft_20 : decode cX5_mostLeft 20 = .ok (.iload_n 1, 1) := by decide +kernel
theorem dX5_mostLeft_21 : decode cX5_mostLeft 21 = .ok (.iload_n 2, 1) := by decide +kernel
theorem dX5_mostLeft_22 : decode cX5_mostLeft 22 = .ok (.aload_n 0, 1) := by decide +kernel
theorem dX5_mostLeft_23 : decode cX5_mostLeft 23 = .ok (.getfield 57, 3) := by decide +kernel
theorem dX5_mostLeft_26 : decode cX5_mostLeft 26 = .ok (.iload 5, 2) := by decide +kernel
theorem dX5_mostLeft_28 : decode cX5_mostLeft 28 = .ok (.invokestatic 199, 3) := by decide +kernel
theorem dX5_mostLeft_31 : decode cX5_mostLeft 31 = .ok (.invokestatic 283, 3) := by decide +kernel
theorem dX5_mostLeft_34 : decode cX5_mostLeft 34 = .ok (.istore 6, 2) := by decide +kernel
theorem dX5_mostLeft_36 : decode cX5_mostLeft 36 = .ok (.aload_n 0, 1) := by decide +kernel
theorem dX5_mostLeft_37 : decode cX5_mostLeft 37 = .ok (.getfield 60, 3) := by decide +kernel
theorem dX5_mostLeft_40 : decode cX5_mostLeft 40 = .ok (.iload 6, 2) := by decide +kernel
theorem dX5_mostLeft_42 : decode cX5_mostLeft 42 = .ok (.invokestatic 199, 3) := by decide +kernel
theorem dX5_mostLeft_45 : decode cX5_mostLeft 45 = .ok (.iconst 1, 1) := by decide +kernel
theorem dX5_mostLeft_46 : decode cX5_mostLeft 46 = .ok (.iadd, 1) := by decide +kernel
theorem dX5_mostLeft_47 : decode cX5_mostLeft 47 = .ok (.istore 7, 2) := by decide +kernel
theorem dX5_mostLeft_49 : decode cX5_mostLeft 49 = .ok (.aload_n 0, 1) := by decide +kernel
theorem dX5_mostLeft_50 : decode cX5_mostLeft 50 = .ok (.getfield 60, 3) := by decide +kernel
theorem dX5_mostLeft_53 : decode cX5_mostLeft 53 = .ok (.iload 6, 2) := by decide +kernel
theorem dX5_mostLeft_55 : decode cX5_mostLeft 55 = .ok (.iload 7, 2) := by decide +kernel
theorem dX5_mostLeft_57 : decode cX5_mostLeft 57 = .ok (.invokestatic 234, 3) := by decide +kernel
theorem dX5_mostLeft_60 : decode cX5_mostLeft 60 = .ok (.iload 4, 2) := by decide +kernel
theorem dX5_mostLeft_62 : decode cX5_mostLeft 62 = .ok (.iload 7, 2) := by decide +kernel
theorem dX5_mostLeft_64 : decode cX5_mostLeft 64 = .ok (.invokestatic 272, 3) := by decide +kernel
theorem dX5_mostLeft_67 : decode cX5_mostLeft 67 = .ok (.istore 4, 2) := by decide +kernel
theorem dX5_mostLeft_69 : decode cX5_mostLeft 69 = .ok (.iinc 5 1, 3) := by decide +kernel
theorem dX5_mostLeft_72 : decode cX5_mostLeft 72 = .ok (.goto (-58), 3) := by decide +kernel
theorem dX5_mostLeft_75 : decode cX5_mostLeft 75 = .ok (.iload 4, 2) := by decide +kernel
theorem dX5_mostLeft_77 : decode cX5_mostLeft 77 = .ok (.ireturn, 1) := by decide +kernel
theorem dX5_nameOfRoad_0 : decode cX5_nameOfRoad 0 = .ok (.bipush 10, 2) := by decide +kernel
theorem dX5_nameOfRoad_2 : decode cX5_nameOfRoad 2 = .ok (.iload_n 0, 1) := by decide +kernel
theorem dX5_nameOfRoad_3 : decode cX5_nameOfRoad 3 = .ok (.iload_n 1, 1) := by decide +kernel
theorem dX5_nameOfRoad_4 : decode cX5_nameOfRoad 4 = .ok (.invokestatic 277, 3) := by decide +kernel
theorem dX5_nameOfRoad_7 : decode cX5_nameOfRoad 7 = .ok (.imul, 1) := by decide +kernel
theorem dX5_nameOfRoad_8 : decode cX5_nameOfRoad 8 = .ok (.iload_n 0, 1) := by decide +kernel
theorem dX5_nameOfRoad_9 : decode cX5_nameOfRoad 9 = .ok (.iload_n 1, 1) := by decide +kernel
theorem dX5_nameOfRoad_10 : decode cX5_nameOfRoad 10 = .ok (.invokestatic 272, 3) := by decide +kernel
theorem dX5_nameOfRoad_13 : decode cX5_nameOfRoad 13 = .ok (.iadd, 1) := by decide +kernel
theorem dX5_nameOfRoad_14 : decode cX5_nameOfRoad 14 = .ok (.ireturn, 1) := by decide +kernel
theorem dX5_parts_0 : decode cX5_parts 0 = .ok (.iload_n 1, 1) := by decide +kernel
theorem dX5_parts_1 : decode cX5_parts 1 = .ok (.iconst 0, 1) := by decide +kernel
theorem dX5_parts_2 : decode cX5_parts 2 = .ok (.iconst 1, 1) := by decide +kernel
theorem dX5_parts_3 : decode cX5_parts 3 = .ok (.invokestatic 74, 3) := by decide +kernel
theorem dX5_parts_6 : decode cX5_parts 6 = .ok (.ifCond .ne 6, 3) := by decide +kernel
theorem dX5_parts_9 : decode cX5_parts 9 = .ok (.bipush (-2), 2) := by decide +kernel
theorem dX5_parts_11 : decode cX5_parts 11 = .ok (.ireturn, 1) := by decide +kernel
theorem dX5_parts_12 : decode cX5_parts 12 = .ok (.iconst 0, 1) := by decide +kernel
theorem dX5_parts_13 : decode cX5_parts 13 = .ok (.istore_n 2, 1) := by decide +kernel
theorem dX5_parts_14 : decode cX5_parts 14 = .ok (.bipush (-6), 2) := by decide +kernel
theorem dX5_parts_16 : decode cX5_parts 16 = .ok (.istore_n 3, 1) := by decide +kernel
theorem dX5_parts_17 : decode cX5_parts 17 = .ok (.iconst 0, 1) := by decide +kernel
theorem dX5_parts_18 : decode cX5_parts 18 = .ok (.istore 4, 2) := by decide +kernel
theorem dX5_parts_20 : decode cX5_parts 20 = .ok (.iload 4, 2) := by decide +kernel
theorem dX5_parts_22 : decode cX5_parts 22 = .ok (.bipush 9, 2) := by decide +kernel
theorem dX5_parts_24 : decode cX5_parts 24 = .ok (.if_icmp .ge 80, 3) := by decide +kernel
theorem dX5_parts_27 : decode cX5_parts 27 = .ok (.iload 4, 2) := by decide +kernel
theorem dX5_parts_29 : decode cX5_parts 29 = .ok (.iconst 1, 1) := by decide +kernel
theorem dX5_parts_30 : decode cX5_parts 30 = .ok (.iadd, 1) := by decide +kernel
theorem dX5_parts_31 : decode cX5_parts 31 = .ok (.istore 5, 2) := by decide +kernel
theorem dX5_parts_33 : decode cX5_parts 33 = .ok (.iload 5, 2) := by decide +kernel
theorem dX5_parts_35 : decode cX5_parts 35 = .ok (.bipush 9, 2) := by decide +kernel
theorem dX5_parts_37 : decode cX5_parts 37 = .ok (.if_icmp .ge 61, 3) := by decide +kernel
theorem dX5_parts_40 : decode cX5_parts 40 = .ok (.aload_n 0, 1) := by decide +kernel
theorem dX5_parts_41 : decode cX5_parts 41 = .ok (.getfield 12, 3) := by decide +kernel
theorem dX5_parts_44 : decode cX5_parts 44 = .ok (.iload 4, 2) := by decide +kernel
theorem dX5_parts_46 : decode cX5_parts 46 = .ok (.iload 5, 2) := by decide +kernel
theorem dX5_parts_48 : decode cX5_parts 48 = .ok (.invokevirtual 174, 3) := by decide +kernel
theorem dX5_parts_51 : decode cX5_parts 51 = .ok (.ifCond .eq 41, 3) := by decide +kernel
theorem dX5_parts_54 : decode cX5_parts 54 = .ok (.aload_n 0, 1) := by decide +kernel
theorem dX5_parts_55 : decode cX5_parts 55 = .ok (.getfield 12, 3) := by decide +kernel
theorem dX5_parts_58 : decode cX5_parts 58 = .ok (.iload 4, 2) := by decide +kernel
theorem dX5_parts_60 : decode cX5_parts 60 = .ok (.iconst 1, 1) := by decide +kernel
theorem dX5_parts_61 : decode cX5_parts 61 = .ok (.iload 5, 2) := by decide +kernel
theorem dX5_parts_63 : decode cX5_parts 63 = .ok (.ishl, 1) := by decide +kernel
theorem dX5_parts_64 : decode cX5_parts 64 = .ok (.invokevirtual 177, 3) := by decide +kernel
theorem dX5_parts_67 : decode cX5_parts 67 = .ok (.iload 5, 2) := by decide +kernel
theorem dX5_parts_69 : decode cX5_parts 69 = .ok (.invokestatic 180, 3) := by decide +kernel
theorem dX5_parts_72 : decode cX5_parts 72 = .ok (.ifCond .ne 20, 3) := by decide +kernel
theorem dX5_parts_75 : decode cX5_parts 75 = .ok (.iinc 2 1, 3) := by decide +kernel
theorem dX5_parts_78 : decode cX5_parts 78 = .ok (.iload_n 3, 1) := by decide +kernel
theorem dX5_parts_79 : decode cX5_parts 79 = .ok (.bipush (-6), 2) := by decide +kernel
theorem dX5_parts_81 : decode cX5_parts 81 = .ok (.if_icmp .ne 11, 3) := by decide +kernel
theorem dX5_parts_84 : decode cX5_parts 84 = .ok (.iload 4, 2) := by decide +kernel
theorem dX5_parts_86 : decode cX5_parts 86 = .ok (.iload 5, 2) := by decide +kernel
theorem dX5_parts_88 : decode cX5_parts 88 = .ok (.invokestatic 183, 3) := by decide +kernel
theorem dX5_parts_91 : decode cX5_parts 91 = .ok (.istore_n 3, 1) := by decide +kernel
theorem dX5_parts_92 : decode cX5_parts 92 = .ok (.iinc 5 1, 3) := by decide +kernel
theorem dX5_parts_95 : decode cX5_parts 95 = .ok (.goto (-62), 3) := by decide +kernel
theorem dX5_parts_98 : decode cX5_parts 98 = .ok (.iinc 4 1, 3) := by decide +kernel
theorem dX5_parts_101 : decode cX5_parts 101 = .ok (.goto (-81), 3) := by decide +kernel
theorem dX5_parts_104 : decode cX5_parts 104 = .ok (.iload_n 1, 1) := by decide +kernel
theorem dX5_parts_105 : decode cX5_parts 105 = .ok (.ifCond .ne 7, 3) := by decide +kernel
theorem dX5_parts_108 : decode cX5_parts 108 = .ok (.iload_n 2, 1) := by decide +kernel
theorem dX5_parts_109 : decode cX5_parts 109 = .ok (.goto 4, 3) := by decide +kernel
theorem dX5_parts_112 : decode cX5_parts 112 = .ok (.iload_n 3, 1) := by decide +kernel
theorem dX5_parts_113 : decode cX5_parts 113 = .ok (.ireturn, 1) := by decide +kernel
theorem dX5_pays_0 : decode cX5_pays 0 = .ok (.iload_n 2, 1) := by decide +kernel
theorem dX5_pays_1 : decode cX5_pays 1 = .ok (.iconst 1, 1) := by decide +kernel
theorem dX5_pays_2 : decode cX5_pays 2 = .ok (.bipush 9, 2) := by decide +kernel
theorem dX5_pays_4 : decode cX5_pays 4 = .ok (.invokestatic 74, 3) := by decide +kernel
theorem dX5_pays_7 : decode cX5_pays 7 = .ok (.ifCond .eq 17, 3) := by decide +kernel
theorem dX5_pays_10 : decode cX5_pays 10 = .ok (.iload_n 1, 1) := by decide +kernel
theorem dX5_pays_11 : decode cX5_pays 11 = .ok (.ifCond .lt 13, 3) := by decide +kernel
theorem dX5_pays_14 : decode cX5_pays 14 = .ok (.iload_n 1, 1) := by decide +kernel
theorem dX5_pays_15 : decode cX5_pays 15 = .ok (.i2l, 1) := by decide +kernel
theorem dX5_pays_16 : decode cX5_pays 16 = .ok (.iload_n 2, 1) := by decide +kernel
theorem dX5_pays_17 : decode cX5_pays 17 = .ok (.invokestatic 203, 3) := by decide +kernel
theorem dX5_pays_20 : decode cX5_pays 20 = .ok (.lcmp, 1) := by decide +kernel
theorem dX5_pays_21 : decode cX5_pays 21 = .ok (.ifCond .lt 7, 3) := by decide +kernel
theorem dX5_pays_24 : decode cX5_pays 24 = .ok (.ldc2_w 207, 3) := by decide +kernel
theorem dX5_pays_27 : decode cX5_pays 27 = .ok (.lreturn, 1) := by decide +kernel
theorem dX5_pays_28 : decode cX5_pays 28 = .ok (.iload_n 3, 1) := by decide +kernel
theorem dX5_pays_29 : decode cX5_pays 29 = .ok (.iconst 0, 1) := by decide +kernel
theorem dX5_pays_30 : decode cX5_pays 30 = .ok (.iload_n 2, 1) := by decide +kernel
theorem dX5_pays_31 : decode cX5_pays 31 = .ok (.iconst 1, 1) := by decide +kernel
theorem dX5_pays_32 : decode cX5_pays 32 = .ok (.isub, 1) := by decide +kernel
theorem dX5_pays_33 : decode cX5_pays 33 = .ok (.invokestatic 74, 3) := by decide +kernel
theorem dX5_pays_36 : decode cX5_pays 36 = .ok (.ifCond .eq 13, 3) := by decide +kernel
theorem dX5_pays_39 : decode cX5_pays 39 = .ok (.iload 4, 2) := by decide +kernel
theorem dX5_pays_41 : decode cX5_pays 41 = .ok (.iconst 0, 1) := by decide +kernel
theorem dX5_pays_42 : decode cX5_pays 42 = .ok (.iconst 1, 1) := by decide +kernel
theorem dX5_pays_43 : decode cX5_pays 43 = .ok (.invokestatic 74, 3) := by decide +kernel
theorem dX5_pays_46 : decode cX5_pays 46 = .ok (.ifCond .ne 7, 3) := by decide +kernel
theorem dX5_pays_49 : decode cX5_pays 49 = .ok (.ldc2_w 207, 3) := by decide +kernel
theorem dX5_pays_52 : decode cX5_pays 52 = .ok (.lreturn, 1) := by decide +kernel
theorem dX5_pays_53 : decode cX5_pays 53 = .ok (.iload_n 1, 1) := by decide +kernel
theorem dX5_pays_54 : decode cX5_pays 54 = .ok (.iload_n 2, 1) := by decide +kernel
theorem dX5_pays_55 : decode cX5_pays 55 = .ok (.iconst 1, 1) := by decide +kernel
theorem dX5_pays_56 : decode cX5_pays 56 = .ok (.isub, 1) := by decide +kernel
theorem dX5_pays_57 : decode cX5_pays 57 = .ok (.iload_n 3, 1) := by decide +kernel
theorem dX5_pays_58 : decode cX5_pays 58 = .ok (.isub, 1) := by decide +kernel
theorem dX5_pays_59 : decode cX5_pays 59 = .ok (.invokestatic 209, 3) := by decide +kernel
theorem dX5_pays_62 : decode cX5_pays 62 = .ok (.istore 5, 2) := by decide +kernel
theorem dX5_pays_64 : decode cX5_pays 64 = .ok (.lconst 0, 1) := by decide +kernel
theorem dX5_pays_65 : decode cX5_pays 65 = .ok (.lstore 6, 2) := by decide +kernel
theorem dX5_pays_67 : decode cX5_pays 67 = .ok (.iconst 1, 1) := by decide +kernel
theorem dX5_pays_68 : decode cX5_pays 68 = .ok (.istore 8, 2) := by decide +kernel
theorem dX5_pays_70 : decode cX5_pays 70 = .ok (.iload 8, 2) := by decide +kernel
theorem dX5_pays_72 : decode cX5_pays 72 = .ok (.iload 5, 2) := by decide +kernel
theorem dX5_pays_74 : decode cX5_pays 74 = .ok (.if_icmp .gt 35, 3) := by decide +kernel
theorem dX5_pays_77 : decode cX5_pays 77 = .ok (.iload_n 1, 1) := by decide +kernel
theorem dX5_pays_78 : decode cX5_pays 78 = .ok (.iload_n 2, 1) := by decide +kernel
theorem dX5_pays_79 : decode cX5_pays 79 = .ok (.iload 8, 2) := by decide +kernel
theorem dX5_pays_81 : decode cX5_pays 81 = .ok (.invokestatic 212, 3) := by decide +kernel
theorem dX5_pays_84 : decode cX5_pays 84 = .ok (.istore 9, 2) := by decide +kernel
theorem dX5_pays_86 : decode cX5_pays 86 = .ok (.iload 9, 2) := by decide +kernel
theorem dX5_pays_88 : decode cX5_pays 88 = .ok (.ifCond .le 15, 3) := by decide +kernel
theorem dX5_pays_91 : decode cX5_pays 91 = .ok (.lload 6, 2) := by decide +kernel
theorem dX5_pays_93 : decode cX5_pays 93 = .ok (.sipush 2520, 3) := by decide +kernel
theorem dX5_pays_96 : decode cX5_pays 96 = .ok (.iload 9, 2) := by decide +kernel
theorem dX5_pays_98 : decode cX5_pays 98 = .ok (.idiv, 1) := by decide +kernel
theorem dX5_pays_99 : decode cX5_pays 99 = .ok (.i2l, 1) := by decide +kernel
theorem dX5_pays_100 : decode cX5_pays 100 = .ok (.ladd, 1) := by decide +kernel
theorem dX5_pays_101 : decode cX5_pays 101 = .ok (.lstore 6, 2) := by decide +kernel
theorem dX5_pays_103 : decode cX5_pays 103 = .ok (.iinc 8 1, 3) := by decide +kernel
theorem dX5_pays_106 : decode cX5_pays 106 = .ok (.goto (-36), 3) := by decide +kernel
theorem dX5_pays_109 : decode cX5_pays 109 = .ok (.lload 6, 2) := by decide +kernel
theorem dX5_pays_111 : decode cX5_pays 111 = .ok (.ldc2_w 216, 3) := by decide +kernel
theorem dX5_pays_114 : decode cX5_pays 114 = .ok (.iload 4, 2) := by decide +kernel
theorem dX5_pays_116 : decode cX5_pays 116 = .ok (.invokestatic 218, 3) := by decide +kernel
theorem dX5_pays_119 : decode cX5_pays 119 = .ok (.lreturn, 1) := by decide +kernel
theorem dX5_powerOfTen_0 : decode cX5_powerOfTen 0 = .ok (.lconst 1, 1) := by decide +kernel
theorem dX5_powerOfTen_1 : decode cX5_powerOfTen 1 = .ok (.lstore_n 1, 1) := by decide +kernel
theorem dX5_powerOfTen_2 : decode cX5_powerOfTen 2 = .ok (.iconst 0, 1) := by decide +kernel
theorem dX5_powerOfTen_3 : decode cX5_powerOfTen 3 = .ok (.istore_n 3, 1) := by decide +kernel
theorem dX5_powerOfTen_4 : decode cX5_powerOfTen 4 = .ok (.iload_n 3, 1) := by decide +kernel
theorem dX5_powerOfTen_5 : decode cX5_powerOfTen 5 = .ok (.iload_n 0, 1) := by decide +kernel
theorem dX5_powerOfTen_6 : decode cX5_powerOfTen 6 = .ok (.if_icmp .ge 15, 3) := by decide +kernel
theorem dX5_powerOfTen_9 : decode cX5_powerOfTen 9 = .ok (.lload_n 1, 1) := by decide +kernel
theorem dX5_powerOfTen_10 : decode cX5_powerOfTen 10 = .ok (.ldc2_w 238, 3) := by decide +kernel
theorem dX5_powerOfTen_13 : decode cX5_powerOfTen 13 = .ok (.lmul, 1) := by decide +kernel
theorem dX5_powerOfTen_14 : decode cX5_powerOfTen 14 = .ok (.lstore_n 1, 1) := by decide +kernel
theorem dX5_powerOfTen_15 : decode cX5_powerOfTen 15 = .ok (.iinc 3 1, 3) := by decide +kernel
theorem dX5_powerOfTen_18 : decode cX5_powerOfTen 18 = .ok (.goto (-14), 3) := by decide +kernel
theorem dX5_powerOfTen_21 : decode cX5_powerOfTen 21 = .ok (.lload_n 1, 1) := by decide +kernel
theorem dX5_powerOfTen_22 : decode cX5_powerOfTen 22 = .ok (.lreturn, 1) := by decide +kernel
theorem dX5_put_0 : decode cX5_put 0 = .ok (.iload_n 1, 1) := by decide +kernel
theorem dX5_put_1 : decode cX5_put 1 = .ok (.ifCond .lt 13, 3) := by decide +kernel
theorem dX5_put_4 : decode cX5_put 4 = .ok (.iload_n 1, 1) := by decide +kernel
theorem dX5_put_5 : decode cX5_put 5 = .ok (.aload_n 0, 1) := by decide +kernel
theorem dX5_put_6 : decode cX5_put 6 = .ok (.arraylength, 1) := by decide +kernel
theorem dX5_put_7 : decode cX5_put 7 = .ok (.if_icmp .ge 7, 3) := by decide +kernel
theorem dX5_put_10 : decode cX5_put 10 = .ok (.aload_n 0, 1) := by decide +kernel
theorem dX5_put_11 : decode cX5_put 11 = .ok (.iload_n 1, 1) := by decide +kernel
theorem dX5_put_12 : decode cX5_put 12 = .ok (.iload_n 2, 1) := by decide +kernel
theorem dX5_put_13 : decode cX5_put 13 = .ok (.iastore, 1) := by decide +kernel
theorem dX5_put_14 : decode cX5_put 14 = .ok (.return_, 1) := by decide +kernel
theorem dX5_reading_0 : decode cX5_reading 0 = .ok (.iload_n 2, 1) := by decide +kernel
theorem dX5_reading_1 : decode cX5_reading 1 = .ok (.bipush 100, 2) := by decide +kernel
theorem dX5_reading_3 : decode cX5_reading 3 = .ok (.idiv, 1) := by decide +kernel
theorem dX5_reading_4 : decode cX5_reading 4 = .ok (.istore_n 3, 1) := by decide +kernel
theorem dX5_reading_5 : decode cX5_reading 5 = .ok (.iload_n 2, 1) := by decide +kernel
theorem dX5_reading_6 : decode cX5_reading 6 = .ok (.bipush 10, 2) := by decide +kernel
theorem dX5_reading_8 : decode cX5_reading 8 = .ok (.idiv, 1) := by decide +kernel
theorem dX5_reading_9 : decode cX5_reading 9 = .ok (.bipush 10, 2) := by decide +kernel
theorem dX5_reading_11 : decode cX5_reading 11 = .ok (.irem, 1) := by decide +kernel
theorem dX5_reading_12 : decode cX5_reading 12 = .ok (.istore 4, 2) := by decide +kernel
theorem dX5_reading_14 : decode cX5_reading 14 = .ok (.iload_n 2, 1) := by decide +kernel
theorem dX5_reading_15 : decode cX5_reading 15 = .ok (.bipush 10, 2) := by decide +kernel
theorem dX5_reading_17 : decode cX5_reading 17 = .ok (.irem, 1) := by decide +kernel
theorem dX5_reading_18 : decode cX5_reading 18 = .ok (.istore 5, 2) := by decide +kernel
theorem dX5_reading_20 : decode cX5_reading 20 = .ok (.iload_n 0, 1) := by decide +kernel
theorem dX5_reading_21 : decode cX5_reading 21 = .ok (.iconst 1, 1) := by decide +kernel
theorem dX5_reading_22 : decode cX5_reading 22 = .ok (.if_icmp .ne 13, 3) := by decide +kernel
theorem dX5_reading_25 : decode cX5_reading 25 = .ok (.iload_n 1, 1) := by decide +kernel
theorem dX5_reading_26 : decode cX5_reading 26 = .ok (.iload 4, 2) := by decide +kernel
theorem dX5_reading_28 : decode cX5_reading 28 = .ok (.iload 5, 2) := by decide +kernel
theorem dX5_reading_30 : decode cX5_reading 30 = .ok (.iadd, 1) := by decide +kernel
theorem dX5_reading_31 : decode cX5_reading 31 = .ok (.imul, 1) := by decide +kernel
theorem dX5_reading_32 : decode cX5_reading 32 = .ok (.goto 14, 3) := by decide +kernel
theorem dX5_reading_35 : decode cX5_reading 35 = .ok (.iload_n 3, 1) := by decide +kernel
theorem dX5_reading_36 : decode cX5_reading 36 = .ok (.iload_n 1, 1) := by decide +kernel
theorem dX5_reading_37 : decode cX5_reading 37 = .ok (.iload 4, 2) := by decide +kernel
theorem dX5_reading_39 : decode cX5_reading 39 = .ok (.iconst 2, 1) := by decide +kernel
theorem dX5_reading_40 : decode cX5_reading 40 = .ok (.iload 5, 2) := by decide +kernel
theorem dX5_reading_42 : decode cX5_reading 42 = .ok (.imul, 1) := by decide +kernel
theorem dX5_reading_43 : decode cX5_reading 43 = .ok (.iadd, 1) := by decide +kernel
theorem dX5_reading_44 : decode cX5_reading 44 = .ok (.imul, 1) := by decide +kernel
theorem dX5_reading_45 : decode cX5_reading 45 = .ok (.iadd, 1) := by decide +kernel
theorem dX5_reading_46 : decode cX5_reading 46 = .ok (.ireturn, 1) := by decide +kernel
theorem dX5_restore_0 : decode cX5_restore 0 = .ok (.iload_n 1, 1) := by decide +kernel
theorem dX5_restore_1 : decode cX5_restore 1 = .ok (.iconst 0, 1) := by decide +kernel
theorem dX5_restore_2 : decode cX5_restore 2 = .ok (.iconst 1, 1) := by decide +kernel
theorem dX5_restore_3 : decode cX5_restore 3 = .ok (.invokestatic 74, 3) := by decide +kernel
theorem dX5_restore_6 : decode cX5_restore 6 = .ok (.ifCond .ne 6, 3) := by decide +kernel
theorem dX5_restore_9 : decode cX5_restore 9 = .ok (.bipush (-2), 2) := by decide +kernel
theorem dX5_restore_11 : decode cX5_restore 11 = .ok (.ireturn, 1) := by decide +kernel
theorem dX5_restore_12 : decode cX5_restore 12 = .ok (.iload_n 1, 1) := by decide +kernel
theorem dX5_restore_13 : decode cX5_restore 13 = .ok (.ifCond .ne 10, 3) := by decide +kernel
theorem dX5_restore_16 : decode cX5_restore 16 = .ok (.aload_n 0, 1) := by decide +kernel
theorem dX5_restore_17 : decode cX5_restore 17 = .ok (.getfield 40, 3) := by decide +kernel
theorem dX5_restore_20 : decode cX5_restore 20 = .ok (.goto 7, 3) := by decide +kernel
theorem dX5_restore_23 : decode cX5_restore 23 = .ok (.aload_n 0, 1) := by decide +kernel
theorem dX5_restore_24 : decode cX5_restore 24 = .ok (.getfield 44, 3) := by decide +kernel
theorem dX5_restore_27 : decode cX5_restore 27 = .ok (.astore_n 2, 1) := by decide +kernel
theorem dX5_restore_28 : decode cX5_restore 28 = .ok (.aload_n 2, 1) := by decide +kernel
theorem dX5_restore_29 : decode cX5_restore 29 = .ok (.getfield 255, 3) := by decide +kernel
theorem dX5_restore_32 : decode cX5_restore 32 = .ok (.ifCond .ne 6, 3) := by decide +kernel
theorem dX5_restore_35 : decode cX5_restore 35 = .ok (.bipush (-3), 2) := by decide +kernel
theorem dX5_restore_37 : decode cX5_restore 37 = .ok (.ireturn, 1) := by decide +kernel
theorem dX5_restore_38 : decode cX5_restore 38 = .ok (.aload_n 0, 1) := by decide +kernel
theorem dX5_restore_39 : decode cX5_restore 39 = .ok (.getfield 12, 3) := by decide +kernel
theorem dX5_restore_42 : decode cX5_restore 42 = .ok (.aload_n 2, 1) := by decide +kernel
theorem dX5_restore_43 : decode cX5_restore 43 = .ok (.getfield 250, 3) := by decide +kernel
theorem dX5_restore_46 : decode cX5_restore 46 = .ok (.invokevirtual 135, 3) := by decide +kernel
theorem dX5_restore_49 : decode cX5_restore 49 = .ok (.aload_n 0, 1) := by decide +kernel
theorem dX5_restore_50 : decode cX5_restore 50 = .ok (.getfield 19, 3) := by decide +kernel
theorem dX5_restore_53 : decode cX5_restore 53 = .ok (.aload_n 2, 1) := by decide +kernel
theorem dX5_restore_54 : decode cX5_restore 54 = .ok (.getfield 251, 3) := by decide +kernel
theorem dX5_restore_57 : decode cX5_restore 57 = .ok (.invokevirtual 252, 3) := by decide +kernel
theorem dX5_restore_60 : decode cX5_restore 60 = .ok (.iconst 1, 1) := by decide +kernel
theorem dX5_restore_61 : decode cX5_restore 61 = .ok (.ireturn, 1) := by decide +kernel
theorem dX5_road_0 : decode cX5_road 0 = .ok (.iload_n 1, 1) := by decide +kernel
theorem dX5_road_1 : decode cX5_road 1 = .ok (.iload_n 2, 1) := by decide +kernel
theorem dX5_road_2 : decode cX5_road 2 = .ok (.invokestatic 70, 3) := by decide +kernel
theorem dX5_road_5 : decode cX5_road 5 = .ok (.ifCond .ne 5, 3) := by decide +kernel
theorem dX5_road_8 : decode cX5_road 8 = .ok (.iconst (-1), 1) := by decide +kernel
theorem dX5_road_9 : decode cX5_road 9 = .ok (.ireturn, 1) := by decide +kernel
theorem dX5_road_10 : decode cX5_road 10 = .ok (.iload_n 3, 1) := by decide +kernel
theorem dX5_road_11 : decode cX5_road 11 = .ok (.iconst (-1), 1) := by decide +kernel
theorem dX5_road_12 : decode cX5_road 12 = .ok (.bipush 9, 2) := by decide +kernel
theorem dX5_road_14 : decode cX5_road 14 = .ok (.invokestatic 74, 3) := by decide +kernel
theorem dX5_road_17 : decode cX5_road 17 = .ok (.ifCond .ne 6, 3) := by decide +kernel
theorem dX5_road_20 : decode cX5_road 20 = .ok (.bipush (-2), 2) := by decide +kernel
theorem dX5_road_22 : decode cX5_road 22 = .ok (.ireturn, 1) := by decide +kernel
theorem dX5_road_23 : decode cX5_road 23 = .ok (.aload_n 0, 1) := by decide +kernel
theorem dX5_road_24 : decode cX5_road 24 = .ok (.getfield 12, 3) := by decide +kernel
theorem dX5_road_27 : decode cX5_road 27 = .ok (.iload_n 1, 1) := by decide +kernel
theorem dX5_road_28 : decode cX5_road 28 = .ok (.iload_n 2, 1) := by decide +kernel
theorem dX5_road_29 : decode cX5_road 29 = .ok (.iload_n 3, 1) := by decide +kernel
theorem dX5_road_30 : decode cX5_road 30 = .ok (.ifCond .ge 8, 3) := by decide +kernel
theorem dX5_road_33 : decode cX5_road 33 = .ok (.bipush (-6), 2) := by decide +kernel
theorem dX5_road_35 : decode cX5_road 35 = .ok (.goto 4, 3) := by decide +kernel
theorem dX5_road_38 : decode cX5_road 38 = .ok (.iload_n 3, 1) := by decide +kernel
theorem dX5_road_39 : decode cX5_road 39 = .ok (.invokevirtual 78, 3) := by decide +kernel
theorem dX5_road_42 : decode cX5_road 42 = .ok (.aload_n 0, 1) := by decide +kernel
theorem dX5_road_43 : decode cX5_road 43 = .ok (.getfield 12, 3) := by decide +kernel
theorem dX5_road_46 : decode cX5_road 46 = .ok (.invokevirtual 82, 3) := by decide +kernel
theorem dX5_road_49 : decode cX5_road 49 = .ok (.ireturn, 1) := by decide +kernel
theorem dX5_say_0 : decode cX5_say 0 = .ok (.iload_n 1, 1) := by decide +kernel
theorem dX5_say_1 : decode cX5_say 1 = .ok (.bipush 33, 2) := by decide +kernel
theorem dX5_say_3 : decode cX5_say 3 = .ok (.bipush 126, 2) := by decide +kernel
theorem dX5_say_5 : decode cX5_say 5 = .ok (.invokestatic 74, 3) := by decide +kernel
theorem dX5_say_8 : decode cX5_say 8 = .ok (.ifCond .ne 6, 3) := by decide +kernel
theorem dX5_say_11 : decode cX5_say 11 = .ok (.bipush (-2), 2) := by decide +kernel
theorem dX5_say_13 : decode cX5_say 13 = .ok (.ireturn, 1) := by decide +kernel
theorem dX5_say_14 : decode cX5_say 14 = .ok (.aload_n 0, 1) := by decide +kernel
theorem dX5_say_15 : decode cX5_say 15 = .ok (.getfield 26, 3) := by decide +kernel
theorem dX5_say_18 : decode cX5_say 18 = .ok (.getfield 106, 3) := by decide +kernel
theorem dX5_say_21 : decode cX5_say 21 = .ok (.bipush 60, 2) := by decide +kernel
theorem dX5_say_23 : decode cX5_say 23 = .ok (.if_icmp .lt 6, 3) := by decide +kernel
theorem dX5_say_26 : decode cX5_say 26 = .ok (.bipush (-4), 2) := by decide +kernel
theorem dX5_say_28 : decode cX5_say 28 = .ok (.ireturn, 1) := by decide +kernel
theorem dX5_say_29 : decode cX5_say 29 = .ok (.aload_n 0, 1) := by decide +kernel
theorem dX5_say_30 : decode cX5_say 30 = .ok (.getfield 26, 3) := by decide +kernel
theorem dX5_say_33 : decode cX5_say 33 = .ok (.iload_n 1, 1) := by decide +kernel
theorem dX5_say_34 : decode cX5_say 34 = .ok (.invokevirtual 110, 3) := by decide +kernel
theorem dX5_say_37 : decode cX5_say 37 = .ok (.aload_n 0, 1) := by decide +kernel
theorem dX5_say_38 : decode cX5_say 38 = .ok (.getfield 26, 3) := by decide +kernel
theorem dX5_say_41 : decode cX5_say 41 = .ok (.getfield 106, 3) := by decide +kernel
theorem dX5_say_44 : decode cX5_say 44 = .ok (.ireturn, 1) := by decide +kernel
theorem dX5_seen_0 : decode cX5_seen 0 = .ok (.iload_n 2, 1) := by decide +kernel
theorem dX5_seen_1 : decode cX5_seen 1 = .ok (.iconst 0, 1) := by decide +kernel
theorem dX5_seen_2 : decode cX5_seen 2 = .ok (.bipush 20, 2) := by decide +kernel
theorem dX5_seen_4 : decode cX5_seen 4 = .ok (.invokestatic 74, 3) := by decide +kernel
theorem dX5_seen_7 : decode cX5_seen 7 = .ok (.ifCond .eq 14, 3) := by decide +kernel
theorem dX5_seen_10 : decode cX5_seen 10 = .ok (.iload_n 3, 1) := by decide +kernel
theorem dX5_seen_11 : decode cX5_seen 11 = .ok (.iconst 0, 1) := by decide +kernel
theorem dX5_seen_12 : decode cX5_seen 12 = .ok (.sipush 9999, 3) := by decide +kernel
theorem dX5_seen_15 : decode cX5_seen 15 = .ok (.invokestatic 74, 3) := by decide +kernel
theorem dX5_seen_18 : decode cX5_seen 18 = .ok (.ifCond .ne 6, 3) := by decide +kernel
theorem dX5_seen_21 : decode cX5_seen 21 = .ok (.bipush (-2), 2) := by decide +kernel
theorem dX5_seen_23 : decode cX5_seen 23 = .ok (.ireturn, 1) := by decide +kernel
theorem dX5_seen_24 : decode cX5_seen 24 = .ok (.aload_n 0, 1) := by decide +kernel
theorem dX5_seen_25 : decode cX5_seen 25 = .ok (.getfield 19, 3) := by decide +kernel
theorem dX5_seen_28 : decode cX5_seen 28 = .ok (.getfield 222, 3) := by decide +kernel
theorem dX5_seen_31 : decode cX5_seen 31 = .ok (.bipush 8, 2) := by decide +kernel
theorem dX5_seen_33 : decode cX5_seen 33 = .ok (.if_icmp .lt 6, 3) := by decide +kernel
theorem dX5_seen_36 : decode cX5_seen 36 = .ok (.bipush (-4), 2) := by decide +kernel
theorem dX5_seen_38 : decode cX5_seen 38 = .ok (.ireturn, 1) := by decide +kernel
theorem dX5_seen_39 : decode cX5_seen 39 = .ok (.aload_n 0, 1) := by decide +kernel
theorem dX5_seen_40 : decode cX5_seen 40 = .ok (.getfield 19, 3) := by decide +kernel
theorem dX5_seen_43 : decode cX5_seen 43 = .ok (.iload_n 1, 1) := by decide +kernel
theorem dX5_seen_44 : decode cX5_seen 44 = .ok (.ifCond .eq 7, 3) := by decide +kernel
theorem dX5_seen_47 : decode cX5_seen 47 = .ok (.iconst 1, 1) := by decide +kernel
theorem dX5_seen_48 : decode cX5_seen 48 = .ok (.goto 4, 3) := by decide +kernel
theorem dX5_seen_51 : decode cX5_seen 51 = .ok (.iconst 0, 1) := by decide +kernel
theorem dX5_seen_52 : decode cX5_seen 52 = .ok (.iload_n 2, 1) := by decide +kernel
theorem dX5_seen_53 : decode cX5_seen 53 = .ok (.iload_n 3, 1) := by decide +kernel
theorem dX5_seen_54 : decode cX5_seen 54 = .ok (.invokevirtual 223, 3) := by decide +kernel
theorem dX5_seen_57 : decode cX5_seen 57 = .ok (.aload_n 0, 1) := by decide +kernel
theorem dX5_seen_58 : decode cX5_seen 58 = .ok (.getfield 19, 3) := by decide +kernel
theorem dX5_seen_61 : decode cX5_seen 61 = .ok (.getfield 222, 3) := by decide +kernel
theorem dX5_seen_64 : decode cX5_seen 64 = .ok (.ireturn, 1) := by decide +kernel
theorem dX5_strokes_0 : decode cX5_strokes 0 = .ok (.iconst 0, 1) := by decide +kernel
theorem dX5_strokes_1 : decode cX5_strokes 1 = .ok (.istore_n 1, 1) := by decide +kernel
theorem dX5_strokes_2 : decode cX5_strokes 2 = .ok (.iconst 0, 1) := by decide +kernel
theorem dX5_strokes_3 : decode cX5_strokes 3 = .ok (.istore_n 2, 1) := by decide +kernel
theorem dX5_strokes_4 : decode cX5_strokes 4 = .ok (.iconst 0, 1) := by decide +kernel
theorem dX5_strokes_5 : decode cX5_strokes 5 = .ok (.istore_n 3, 1) := by decide +kernel
theorem dX5_strokes_6 : decode cX5_strokes 6 = .ok (.iload_n 3, 1) := by decide +kernel
theorem dX5_strokes_7 : decode cX5_strokes 7 = .ok (.bipush 9, 2) := by decide +kernel
theorem dX5_strokes_9 : decode cX5_strokes 9 = .ok (.if_icmp .ge 42, 3) := by decide +kernel
theorem dX5_strokes_12 : decode cX5_strokes 12 = .ok (.iload_n 2, 1) := by decide +kernel
theorem dX5_strokes_13 : decode cX5_strokes 13 = .ok (.iload_n 3, 1) := by decide +kernel
theorem dX5_strokes_14 : decode cX5_strokes 14 = .ok (.invokestatic 180, 3) := by decide +kernel
theorem dX5_strokes_17 : decode cX5_strokes 17 = .ok (.ifCond .ne 28, 3) := by decide +kernel
theorem dX5_strokes_20 : decode cX5_strokes 20 = .ok (.aload_n 0, 1) := by decide +kernel
theorem dX5_strokes_21 : decode cX5_strokes 21 = .ok (.getfield 12, 3) := by decide +kernel
theorem dX5_strokes_24 : decode cX5_strokes 24 = .ok (.iload_n 3, 1) := by decide +kernel
theorem dX5_strokes_25 : decode cX5_strokes 25 = .ok (.iconst 0, 1) := by decide +kernel
theorem dX5_strokes_26 : decode cX5_strokes 26 = .ok (.invokevirtual 177, 3) := by decide +kernel
theorem dX5_strokes_29 : decode cX5_strokes 29 = .ok (.istore 4, 2) := by decide +kernel
theorem dX5_strokes_31 : decode cX5_strokes 31 = .ok (.iload_n 2, 1) := by decide +kernel
theorem dX5_strokes_32 : decode cX5_strokes 32 = .ok (.iload 4, 2) := by decide +kernel
theorem dX5_strokes_34 : decode cX5_strokes 34 = .ok (.ior, 1) := by decide +kernel
theorem dX5_strokes_35 : decode cX5_strokes 35 = .ok (.istore_n 2, 1) := by decide +kernel
theorem dX5_strokes_36 : decode cX5_strokes 36 = .ok (.iload_n 1, 1) := by decide +kernel
theorem dX5_strokes_37 : decode cX5_strokes 37 = .ok (.aload_n 0, 1) := by decide +kernel
theorem dX5_strokes_38 : decode cX5_strokes 38 = .ok (.iload 4, 2) := by decide +kernel
theorem dX5_strokes_40 : decode cX5_strokes 40 = .ok (.invokevirtual 186, 3) := by decide +kernel
theorem dX5_strokes_43 : decode cX5_strokes 43 = .ok (.iadd, 1) := by decide +kernel
theorem dX5_strokes_44 : decode cX5_strokes 44 = .ok (.istore_n 1, 1) := by decide +kernel
theorem dX5_strokes_45 : decode cX5_strokes 45 = .ok (.iinc 3 1, 3) := by decide +kernel
theorem dX5_strokes_48 : decode cX5_strokes 48 = .ok (.goto (-42), 3) := by decide +kernel
theorem dX5_strokes_51 : decode cX5_strokes 51 = .ok (.iload_n 1, 1) := by decide +kernel
theorem dX5_strokes_52 : decode cX5_strokes 52 = .ok (.ireturn, 1) := by decide +kernel
theorem dX5_tacks_0 : decode cX5_tacks 0 = .ok (.iload_n 1, 1) := by decide +kernel
theorem dX5_tacks_1 : decode cX5_tacks 1 = .ok (.iconst 0, 1) := by decide +kernel
theorem dX5_tacks_2 : decode cX5_tacks 2 = .ok (.bipush 99, 2) := by decide +kernel
theorem dX5_tacks_4 : decode cX5_tacks 4 = .ok (.invokestatic 74, 3) := by decide +kernel
theorem dX5_tacks_7 : decode cX5_tacks 7 = .ok (.ifCond .eq 23, 3) := by decide +kernel
theorem dX5_tacks_10 : decode cX5_tacks 10 = .ok (.iload_n 2, 1) := by decide +kernel
theorem dX5_tacks_11 : decode cX5_tacks 11 = .ok (.iconst 1, 1) := by decide +kernel
theorem dX5_tacks_12 : decode cX5_tacks 12 = .ok (.sipush 511, 3) := by decide +kernel
theorem dX5_tacks_15 : decode cX5_tacks 15 = .ok (.invokestatic 74, 3) := by decide +kernel
theorem dX5_tacks_18 : decode cX5_tacks 18 = .ok (.ifCond .eq 12, 3) := by decide +kernel
theorem dX5_tacks_21 : decode cX5_tacks 21 = .ok (.iload_n 3, 1) := by decide +kernel
theorem dX5_tacks_22 : decode cX5_tacks 22 = .ok (.iconst 0, 1) := by decide +kernel
theorem dX5_tacks_23 : decode cX5_tacks 23 = .ok (.iconst 1, 1) := by decide +kernel
theorem dX5_tacks_24 : decode cX5_tacks 24 = .ok (.invokestatic 74, 3) := by decide +kernel
theorem dX5_tacks_27 : decode cX5_tacks 27 = .ok (.ifCond .ne 6, 3) := by decide +kernel
theorem dX5_tacks_30 : decode cX5_tacks 30 = .ok (.bipush (-2), 2) := by decide +kernel
theorem dX5_tacks_32 : decode cX5_tacks 32 = .ok (.ireturn, 1) := by decide +kernel
theorem dX5_tacks_33 : decode cX5_tacks 33 = .ok (.iconst 0, 1) := by decide +kernel
theorem dX5_tacks_34 : decode cX5_tacks 34 = .ok (.istore 4, 2) := by decide +kernel
theorem dX5_tacks_36 : decode cX5_tacks 36 = .ok (.iload 4, 2) := by decide +kernel
theorem dX5_tacks_38 : decode cX5_tacks 38 = .ok (.iload_n 1, 1) := by decide +kernel
theorem dX5_tacks_39 : decode cX5_tacks 39 = .ok (.if_icmp .gt 25, 3) := by decide +kernel
theorem dX5_tacks_42 : decode cX5_tacks 42 = .ok (.aload_n 0, 1) := by decide +kernel
theorem dX5_tacks_43 : decode cX5_tacks 43 = .ok (.getfield 63, 3) := by decide +kernel
theorem dX5_tacks_46 : decode cX5_tacks 46 = .ok (.iload 4, 2) := by decide +kernel
theorem dX5_tacks_48 : decode cX5_tacks 48 = .ok (.aload_n 0, 1) := by decide +kernel
theorem dX5_tacks_49 : decode cX5_tacks 49 = .ok (.iload 4, 2) := by decide +kernel
theorem dX5_tacks_51 : decode cX5_tacks 51 = .ok (.iload_n 2, 1) := by decide +kernel
theorem dX5_tacks_52 : decode cX5_tacks 52 = .ok (.invokevirtual 231, 3) := by decide +kernel
theorem dX5_tacks_55 : decode cX5_tacks 55 = .ok (.invokestatic 234, 3) := by decide +kernel
theorem dX5_tacks_58 : decode cX5_tacks 58 = .ok (.iinc 4 1, 3) := by decide +kernel
theorem dX5_tacks_61 : decode cX5_tacks 61 = .ok (.goto (-25), 3) := by decide +kernel
theorem dX5_tacks_64 : decode cX5_tacks 64 = .ok (.aload_n 0, 1) := by decide +kernel
theorem dX5_tacks_65 : decode cX5_tacks 65 = .ok (.getfield 63, 3) := by decide +kernel
theorem dX5_tacks_68 : decode cX5_tacks 68 = .ok (.iload_n 1, 1) := by decide +kernel
theorem dX5_tacks_69 : decode cX5_tacks 69 = .ok (.invokestatic 199, 3) := by decide +kernel
theorem dX5_tacks_72 : decode cX5_tacks 72 = .ok (.istore 4, 2) := by decide +kernel
theorem dX5_tacks_74 : decode cX5_tacks 74 = .ok (.iload_n 3, 1) := by decide +kernel
theorem dX5_tacks_75 : decode cX5_tacks 75 = .ok (.ifCond .ne 16, 3) := by decide +kernel
theorem dX5_tacks_78 : decode cX5_tacks 78 = .ok (.iload 4, 2) := by decide +kernel
theorem dX5_tacks_80 : decode cX5_tacks 80 = .ok (.bipush (-6), 2) := by decide +kernel
theorem dX5_tacks_82 : decode cX5_tacks 82 = .ok (.if_icmp .ne 7, 3) := by decide +kernel
theorem dX5_tacks_85 : decode cX5_tacks 85 = .ok (.iconst 0, 1) := by decide +kernel
theorem dX5_tacks_86 : decode cX5_tacks 86 = .ok (.goto 4, 3) := by decide +kernel
theorem dX5_tacks_89 : decode cX5_tacks 89 = .ok (.iconst 1, 1) := by decide +kernel
theorem dX5_tacks_90 : decode cX5_tacks 90 = .ok (.ireturn, 1) := by decide +kernel
theorem dX5_tacks_91 : decode cX5_tacks 91 = .ok (.iload 4, 2) := by decide +kernel
theorem dX5_tacks_93 : decode cX5_tacks 93 = .ok (.ireturn, 1) := by decide +kernel
theorem dX5_then_0 : decode cX5_then 0 = .ok (.iload_n 1, 1) := by decide +kernel
theorem dX5_then_1 : decode cX5_then 1 = .ok (.iconst 0, 1) := by decide +kernel
theorem dX5_then_2 : decode cX5_then 2 = .ok (.iconst 5, 1) := by decide +kernel
theorem dX5_then_3 : decode cX5_then 3 = .ok (.invokestatic 74, 3) := by decide +kernel
theorem dX5_then_6 : decode cX5_then 6 = .ok (.ifCond .ne 6, 3) := by decide +kernel
theorem dX5_then_9 : decode cX5_then 9 = .ok (.bipush (-2), 2) := by decide +kernel
theorem dX5_then_11 : decode cX5_then 11 = .ok (.ireturn, 1) := by decide +kernel
theorem dX5_then_12 : decode cX5_then 12 = .ok (.aload_n 0, 1) := by decide +kernel
theorem dX5_then_13 : decode cX5_then 13 = .ok (.invokevirtual 130, 3) := by decide +kernel
theorem dX5_then_16 : decode cX5_then 16 = .ok (.ifCond .ne 6, 3) := by decide +kernel
theorem dX5_then_19 : decode cX5_then 19 = .ok (.bipush (-5), 2) := by decide +kernel
theorem dX5_then_21 : decode cX5_then 21 = .ok (.ireturn, 1) := by decide +kernel
theorem dX5_then_22 : decode cX5_then 22 = .ok (.iload_n 1, 1) := by decide +kernel
theorem dX5_then_23 : decode cX5_then 23 = .ok (.tableswitch 85 0 4 #[33, 44, 55, 66, 77], 33) := by decide +kernel
theorem dX5_then_56 : decode cX5_then 56 = .ok (.aload_n 0, 1) := by decide +kernel
theorem dX5_then_57 : decode cX5_then 57 = .ok (.getfield 33, 3) := by decide +kernel
theorem dX5_then_60 : decode cX5_then 60 = .ok (.getfield 134, 3) := by decide +kernel
theorem dX5_then_63 : decode cX5_then 63 = .ok (.invokevirtual 82, 3) := by decide +kernel
theorem dX5_then_66 : decode cX5_then 66 = .ok (.ireturn, 1) := by decide +kernel
theorem dX5_then_67 : decode cX5_then 67 = .ok (.aload_n 0, 1) := by decide +kernel
theorem dX5_then_68 : decode cX5_then 68 = .ok (.getfield 33, 3) := by decide +kernel
theorem dX5_then_71 : decode cX5_then 71 = .ok (.getfield 134, 3) := by decide +kernel
theorem dX5_then_74 : decode cX5_then 74 = .ok (.invokevirtual 155, 3) := by decide +kernel
theorem dX5_then_77 : decode cX5_then 77 = .ok (.ireturn, 1) := by decide +kernel
theorem dX5_then_78 : decode cX5_then 78 = .ok (.aload_n 0, 1) := by decide +kernel
theorem dX5_then_79 : decode cX5_then 79 = .ok (.getfield 33, 3) := by decide +kernel
theorem dX5_then_82 : decode cX5_then 82 = .ok (.getfield 134, 3) := by decide +kernel
theorem dX5_then_85 : decode cX5_then 85 = .ok (.invokevirtual 158, 3) := by decide +kernel
theorem dX5_then_88 : decode cX5_then 88 = .ok (.ireturn, 1) := by decide +kernel
theorem dX5_then_89 : decode cX5_then 89 = .ok (.aload_n 0, 1) := by decide +kernel
theorem dX5_then_90 : decode cX5_then 90 = .ok (.getfield 33, 3) := by decide +kernel
theorem dX5_then_93 : decode cX5_then 93 = .ok (.getfield 134, 3) := by decide +kernel
theorem dX5_then_96 : decode cX5_then 96 = .ok (.getfield 161, 3) := by decide +kernel
theorem dX5_then_99 : decode cX5_then 99 = .ok (.ireturn, 1) := by decide +kernel
theorem dX5_then_100 : decode cX5_then 100 = .ok (.aload_n 0, 1) := by decide +kernel
theorem dX5_then_101 : decode cX5_then 101 = .ok (.getfield 33, 3) := by decide +kernel
theorem dX5_then_104 : decode cX5_then 104 = .ok (.getfield 164, 3) := by decide +kernel
theorem dX5_then_107 : decode cX5_then 107 = .ok (.ireturn, 1) := by decide +kernel
theorem dX5_then_108 : decode cX5_then 108 = .ok (.aload_n 0, 1) := by decide +kernel
theorem dX5_then_109 : decode cX5_then 109 = .ok (.getfield 33, 3) := by decide +kernel
theorem dX5_then_112 : decode cX5_then 112 = .ok (.getfield 134, 3) := by decide +kernel
theorem dX5_then_115 : decode cX5_then 115 = .ok (.getfield 167, 3) := by decide +kernel
theorem dX5_then_118 : decode cX5_then 118 = .ok (.ireturn, 1) := by decide +kernel
theorem dX5_told_0 : decode cX5_told 0 = .ok (.iload_n 1, 1) := by decide +kernel
theorem dX5_told_1 : decode cX5_told 1 = .ok (.ifCond .ne 11, 3) := by decide +kernel
theorem dX5_told_4 : decode cX5_told 4 = .ok (.aload_n 0, 1) := by decide +kernel
theorem dX5_told_5 : decode cX5_told 5 = .ok (.getfield 26, 3) := by decide +kernel
theorem dX5_told_8 : decode cX5_told 8 = .ok (.getfield 106, 3) := by decide +kernel
theorem dX5_told_11 : decode cX5_told 11 = .ok (.ireturn, 1) := by decide +kernel
theorem dX5_told_12 : decode cX5_told 12 = .ok (.iload_n 1, 1) := by decide +kernel
theorem dX5_told_13 : decode cX5_told 13 = .ok (.iconst 1, 1) := by decide +kernel
theorem dX5_told_14 : decode cX5_told 14 = .ok (.if_icmp .ne 11, 3) := by decide +kernel
theorem dX5_told_17 : decode cX5_told 17 = .ok (.aload_n 0, 1) := by decide +kernel
theorem dX5_told_18 : decode cX5_told 18 = .ok (.getfield 12, 3) := by decide +kernel
theorem dX5_told_21 : decode cX5_told 21 = .ok (.invokevirtual 97, 3) := by decide +kernel
theorem dX5_told_24 : decode cX5_told 24 = .ok (.ireturn, 1) := by decide +kernel
theorem dX5_told_25 : decode cX5_told 25 = .ok (.iload_n 1, 1) := by decide +kernel
theorem dX5_told_26 : decode cX5_told 26 = .ok (.iconst 2, 1) := by decide +kernel
theorem dX5_told_27 : decode cX5_told 27 = .ok (.if_icmp .ne 11, 3) := by decide +kernel
theorem dX5_told_30 : decode cX5_told 30 = .ok (.aload_n 0, 1) := by decide +kernel
theorem dX5_told_31 : decode cX5_told 31 = .ok (.getfield 12, 3) := by decide +kernel
theorem dX5_told_34 : decode cX5_told 34 = .ok (.getfield 161, 3) := by decide +kernel
theorem dX5_told_37 : decode cX5_told 37 = .ok (.ireturn, 1) := by decide +kernel
theorem dX5_told_38 : decode cX5_told 38 = .ok (.iload_n 1, 1) := by decide +kernel
theorem dX5_told_39 : decode cX5_told 39 = .ok (.iconst 3, 1) := by decide +kernel
theorem dX5_told_40 : decode cX5_told 40 = .ok (.if_icmp .ne 11, 3) := by decide +kernel
theorem dX5_told_43 : decode cX5_told 43 = .ok (.aload_n 0, 1) := by decide +kernel
theorem dX5_told_44 : decode cX5_told 44 = .ok (.getfield 19, 3) := by decide +kernel
theorem dX5_told_47 : decode cX5_told 47 = .ok (.getfield 222, 3) := by decide +kernel
theorem dX5_told_50 : decode cX5_told 50 = .ok (.ireturn, 1) := by decide +kernel
theorem dX5_told_51 : decode cX5_told 51 = .ok (.iload_n 1, 1) := by decide +kernel
theorem dX5_told_52 : decode cX5_told 52 = .ok (.bipush 10, 2) := by decide +kernel
theorem dX5_told_54 : decode cX5_told 54 = .ok (.bipush 19, 2) := by decide +kernel
theorem dX5_told_56 : decode cX5_told 56 = .ok (.invokestatic 74, 3) := by decide +kernel
theorem dX5_told_59 : decode cX5_told 59 = .ok (.ifCond .eq 34, 3) := by decide +kernel
theorem dX5_told_62 : decode cX5_told 62 = .ok (.aload_n 0, 1) := by decide +kernel
theorem dX5_told_63 : decode cX5_told 63 = .ok (.getfield 12, 3) := by decide +kernel
theorem dX5_told_66 : decode cX5_told 66 = .ok (.iload_n 1, 1) := by decide +kernel
theorem dX5_told_67 : decode cX5_told 67 = .ok (.bipush 10, 2) := by decide +kernel
theorem dX5_told_69 : decode cX5_told 69 = .ok (.isub, 1) := by decide +kernel
theorem dX5_told_70 : decode cX5_told 70 = .ok (.invokevirtual 146, 3) := by decide +kernel
theorem dX5_told_73 : decode cX5_told 73 = .ok (.ifCond .eq 17, 3) := by decide +kernel
theorem dX5_told_76 : decode cX5_told 76 = .ok (.aload_n 0, 1) := by decide +kernel
theorem dX5_told_77 : decode cX5_told 77 = .ok (.getfield 12, 3) := by decide +kernel
theorem dX5_told_80 : decode cX5_told 80 = .ok (.iload_n 1, 1) := by decide +kernel
theorem dX5_told_81 : decode cX5_told 81 = .ok (.bipush 10, 2) := by decide +kernel
theorem dX5_told_83 : decode cX5_told 83 = .ok (.isub, 1) := by decide +kernel
theorem dX5_told_84 : decode cX5_told 84 = .ok (.invokevirtual 149, 3) := by decide +kernel
theorem dX5_told_87 : decode cX5_told 87 = .ok (.goto 5, 3) := by decide +kernel
theorem dX5_told_90 : decode cX5_told 90 = .ok (.bipush (-2), 2) := by decide +kernel
theorem dX5_told_92 : decode cX5_told 92 = .ok (.ireturn, 1) := by decide +kernel
theorem dX5_told_93 : decode cX5_told 93 = .ok (.iload_n 1, 1) := by decide +kernel
theorem dX5_told_94 : decode cX5_told 94 = .ok (.bipush 20, 2) := by decide +kernel
theorem dX5_told_96 : decode cX5_told 96 = .ok (.bipush 29, 2) := by decide +kernel
theorem dX5_told_98 : decode cX5_told 98 = .ok (.invokestatic 74, 3) := by decide +kernel
theorem dX5_told_101 : decode cX5_told 101 = .ok (.ifCond .eq 34, 3) := by decide +kernel
theorem dX5_told_104 : decode cX5_told 104 = .ok (.aload_n 0, 1) := by decide +kernel
theorem dX5_told_105 : decode cX5_told 105 = .ok (.getfield 12, 3) := by decide +kernel
theorem dX5_told_108 : decode cX5_told 108 = .ok (.iload_n 1, 1) := by decide +kernel
theorem dX5_told_109 : decode cX5_told 109 = .ok (.bipush 20, 2) := by decide +kernel
theorem dX5_told_111 : decode cX5_told 111 = .ok (.isub, 1) := by decide +kernel
theorem dX5_told_112 : decode cX5_told 112 = .ok (.invokevirtual 146, 3) := by decide +kernel
theorem dX5_told_115 : decode cX5_told 115 = .ok (.ifCond .eq 17, 3) := by decide +kernel
theorem dX5_told_118 : decode cX5_told 118 = .ok (.aload_n 0, 1) := by decide +kernel
theorem dX5_told_119 : decode cX5_told 119 = .ok (.getfield 12, 3) := by decide +kernel
theorem dX5_told_122 : decode cX5_told 122 = .ok (.iload_n 1, 1) := by decide +kernel
theorem dX5_told_123 : decode cX5_told 123 = .ok (.bipush 20, 2) := by decide +kernel
theorem dX5_told_125 : decode cX5_told 125 = .ok (.isub, 1) := by decide +kernel
theorem dX5_told_126 : decode cX5_told 126 = .ok (.invokevirtual 152, 3) := by decide +kernel
theorem dX5_told_129 : decode cX5_told 129 = .ok (.goto 5, 3) := by decide +kernel
theorem dX5_told_132 : decode cX5_told 132 = .ok (.bipush (-2), 2) := by decide +kernel
theorem dX5_told_134 : decode cX5_told 134 = .ok (.ireturn, 1) := by decide +kernel
theorem dX5_told_135 : decode cX5_told 135 = .ok (.iload_n 1, 1) := by decide +kernel
theorem dX5_told_136 : decode cX5_told 136 = .ok (.bipush 30, 2) := by decide +kernel
theorem dX5_told_138 : decode cX5_told 138 = .ok (.bipush 39, 2) := by decide +kernel
theorem dX5_told_140 : decode cX5_told 140 = .ok (.invokestatic 74, 3) := by decide +kernel
theorem dX5_told_143 : decode cX5_told 143 = .ok (.ifCond .eq 30, 3) := by decide +kernel
theorem dX5_told_146 : decode cX5_told 146 = .ok (.iload_n 1, 1) := by decide +kernel
theorem dX5_told_147 : decode cX5_told 147 = .ok (.bipush 30, 2) := by decide +kernel
theorem dX5_told_149 : decode cX5_told 149 = .ok (.isub, 1) := by decide +kernel
theorem dX5_told_150 : decode cX5_told 150 = .ok (.invokestatic 90, 3) := by decide +kernel
theorem dX5_told_153 : decode cX5_told 153 = .ok (.ifCond .eq 17, 3) := by decide +kernel
theorem dX5_told_156 : decode cX5_told 156 = .ok (.aload_n 0, 1) := by decide +kernel
theorem dX5_told_157 : decode cX5_told 157 = .ok (.getfield 12, 3) := by decide +kernel
theorem dX5_told_160 : decode cX5_told 160 = .ok (.iload_n 1, 1) := by decide +kernel
theorem dX5_told_161 : decode cX5_told 161 = .ok (.bipush 30, 2) := by decide +kernel
theorem dX5_told_163 : decode cX5_told 163 = .ok (.isub, 1) := by decide +kernel
theorem dX5_told_164 : decode cX5_told 164 = .ok (.invokevirtual 259, 3) := by decide +kernel
theorem dX5_told_167 : decode cX5_told 167 = .ok (.goto 5, 3) := by decide +kernel
theorem dX5_told_170 : decode cX5_told 170 = .ok (.bipush (-2), 2) := by decide +kernel
theorem dX5_told_172 : decode cX5_told 172 = .ok (.ireturn, 1) := by decide +kernel
theorem dX5_told_173 : decode cX5_told 173 = .ok (.iload_n 1, 1) := by decide +kernel
theorem dX5_told_174 : decode cX5_told 174 = .ok (.bipush 100, 2) := by decide +kernel
theorem dX5_told_176 : decode cX5_told 176 = .ok (.sipush 199, 3) := by decide +kernel
theorem dX5_told_179 : decode cX5_told 179 = .ok (.invokestatic 74, 3) := by decide +kernel
theorem dX5_told_182 : decode cX5_told 182 = .ok (.ifCond .ne 6, 3) := by decide +kernel
theorem dX5_told_185 : decode cX5_told 185 = .ok (.bipush (-2), 2) := by decide +kernel
theorem dX5_told_187 : decode cX5_told 187 = .ok (.ireturn, 1) := by decide +kernel
theorem dX5_told_188 : decode cX5_told 188 = .ok (.iload_n 1, 1) := by decide +kernel
theorem dX5_told_189 : decode cX5_told 189 = .ok (.bipush 100, 2) := by decide +kernel
theorem dX5_told_191 : decode cX5_told 191 = .ok (.isub, 1) := by decide +kernel
theorem dX5_told_192 : decode cX5_told 192 = .ok (.bipush 10, 2) := by decide +kernel
theorem dX5_told_194 : decode cX5_told 194 = .ok (.idiv, 1) := by decide +kernel
theorem dX5_told_195 : decode cX5_told 195 = .ok (.istore_n 2, 1) := by decide +kernel
theorem dX5_told_196 : decode cX5_told 196 = .ok (.iload_n 1, 1) := by decide +kernel
theorem dX5_told_197 : decode cX5_told 197 = .ok (.bipush 100, 2) := by decide +kernel
theorem dX5_told_199 : decode cX5_told 199 = .ok (.isub, 1) := by decide +kernel
theorem dX5_told_200 : decode cX5_told 200 = .ok (.bipush 10, 2) := by decide +kernel
theorem dX5_told_202 : decode cX5_told 202 = .ok (.irem, 1) := by decide +kernel
theorem dX5_told_203 : decode cX5_told 203 = .ok (.istore_n 3, 1) := by decide +kernel
theorem dX5_told_204 : decode cX5_told 204 = .ok (.iload_n 2, 1) := by decide +kernel
theorem dX5_told_205 : decode cX5_told 205 = .ok (.invokestatic 90, 3) := by decide +kernel
theorem dX5_told_208 : decode cX5_told 208 = .ok (.ifCond .eq 22, 3) := by decide +kernel
theorem dX5_told_211 : decode cX5_told 211 = .ok (.iload_n 3, 1) := by decide +kernel
theorem dX5_told_212 : decode cX5_told 212 = .ok (.invokestatic 90, 3) := by decide +kernel
theorem dX5_told_215 : decode cX5_told 215 = .ok (.ifCond .eq 15, 3) := by decide +kernel
theorem dX5_told_218 : decode cX5_told 218 = .ok (.aload_n 0, 1) := by decide +kernel
theorem dX5_told_219 : decode cX5_told 219 = .ok (.getfield 12, 3) := by decide +kernel
theorem dX5_told_222 : decode cX5_told 222 = .ok (.iload_n 2, 1) := by decide +kernel
theorem dX5_told_223 : decode cX5_told 223 = .ok (.iload_n 3, 1) := by decide +kernel
theorem dX5_told_224 : decode cX5_told 224 = .ok (.invokevirtual 142, 3) := by decide +kernel
theorem dX5_told_227 : decode cX5_told 227 = .ok (.goto 5, 3) := by decide +kernel
theorem dX5_told_230 : decode cX5_told 230 = .ok (.bipush (-2), 2) := by decide +kernel
theorem dX5_told_232 : decode cX5_told 232 = .ok (.ireturn, 1) := by decide +kernel
theorem dX5_walker_0 : decode cX5_walker 0 = .ok (.iload_n 1, 1) := by decide +kernel
theorem dX5_walker_1 : decode cX5_walker 1 = .ok (.invokestatic 86, 3) := by decide +kernel
theorem dX5_walker_4 : decode cX5_walker 4 = .ok (.ifCond .eq 10, 3) := by decide +kernel
theorem dX5_walker_7 : decode cX5_walker 7 = .ok (.iload_n 2, 1) := by decide +kernel
theorem dX5_walker_8 : decode cX5_walker 8 = .ok (.invokestatic 90, 3) := by decide +kernel
theorem dX5_walker_11 : decode cX5_walker 11 = .ok (.ifCond .ne 5, 3) := by decide +kernel
theorem dX5_walker_14 : decode cX5_walker 14 = .ok (.iconst (-1), 1) := by decide +kernel
theorem dX5_walker_15 : decode cX5_walker 15 = .ok (.ireturn, 1) := by decide +kernel
theorem dX5_walker_16 : decode cX5_walker 16 = .ok (.aload_n 0, 1) := by decide +kernel
theorem dX5_walker_17 : decode cX5_walker 17 = .ok (.getfield 12, 3) := by decide +kernel
theorem dX5_walker_20 : decode cX5_walker 20 = .ok (.iload_n 1, 1) := by decide +kernel
theorem dX5_walker_21 : decode cX5_walker 21 = .ok (.iload_n 2, 1) := by decide +kernel
theorem dX5_walker_22 : decode cX5_walker 22 = .ok (.iload_n 3, 1) := by decide +kernel
theorem dX5_walker_23 : decode cX5_walker 23 = .ok (.invokevirtual 93, 3) := by decide +kernel
theorem dX5_walker_26 : decode cX5_walker 26 = .ok (.aload_n 0, 1) := by decide +kernel
theorem dX5_walker_27 : decode cX5_walker 27 = .ok (.getfield 12, 3) := by decide +kernel
theorem dX5_walker_30 : decode cX5_walker 30 = .ok (.invokevirtual 97, 3) := by decide +kernel
theorem dX5_walker_33 : decode cX5_walker 33 = .ok (.invokestatic 100, 3) := by decide +kernel
theorem dX5_walker_36 : decode cX5_walker 36 = .ok (.ireturn, 1) := by decide +kernel
theorem dX5_walksWithin_0 : decode cX5_walksWithin 0 = .ok (.iconst 0, 1) := by decide +kernel
theorem dX5_walksWithin_1 : decode cX5_walksWithin 1 = .ok (.istore_n 2, 1) := by decide +kernel
theorem dX5_walksWithin_2 : decode cX5_walksWithin 2 = .ok (.iconst 0, 1) := by decide +kernel
theorem dX5_walksWithin_3 : decode cX5_walksWithin 3 = .ok (.istore_n 3, 1) := by decide +kernel
theorem dX5_walksWithin_4 : decode cX5_walksWithin 4 = .ok (.iconst 0, 1) := by decide +kernel
theorem dX5_walksWithin_5 : decode cX5_walksWithin 5 = .ok (.istore 4, 2) := by decide +kernel
theorem dX5_walksWithin_7 : decode cX5_walksWithin 7 = .ok (.iload 4, 2) := by decide +kernel
theorem dX5_walksWithin_9 : decode cX5_walksWithin 9 = .ok (.bipush 9, 2) := by decide +kernel
theorem dX5_walksWithin_11 : decode cX5_walksWithin 11 = .ok (.if_icmp .ge 44, 3) := by decide +kernel
theorem dX5_walksWithin_14 : decode cX5_walksWithin 14 = .ok (.iload_n 1, 1) := by decide +kernel
theorem dX5_walksWithin_15 : decode cX5_walksWithin 15 = .ok (.iload 4, 2) := by decide +kernel
theorem dX5_walksWithin_17 : decode cX5_walksWithin 17 = .ok (.invokestatic 180, 3) := by decide +kernel
theorem dX5_walksWithin_20 : decode cX5_walksWithin 20 = .ok (.ifCond .eq 29, 3) := by decide +kernel
theorem dX5_walksWithin_23 : decode cX5_walksWithin 23 = .ok (.aload_n 0, 1) := by decide +kernel
theorem dX5_walksWithin_24 : decode cX5_walksWithin 24 = .ok (.getfield 12, 3) := by decide +kernel
theorem dX5_walksWithin_27 : decode cX5_walksWithin 27 = .ok (.iload 4, 2) := by decide +kernel
theorem dX5_walksWithin_29 : decode cX5_walksWithin 29 = .ok (.invokevirtual 259, 3) := by decide +kernel
theorem dX5_walksWithin_32 : decode cX5_walksWithin 32 = .ok (.invokestatic 100, 3) := by decide +kernel
theorem dX5_walksWithin_35 : decode cX5_walksWithin 35 = .ok (.istore 5, 2) := by decide +kernel
theorem dX5_walksWithin_37 : decode cX5_walksWithin 37 = .ok (.iload_n 2, 1) := by decide +kernel
theorem dX5_walksWithin_38 : decode cX5_walksWithin 38 = .ok (.iload 5, 2) := by decide +kernel
theorem dX5_walksWithin_40 : decode cX5_walksWithin 40 = .ok (.iadd, 1) := by decide +kernel
theorem dX5_walksWithin_41 : decode cX5_walksWithin 41 = .ok (.istore_n 2, 1) := by decide +kernel
theorem dX5_walksWithin_42 : decode cX5_walksWithin 42 = .ok (.iload_n 3, 1) := by decide +kernel
theorem dX5_walksWithin_43 : decode cX5_walksWithin 43 = .ok (.iload 5, 2) := by decide +kernel
theorem dX5_walksWithin_45 : decode cX5_walksWithin 45 = .ok (.iconst 2, 1) := by decide +kernel
theorem dX5_walksWithin_46 : decode cX5_walksWithin 46 = .ok (.irem, 1) := by decide +kernel
theorem dX5_walksWithin_47 : decode cX5_walksWithin 47 = .ok (.iadd, 1) := by decide +kernel
theorem dX5_walksWithin_48 : decode cX5_walksWithin 48 = .ok (.istore_n 3, 1) := by decide +kernel
theorem dX5_walksWithin_49 : decode cX5_walksWithin 49 = .ok (.iinc 4 1, 3) := by decide +kernel
theorem dX5_walksWithin_52 : decode cX5_walksWithin 52 = .ok (.goto (-45), 3) := by decide +kernel
theorem dX5_walksWithin_55 : decode cX5_walksWithin 55 = .ok (.iload_n 2, 1) := by decide +kernel
theorem dX5_walksWithin_56 : decode cX5_walksWithin 56 = .ok (.ifCond .ne 5, 3) := by decide +kernel
theorem dX5_walksWithin_59 : decode cX5_walksWithin 59 = .ok (.iconst 0, 1) := by decide +kernel
theorem dX5_walksWithin_60 : decode cX5_walksWithin 60 = .ok (.ireturn, 1) := by decide +kernel
theorem dX5_walksWithin_61 : decode cX5_walksWithin 61 = .ok (.iconst 1, 1) := by decide +kernel
theorem dX5_walksWithin_62 : decode cX5_walksWithin 62 = .ok (.iload_n 3, 1) := by decide +kernel
theorem dX5_walksWithin_63 : decode cX5_walksWithin 63 = .ok (.iconst 2, 1) := by decide +kernel
theorem dX5_walksWithin_64 : decode cX5_walksWithin 64 = .ok (.idiv, 1) := by decide +kernel
theorem dX5_walksWithin_65 : decode cX5_walksWithin 65 = .ok (.invokestatic 272, 3) := by decide +kernel
theorem dX5_walksWithin_68 : decode cX5_walksWithin 68 = .ok (.ireturn, 1) := by decide +kernel
theorem dX5_way_0 : decode cX5_way 0 = .ok (.iload_n 1, 1) := by decide +kernel
theorem dX5_way_1 : decode cX5_way 1 = .ok (.invokestatic 90, 3) := by decide +kernel
theorem dX5_way_4 : decode cX5_way 4 = .ok (.ifCond .eq 10, 3) := by decide +kernel
theorem dX5_way_7 : decode cX5_way 7 = .ok (.iload_n 2, 1) := by decide +kernel
theorem dX5_way_8 : decode cX5_way 8 = .ok (.invokestatic 90, 3) := by decide +kernel
theorem dX5_way_11 : decode cX5_way 11 = .ok (.ifCond .ne 5, 3) := by decide +kernel
theorem dX5_way_14 : decode cX5_way 14 = .ok (.iconst (-1), 1) := by decide +kernel
theorem dX5_way_15 : decode cX5_way 15 = .ok (.ireturn, 1) := by decide +kernel
theorem dX5_way_16 : decode cX5_way 16 = .ok (.iload_n 3, 1) := by decide +kernel
theorem dX5_way_17 : decode cX5_way 17 = .ok (.iconst 0, 1) := by decide +kernel
theorem dX5_way_18 : decode cX5_way 18 = .ok (.iconst 1, 1) := by decide +kernel
theorem dX5_way_19 : decode cX5_way 19 = .ok (.invokestatic 74, 3) := by decide +kernel
theorem dX5_way_22 : decode cX5_way 22 = .ok (.ifCond .ne 6, 3) := by decide +kernel
theorem dX5_way_25 : decode cX5_way 25 = .ok (.bipush (-2), 2) := by decide +kernel
theorem dX5_way_27 : decode cX5_way 27 = .ok (.ireturn, 1) := by decide +kernel
theorem dX5_way_28 : decode cX5_way 28 = .ok (.aload_n 0, 1) := by decide +kernel
theorem dX5_way_29 : decode cX5_way 29 = .ok (.iload_n 1, 1) := by decide +kernel
theorem dX5_way_30 : decode cX5_way 30 = .ok (.iload_n 2, 1) := by decide +kernel
theorem dX5_way_31 : decode cX5_way 31 = .ok (.iload_n 3, 1) := by decide +kernel
theorem dX5_way_32 : decode cX5_way 32 = .ok (.iconst 1, 1) := by decide +kernel
theorem dX5_way_33 : decode cX5_way 33 = .ok (.if_icmp .ne 7, 3) := by decide +kernel
theorem dX5_way_36 : decode cX5_way 36 = .ok (.iconst 1, 1) := by decide +kernel
theorem dX5_way_37 : decode cX5_way 37 = .ok (.goto 4, 3) := by decide +kernel
theorem dX5_way_40 : decode cX5_way 40 = .ok (.iconst 0, 1) := by decide +kernel
theorem dX5_way_41 : decode cX5_way 41 = .ok (.invokevirtual 170, 3) := by decide +kernel
theorem dX5_way_44 : decode cX5_way 44 = .ok (.ireturn, 1) := by decide +kernel
theorem dX5_wet_0 : decode cX5_wet 0 = .ok (.iload_n 1, 1) := by decide +kernel
theorem dX5_wet_1 : decode cX5_wet 1 = .ok (.iconst 0, 1) := by decide +kernel
theorem dX5_wet_2 : decode cX5_wet 2 = .ok (.bipush 16, 2) := by decide +kernel
theorem dX5_wet_4 : decode cX5_wet 4 = .ok (.invokestatic 74, 3) := by decide +kernel
theorem dX5_wet_7 : decode cX5_wet 7 = .ok (.ifCond .eq 23, 3) := by decide +kernel
theorem dX5_wet_10 : decode cX5_wet 10 = .ok (.iload_n 2, 1) := by decide +kernel
theorem dX5_wet_11 : decode cX5_wet 11 = .ok (.iconst 0, 1) := by decide +kernel
theorem dX5_wet_12 : decode cX5_wet 12 = .ok (.bipush 10, 2) := by decide +kernel
theorem dX5_wet_14 : decode cX5_wet 14 = .ok (.invokestatic 74, 3) := by decide +kernel
theorem dX5_wet_17 : decode cX5_wet 17 = .ok (.ifCond .eq 13, 3) := by decide +kernel
theorem dX5_wet_20 : decode cX5_wet 20 = .ok (.iload_n 3, 1) := by decide +kernel
theorem dX5_wet_21 : decode cX5_wet 21 = .ok (.iconst 0, 1) := by decide +kernel
theorem dX5_wet_22 : decode cX5_wet 22 = .ok (.bipush 40, 2) := by decide +kernel
theorem dX5_wet_24 : decode cX5_wet 24 = .ok (.invokestatic 74, 3) := by decide +kernel
theorem dX5_wet_27 : decode cX5_wet 27 = .ok (.ifCond .ne 7, 3) := by decide +kernel
theorem dX5_wet_30 : decode cX5_wet 30 = .ok (.ldc2_w 207, 3) := by decide +kernel
theorem dX5_wet_33 : decode cX5_wet 33 = .ok (.lreturn, 1) := by decide +kernel
theorem dX5_wet_34 : decode cX5_wet 34 = .ok (.iload 4, 2) := by decide +kernel
theorem dX5_wet_36 : decode cX5_wet 36 = .ok (.iconst 0, 1) := by decide +kernel
theorem dX5_wet_37 : decode cX5_wet 37 = .ok (.iconst 1, 1) := by decide +kernel
theorem dX5_wet_38 : decode cX5_wet 38 = .ok (.invokestatic 74, 3) := by decide +kernel
theorem dX5_wet_41 : decode cX5_wet 41 = .ok (.ifCond .eq 13, 3) := by decide +kernel
theorem dX5_wet_44 : decode cX5_wet 44 = .ok (.iload 5, 2) := by decide +kernel
theorem dX5_wet_46 : decode cX5_wet 46 = .ok (.iconst 0, 1) := by decide +kernel
theorem dX5_wet_47 : decode cX5_wet 47 = .ok (.iconst 1, 1) := by decide +kernel
theorem dX5_wet_48 : decode cX5_wet 48 = .ok (.invokestatic 74, 3) := by decide +kernel
theorem dX5_wet_51 : decode cX5_wet 51 = .ok (.ifCond .ne 7, 3) := by decide +kernel
theorem dX5_wet_54 : decode cX5_wet 54 = .ok (.ldc2_w 207, 3) := by decide +kernel
theorem dX5_wet_57 : decode cX5_wet 57 = .ok (.lreturn, 1) := by decide +kernel
theorem dX5_wet_58 : decode cX5_wet 58 = .ok (.iload 4, 2) := by decide +kernel
theorem dX5_wet_60 : decode cX5_wet 60 = .ok (.iconst 1, 1) := by decide +kernel
theorem dX5_wet_61 : decode cX5_wet 61 = .ok (.if_icmp .ne 19, 3) := by decide +kernel
theorem dX5_wet_64 : decode cX5_wet 64 = .ok (.iload_n 1, 1) := by decide +kernel
theorem dX5_wet_65 : decode cX5_wet 65 = .ok (.bipush 10, 2) := by decide +kernel
theorem dX5_wet_67 : decode cX5_wet 67 = .ok (.iload_n 2, 1) := by decide +kernel
theorem dX5_wet_68 : decode cX5_wet 68 = .ok (.iadd, 1) := by decide +kernel
theorem dX5_wet_69 : decode cX5_wet 69 = .ok (.imul, 1) := by decide +kernel
theorem dX5_wet_70 : decode cX5_wet 70 = .ok (.i2l, 1) := by decide +kernel
theorem dX5_wet_71 : decode cX5_wet 71 = .ok (.ldc2_w 238, 3) := by decide +kernel
theorem dX5_wet_74 : decode cX5_wet 74 = .ok (.iload 5, 2) := by decide +kernel
theorem dX5_wet_76 : decode cX5_wet 76 = .ok (.invokestatic 218, 3) := by decide +kernel
theorem dX5_wet_79 : decode cX5_wet 79 = .ok (.lreturn, 1) := by decide +kernel
theorem dX5_wet_80 : decode cX5_wet 80 = .ok (.aload_n 0, 1) := by decide +kernel
theorem dX5_wet_81 : decode cX5_wet 81 = .ok (.iload_n 1, 1) := by decide +kernel
theorem dX5_wet_82 : decode cX5_wet 82 = .ok (.iload_n 2, 1) := by decide +kernel
theorem dX5_wet_83 : decode cX5_wet 83 = .ok (.invokevirtual 240, 3) := by decide +kernel
theorem dX5_wet_86 : decode cX5_wet 86 = .ok (.lconst 0, 1) := by decide +kernel
theorem dX5_wet_87 : decode cX5_wet 87 = .ok (.lstore 6, 2) := by decide +kernel
theorem dX5_wet_89 : decode cX5_wet 89 = .ok (.iconst 0, 1) := by decide +kernel
theorem dX5_wet_90 : decode cX5_wet 90 = .ok (.istore 8, 2) := by decide +kernel
theorem dX5_wet_92 : decode cX5_wet 92 = .ok (.iload 8, 2) := by decide +kernel
theorem dX5_wet_94 : decode cX5_wet 94 = .ok (.iload_n 1, 1) := by decide +kernel
theorem dX5_wet_95 : decode cX5_wet 95 = .ok (.if_icmp .gt 39, 3) := by decide +kernel
theorem dX5_wet_98 : decode cX5_wet 98 = .ok (.iload 8, 2) := by decide +kernel
theorem dX5_wet_100 : decode cX5_wet 100 = .ok (.aload_n 0, 1) := by decide +kernel
theorem dX5_wet_101 : decode cX5_wet 101 = .ok (.getfield 66, 3) := by decide +kernel
theorem dX5_wet_104 : decode cX5_wet 104 = .ok (.arraylength, 1) := by decide +kernel
theorem dX5_wet_105 : decode cX5_wet 105 = .ok (.if_icmp .ge 29, 3) := by decide +kernel
theorem dX5_wet_108 : decode cX5_wet 108 = .ok (.iload_n 1, 1) := by decide +kernel
theorem dX5_wet_109 : decode cX5_wet 109 = .ok (.iload 8, 2) := by decide +kernel
theorem dX5_wet_111 : decode cX5_wet 111 = .ok (.iadd, 1) := by decide +kernel
theorem dX5_wet_112 : decode cX5_wet 112 = .ok (.iload_n 3, 1) := by decide +kernel
theorem dX5_wet_113 : decode cX5_wet 113 = .ok (.if_icmp .lt 15, 3) := by decide +kernel
theorem dX5_wet_116 : decode cX5_wet 116 = .ok (.lload 6, 2) := by decide +kernel
theorem dX5_wet_118 : decode cX5_wet 118 = .ok (.aload_n 0, 1) := by decide +kernel
theorem dX5_wet_119 : decode cX5_wet 119 = .ok (.getfield 66, 3) := by decide +kernel
theorem dX5_wet_122 : decode cX5_wet 122 = .ok (.iload 8, 2) := by decide +kernel
theorem dX5_wet_124 : decode cX5_wet 124 = .ok (.laload, 1) := by decide +kernel
theorem dX5_wet_125 : decode cX5_wet 125 = .ok (.ladd, 1) := by decide +kernel
theorem dX5_wet_126 : decode cX5_wet 126 = .ok (.lstore 6, 2) := by decide +kernel
theorem dX5_wet_128 : decode cX5_wet 128 = .ok (.iinc 8 1, 3) := by decide +kernel
theorem dX5_wet_131 : decode cX5_wet 131 = .ok (.goto (-39), 3) := by decide +kernel
theorem dX5_wet_134 : decode cX5_wet 134 = .ok (.lload 6, 2) := by decide +kernel
theorem dX5_wet_136 : decode cX5_wet 136 = .ok (.iload_n 1, 1) := by decide +kernel
theorem dX5_wet_137 : decode cX5_wet 137 = .ok (.invokestatic 203, 3) := by decide +kernel
theorem dX5_wet_140 : decode cX5_wet 140 = .ok (.iload 5, 2) := by decide +kernel
theorem dX5_wet_142 : decode cX5_wet 142 = .ok (.invokestatic 218, 3) := by decide +kernel
theorem dX5_wet_145 : decode cX5_wet 145 = .ok (.lreturn, 1) := by decide +kernel
theorem dX5_who_0 : decode cX5_who 0 = .ok (.iload_n 1, 1) := by decide +kernel
theorem dX5_who_1 : decode cX5_who 1 = .ok (.iconst (-1), 1) := by decide +kernel
theorem dX5_who_2 : decode cX5_who 2 = .ok (.if_icmp .ge 6, 3) := by decide +kernel
theorem dX5_who_5 : decode cX5_who 5 = .ok (.bipush (-6), 2) := by decide +kernel
theorem dX5_who_7 : decode cX5_who 7 = .ok (.ireturn, 1) := by decide +kernel
theorem dX5_who_8 : decode cX5_who 8 = .ok (.aload_n 0, 1) := by decide +kernel
theorem dX5_who_9 : decode cX5_who 9 = .ok (.invokevirtual 225, 3) := by decide +kernel
theorem dX5_who_12 : decode cX5_who 12 = .ok (.istore_n 2, 1) := by decide +kernel
theorem dX5_who_13 : decode cX5_who 13 = .ok (.iload_n 1, 1) := by decide +kernel
theorem dX5_who_14 : decode cX5_who 14 = .ok (.iconst (-1), 1) := by decide +kernel
theorem dX5_who_15 : decode cX5_who 15 = .ok (.if_icmp .ne 5, 3) := by decide +kernel
theorem dX5_who_18 : decode cX5_who 18 = .ok (.iload_n 2, 1) := by decide +kernel
theorem dX5_who_19 : decode cX5_who 19 = .ok (.ireturn, 1) := by decide +kernel
theorem dX5_who_20 : decode cX5_who 20 = .ok (.iload_n 1, 1) := by decide +kernel
theorem dX5_who_21 : decode cX5_who 21 = .ok (.iload_n 2, 1) := by decide +kernel
theorem dX5_who_22 : decode cX5_who 22 = .ok (.if_icmp .ge 14, 3) := by decide +kernel
theorem dX5_who_25 : decode cX5_who 25 = .ok (.aload_n 0, 1) := by decide +kernel
theorem dX5_who_26 : decode cX5_who 26 = .ok (.getfield 57, 3) := by decide +kernel
theorem dX5_who_29 : decode cX5_who 29 = .ok (.iload_n 1, 1) := by decide +kernel
theorem dX5_who_30 : decode cX5_who 30 = .ok (.invokestatic 199, 3) := by decide +kernel
theorem dX5_who_33 : decode cX5_who 33 = .ok (.goto 5, 3) := by decide +kernel
theorem dX5_who_36 : decode cX5_who 36 = .ok (.bipush (-6), 2) := by decide +kernel
theorem dX5_who_38 : decode cX5_who 38 = .ok (.ireturn, 1) := by decide +kernel
theorem dX5_winningTake_0 : decode cX5_winningTake 0 = .ok (.iconst 1, 1) := by decide +kernel
theorem dX5_winningTake_1 : decode cX5_winningTake 1 = .ok (.istore_n 3, 1) := by decide +kernel
theorem dX5_winningTake_2 : decode cX5_winningTake 2 = .ok (.iload_n 3, 1) := by decide +kernel
theorem dX5_winningTake_3 : decode cX5_winningTake 3 = .ok (.bipush 9, 2) := by decide +kernel
theorem dX5_winningTake_5 : decode cX5_winningTake 5 = .ok (.if_icmp .gt 41, 3) := by decide +kernel
theorem dX5_winningTake_8 : decode cX5_winningTake 8 = .ok (.iload_n 3, 1) := by decide +kernel
theorem dX5_winningTake_9 : decode cX5_winningTake 9 = .ok (.iload_n 1, 1) := by decide +kernel
theorem dX5_winningTake_10 : decode cX5_winningTake 10 = .ok (.if_icmp .gt 36, 3) := by decide +kernel
theorem dX5_winningTake_13 : decode cX5_winningTake 13 = .ok (.iload_n 2, 1) := by decide +kernel
theorem dX5_winningTake_14 : decode cX5_winningTake 14 = .ok (.iload_n 3, 1) := by decide +kernel
theorem dX5_winningTake_15 : decode cX5_winningTake 15 = .ok (.iconst 1, 1) := by decide +kernel
theorem dX5_winningTake_16 : decode cX5_winningTake 16 = .ok (.isub, 1) := by decide +kernel
theorem dX5_winningTake_17 : decode cX5_winningTake 17 = .ok (.invokestatic 180, 3) := by decide +kernel
theorem dX5_winningTake_20 : decode cX5_winningTake 20 = .ok (.ifCond .eq 20, 3) := by decide +kernel
theorem dX5_winningTake_23 : decode cX5_winningTake 23 = .ok (.aload_n 0, 1) := by decide +kernel
theorem dX5_winningTake_24 : decode cX5_winningTake 24 = .ok (.getfield 63, 3) := by decide +kernel
theorem dX5_winningTake_27 : decode cX5_winningTake 27 = .ok (.iload_n 1, 1) := by decide +kernel
theorem dX5_winningTake_28 : decode cX5_winningTake 28 = .ok (.iload_n 3, 1) := by decide +kernel
theorem dX5_winningTake_29 : decode cX5_winningTake 29 = .ok (.isub, 1) := by decide +kernel
theorem dX5_winningTake_30 : decode cX5_winningTake 30 = .ok (.invokestatic 199, 3) := by decide +kernel
theorem dX5_winningTake_33 : decode cX5_winningTake 33 = .ok (.bipush (-6), 2) := by decide +kernel
theorem dX5_winningTake_35 : decode cX5_winningTake 35 = .ok (.if_icmp .ne 5, 3) := by decide +kernel
theorem dX5_winningTake_38 : decode cX5_winningTake 38 = .ok (.iload_n 3, 1) := by decide +kernel
theorem dX5_winningTake_39 : decode cX5_winningTake 39 = .ok (.ireturn, 1) := by decide +kernel
theorem dX5_winningTake_40 : decode cX5_winningTake 40 = .ok (.iinc 3 1, 3) := by decide +kernel
theorem dX5_winningTake_43 : decode cX5_winningTake 43 = .ok (.goto (-41), 3) := by decide +kernel
theorem dX5_winningTake_46 : decode cX5_winningTake 46 = .ok (.bipush (-6), 2) := by decide +kernel
theorem dX5_winningTake_48 : decode cX5_winningTake 48 = .ok (.ireturn, 1) := by decide +kernel
theorem dX5_wipe_0 : decode cX5_wipe 0 = .ok (.aload_n 0, 1) := by decide +kernel
theorem dX5_wipe_1 : decode cX5_wipe 1 = .ok (.getfield 26, 3) := by decide +kernel
theorem dX5_wipe_4 : decode cX5_wipe 4 = .ok (.getfield 106, 3) := by decide +kernel
theorem dX5_wipe_7 : decode cX5_wipe 7 = .ok (.istore_n 1, 1) := by decide +kernel
theorem dX5_wipe_8 : decode cX5_wipe 8 = .ok (.aload_n 0, 1) := by decide +kernel
theorem dX5_wipe_9 : decode cX5_wipe 9 = .ok (.getfield 26, 3) := by decide +kernel
theorem dX5_wipe_12 : decode cX5_wipe 12 = .ok (.invokevirtual 114, 3) := by decide +kernel
theorem dX5_wipe_15 : decode cX5_wipe 15 = .ok (.iload_n 1, 1) := by decide +kernel
theorem dX5_wipe_16 : decode cX5_wipe 16 = .ok (.ireturn, 1) := by decide +kernel
theorem dX5_within_0 : decode cX5_within 0 = .ok (.iload_n 0, 1) := by decide +kernel
theorem dX5_within_1 : decode cX5_within 1 = .ok (.iload_n 1, 1) := by decide +kernel
theorem dX5_within_2 : decode cX5_within 2 = .ok (.if_icmp .lt 12, 3) := by decide +kernel
theorem dX5_within_5 : decode cX5_within 5 = .ok (.iload_n 0, 1) := by decide +kernel
theorem dX5_within_6 : decode cX5_within 6 = .ok (.iload_n 2, 1) := by decide +kernel
theorem dX5_within_7 : decode cX5_within 7 = .ok (.if_icmp .gt 7, 3) := by decide +kernel
theorem dX5_within_10 : decode cX5_within 10 = .ok (.iconst 1, 1) := by decide +kernel
theorem dX5_within_11 : decode cX5_within 11 = .ok (.goto 4, 3) := by decide +kernel
theorem dX5_within_14 : decode cX5_within 14 = .ok (.iconst 0, 1) := by decide +kernel
theorem dX5_within_15 : decode cX5_within 15 = .ok (.ireturn, 1) := by decide +kernel
theorem dX5_year_0 : decode cX5_year 0 = .ok (.iload_n 1, 1) := by decide +kernel
theorem dX5_year_1 : decode cX5_year 1 = .ok (.iconst 0, 1) := by decide +kernel
theorem dX5_year_2 : decode cX5_year 2 = .ok (.sipush 9999, 3) := by decide +kernel
theorem dX5_year_5 : decode cX5_year 5 = .ok (.invokestatic 74, 3) := by decide +kernel
theorem dX5_year_8 : decode cX5_year 8 = .ok (.ifCond .eq 22, 3) := by decide +kernel
theorem dX5_year_11 : decode cX5_year 11 = .ok (.iload_n 2, 1) := by decide +kernel
theorem dX5_year_12 : decode cX5_year 12 = .ok (.iconst 1, 1) := by decide +kernel
theorem dX5_year_13 : decode cX5_year 13 = .ok (.bipush 99, 2) := by decide +kernel
theorem dX5_year_15 : decode cX5_year 15 = .ok (.invokestatic 74, 3) := by decide +kernel
theorem dX5_year_18 : decode cX5_year 18 = .ok (.ifCond .eq 12, 3) := by decide +kernel
theorem dX5_year_21 : decode cX5_year 21 = .ok (.iload_n 3, 1) := by decide +kernel
theorem dX5_year_22 : decode cX5_year 22 = .ok (.iconst 0, 1) := by decide +kernel
theorem dX5_year_23 : decode cX5_year 23 = .ok (.iconst 2, 1) := by decide +kernel
theorem dX5_year_24 : decode cX5_year 24 = .ok (.invokestatic 74, 3) := by decide +kernel
theorem dX5_year_27 : decode cX5_year 27 = .ok (.ifCond .ne 6, 3) := by decide +kernel
theorem dX5_year_30 : decode cX5_year 30 = .ok (.bipush (-2), 2) := by decide +kernel
theorem dX5_year_32 : decode cX5_year 32 = .ok (.ireturn, 1) := by decide +kernel
theorem dX5_year_33 : decode cX5_year 33 = .ok (.aload_n 0, 1) := by decide +kernel
theorem dX5_year_34 : decode cX5_year 34 = .ok (.getfield 33, 3) := by decide +kernel
theorem dX5_year_37 : decode cX5_year 37 = .ok (.iload_n 1, 1) := by decide +kernel
theorem dX5_year_38 : decode cX5_year 38 = .ok (.iload_n 2, 1) := by decide +kernel
theorem dX5_year_39 : decode cX5_year 39 = .ok (.aload_n 0, 1) := by decide +kernel
theorem dX5_year_40 : decode cX5_year 40 = .ok (.getfield 12, 3) := by decide +kernel
theorem dX5_year_43 : decode cX5_year 43 = .ok (.invokevirtual 243, 3) := by decide +kernel
theorem dX5_year_46 : decode cX5_year 46 = .ok (.iload_n 3, 1) := by decide +kernel
theorem dX5_year_47 : decode cX5_year 47 = .ok (.lookupswitch 50 #[(0, 25), (1, 36)], 25) := by decide +kernel
theorem dX5_year_72 : decode cX5_year 72 = .ok (.aload_n 0, 1) := by decide +kernel
theorem dX5_year_73 : decode cX5_year 73 = .ok (.getfield 33, 3) := by decide +kernel
theorem dX5_year_76 : decode cX5_year 76 = .ok (.getfield 134, 3) := by decide +kernel
theorem dX5_year_79 : decode cX5_year 79 = .ok (.invokevirtual 155, 3) := by decide +kernel
theorem dX5_year_82 : decode cX5_year 82 = .ok (.ireturn, 1) := by decide +kernel
theorem dX5_year_83 : decode cX5_year 83 = .ok (.aload_n 0, 1) := by decide +kernel
theorem dX5_year_84 : decode cX5_year 84 = .ok (.getfield 33, 3) := by decide +kernel
theorem dX5_year_87 : decode cX5_year 87 = .ok (.getfield 134, 3) := by decide +kernel
theorem dX5_year_90 : decode cX5_year 90 = .ok (.invokevirtual 158, 3) := by decide +kernel
theorem dX5_year_93 : decode cX5_year 93 = .ok (.invokestatic 100, 3) := by decide +kernel
theorem dX5_year_96 : decode cX5_year 96 = .ok (.ireturn, 1) := by decide +kernel
theorem dX5_year_97 : decode cX5_year 97 = .ok (.aload_n 0, 1) := by decide +kernel
theorem dX5_year_98 : decode cX5_year 98 = .ok (.getfield 33, 3) := by decide +kernel
theorem dX5_year_101 : decode cX5_year 101 = .ok (.getfield 134, 3) := by decide +kernel
theorem dX5_year_104 : decode cX5_year 104 = .ok (.invokevirtual 247, 3) := by decide +kernel
theorem dX5_year_107 : decode cX5_year 107 = .ok (.ireturn, 1) := by decide +kernel
theorem dX6_asNow_0 : decode cX6_asNow 0 = .ok (.iconst 0, 1) := by decide +kernel
theorem dX6_asNow_1 : decode cX6_asNow 1 = .ok (.istore_n 1, 1) := by decide +kernel
theorem dX6_asNow_2 : decode cX6_asNow 2 = .ok (.iload_n 1, 1) := by decide +kernel
theorem dX6_asNow_3 : decode cX6_asNow 3 = .ok (.bipush 89, 2) := by decide +kernel
theorem dX6_asNow_5 : decode cX6_asNow 5 = .ok (.if_icmp .ge 21, 3) := by decide +kernel
theorem dX6_asNow_8 : decode cX6_asNow 8 = .ok (.aload_n 0, 1) := by decide +kernel
theorem dX6_asNow_9 : decode cX6_asNow 9 = .ok (.getfield 13, 3) := by decide +kernel
theorem dX6_asNow_12 : decode cX6_asNow 12 = .ok (.iload_n 1, 1) := by decide +kernel
theorem dX6_asNow_13 : decode cX6_asNow 13 = .ok (.aload_n 0, 1) := by decide +kernel
theorem dX6_asNow_14 : decode cX6_asNow 14 = .ok (.getfield 7, 3) := by decide +kernel
theorem dX6_asNow_17 : decode cX6_asNow 17 = .ok (.iload_n 1, 1) := by decide +kernel
theorem dX6_asNow_18 : decode cX6_asNow 18 = .ok (.iaload, 1) := by decide +kernel
theorem dX6_asNow_19 : decode cX6_asNow 19 = .ok (.iastore, 1) := by decide +kernel
theorem dX6_asNow_20 : decode cX6_asNow 20 = .ok (.iinc 1 1, 3) := by decide +kernel
theorem dX6_asNow_23 : decode cX6_asNow 23 = .ok (.goto (-21), 3) := by decide +kernel
theorem dX6_asNow_26 : decode cX6_asNow 26 = .ok (.aload_n 0, 1) := by decide +kernel
theorem dX6_asNow_27 : decode cX6_asNow 27 = .ok (.bipush (-6), 2) := by decide +kernel
theorem dX6_asNow_29 : decode cX6_asNow 29 = .ok (.putfield 84, 3) := by decide +kernel
theorem dX6_asNow_32 : decode cX6_asNow 32 = .ok (.aload_n 0, 1) := by decide +kernel
theorem dX6_asNow_33 : decode cX6_asNow 33 = .ok (.bipush (-6), 2) := by decide +kernel
theorem dX6_asNow_35 : decode cX6_asNow 35 = .ok (.putfield 87, 3) := by decide +kernel
theorem dX6_asNow_38 : decode cX6_asNow 38 = .ok (.return_, 1) := by decide +kernel
theorem dX6_ask_0 : decode cX6_ask 0 = .ok (.iload_n 1, 1) := by decide +kernel
theorem dX6_ask_1 : decode cX6_ask 1 = .ok (.iconst 0, 1) := by decide +kernel
theorem dX6_ask_2 : decode cX6_ask 2 = .ok (.iconst 1, 1) := by decide +kernel
theorem dX6_ask_3 : decode cX6_ask 3 = .ok (.invokestatic 51, 3) := by decide +kernel
theorem dX6_ask_6 : decode cX6_ask 6 = .ok (.ifCond .ne 6, 3) := by decide +kernel
theorem dX6_ask_9 : decode cX6_ask 9 = .ok (.bipush (-2), 2) := by decide +kernel
theorem dX6_ask_11 : decode cX6_ask 11 = .ok (.ireturn, 1) := by decide +kernel
theorem dX6_ask_12 : decode cX6_ask 12 = .ok (.iconst 0, 1) := by decide +kernel
theorem dX6_ask_13 : decode cX6_ask 13 = .ok (.istore_n 2, 1) := by decide +kernel
theorem dX6_ask_14 : decode cX6_ask 14 = .ok (.iconst 0, 1) := by decide +kernel
theorem dX6_ask_15 : decode cX6_ask 15 = .ok (.istore_n 3, 1) := by decide +kernel
theorem dX6_ask_16 : decode cX6_ask 16 = .ok (.iload_n 3, 1) := by decide +kernel
theorem dX6_ask_17 : decode cX6_ask 17 = .ok (.sipush 1000, 3) := by decide +kernel
theorem dX6_ask_20 : decode cX6_ask 20 = .ok (.if_icmp .ge 27, 3) := by decide +kernel
theorem dX6_ask_23 : decode cX6_ask 23 = .ok (.aload_n 0, 1) := by decide +kernel
theorem dX6_ask_24 : decode cX6_ask 24 = .ok (.iload_n 3, 1) := by decide +kernel
theorem dX6_ask_25 : decode cX6_ask 25 = .ok (.invokevirtual 160, 3) := by decide +kernel
theorem dX6_ask_28 : decode cX6_ask 28 = .ok (.ifCond .eq 13, 3) := by decide +kernel
theorem dX6_ask_31 : decode cX6_ask 31 = .ok (.aload_n 0, 1) := by decide +kernel
theorem dX6_ask_32 : decode cX6_ask 32 = .ok (.getfield 34, 3) := by decide +kernel
theorem dX6_ask_35 : decode cX6_ask 35 = .ok (.iload_n 2, 1) := by decide +kernel
theorem dX6_ask_36 : decode cX6_ask 36 = .ok (.iload_n 3, 1) := by decide +kernel
theorem dX6_ask_37 : decode cX6_ask 37 = .ok (.iastore, 1) := by decide +kernel
theorem dX6_ask_38 : decode cX6_ask 38 = .ok (.iinc 2 1, 3) := by decide +kernel
theorem dX6_ask_41 : decode cX6_ask 41 = .ok (.iinc 3 1, 3) := by decide +kernel
theorem dX6_ask_44 : decode cX6_ask 44 = .ok (.goto (-28), 3) := by decide +kernel
theorem dX6_ask_47 : decode cX6_ask 47 = .ok (.bipush (-6), 2) := by decide +kernel
theorem dX6_ask_49 : decode cX6_ask 49 = .ok (.istore_n 3, 1) := by decide +kernel
theorem dX6_ask_50 : decode cX6_ask 50 = .ok (.ldc 141, 2) := by decide +kernel
theorem dX6_ask_52 : decode cX6_ask 52 = .ok (.istore 4, 2) := by decide +kernel
theorem dX6_ask_54 : decode cX6_ask 54 = .ok (.iconst 0, 1) := by decide +kernel
theorem dX6_ask_55 : decode cX6_ask 55 = .ok (.istore 5, 2) := by decide +kernel
theorem dX6_ask_57 : decode cX6_ask 57 = .ok (.iload 5, 2) := by decide +kernel
theorem dX6_ask_59 : decode cX6_ask 59 = .ok (.bipush 42, 2) := by decide +kernel
theorem dX6_ask_61 : decode cX6_ask 61 = .ok (.if_icmp .ge 153, 3) := by decide +kernel
theorem dX6_ask_64 : decode cX6_ask 64 = .ok (.iload_n 2, 1) := by decide +kernel
theorem dX6_ask_65 : decode cX6_ask 65 = .ok (.ifCond .le 149, 3) := by decide +kernel
theorem dX6_ask_68 : decode cX6_ask 68 = .ok (.iconst 0, 1) := by decide +kernel
theorem dX6_ask_69 : decode cX6_ask 69 = .ok (.istore 6, 2) := by decide +kernel
theorem dX6_ask_71 : decode cX6_ask 71 = .ok (.iconst 0, 1) := by decide +kernel
theorem dX6_ask_72 : decode cX6_ask 72 = .ok (.istore 7, 2) := by decide +kernel
theorem dX6_ask_74 : decode cX6_ask 74 = .ok (.iload 7, 2) := by decide +kernel
theorem dX6_ask_76 : decode cX6_ask 76 = .ok (.sipush 600, 3) := by decide +kernel
theorem dX6_ask_79 : decode cX6_ask 79 = .ok (.if_icmp .ge 17, 3) := by decide +kernel
theorem dX6_ask_82 : decode cX6_ask 82 = .ok (.aload_n 0, 1) := by decide +kernel
theorem dX6_ask_83 : decode cX6_ask 83 = .ok (.getfield 31, 3) := by decide +kernel
theorem dX6_ask_86 : decode cX6_ask 86 = .ok (.iload 7, 2) := by decide +kernel
theorem dX6_ask_88 : decode cX6_ask 88 = .ok (.iconst 0, 1) := by decide +kernel
theorem dX6_ask_89 : decode cX6_ask 89 = .ok (.iastore, 1) := by decide +kernel
theorem dX6_ask_90 : decode cX6_ask 90 = .ok (.iinc 7 1, 3) := by decide +kernel
theorem dX6_ask_93 : decode cX6_ask 93 = .ok (.goto (-19), 3) := by decide +kernel
theorem dX6_ask_96 : decode cX6_ask 96 = .ok (.iconst 0, 1) := by decide +kernel
theorem dX6_ask_97 : decode cX6_ask 97 = .ok (.istore 7, 2) := by decide +kernel
theorem dX6_ask_99 : decode cX6_ask 99 = .ok (.iload 7, 2) := by decide +kernel
theorem dX6_ask_101 : decode cX6_ask 101 = .ok (.iload_n 2, 1) := by decide +kernel
theorem dX6_ask_102 : decode cX6_ask 102 = .ok (.if_icmp .ge 66, 3) := by decide +kernel
theorem dX6_ask_105 : decode cX6_ask 105 = .ok (.aload_n 0, 1) := by decide +kernel
theorem dX6_ask_106 : decode cX6_ask 106 = .ok (.getfield 34, 3) := by decide +kernel
theorem dX6_ask_109 : decode cX6_ask 109 = .ok (.iload 7, 2) := by decide +kernel
theorem dX6_ask_111 : decode cX6_ask 111 = .ok (.iaload, 1) := by decide +kernel
theorem dX6_ask_112 : decode cX6_ask 112 = .ok (.iload 5, 2) := by decide +kernel
theorem dX6_ask_114 : decode cX6_ask 114 = .ok (.iconst 2, 1) := by decide +kernel
theorem dX6_ask_115 : decode cX6_ask 115 = .ok (.irem, 1) := by decide +kernel
theorem dX6_ask_116 : decode cX6_ask 116 = .ok (.iload 5, 2) := by decide +kernel
theorem dX6_ask_118 : decode cX6_ask 118 = .ok (.iconst 2, 1) := by decide +kernel
theorem dX6_ask_119 : decode cX6_ask 119 = .ok (.idiv, 1) := by decide +kernel
theorem dX6_ask_120 : decode cX6_ask 120 = .ok (.invokestatic 156, 3) := by decide +kernel
theorem dX6_ask_123 : decode cX6_ask 123 = .ok (.istore 8, 2) := by decide +kernel
theorem dX6_ask_125 : decode cX6_ask 125 = .ok (.aload_n 0, 1) := by decide +kernel
theorem dX6_ask_126 : decode cX6_ask 126 = .ok (.getfield 31, 3) := by decide +kernel
theorem dX6_ask_129 : decode cX6_ask 129 = .ok (.iload 8, 2) := by decide +kernel
theorem dX6_ask_131 : decode cX6_ask 131 = .ok (.dup2, 1) := by decide +kernel
theorem dX6_ask_132 : decode cX6_ask 132 = .ok (.iaload, 1) := by decide +kernel
theorem dX6_ask_133 : decode cX6_ask 133 = .ok (.iconst 1, 1) := by decide +kernel
theorem dX6_ask_134 : decode cX6_ask 134 = .ok (.iadd, 1) := by decide +kernel
theorem dX6_ask_135 : decode cX6_ask 135 = .ok (.iastore, 1) := by decide +kernel
theorem dX6_ask_136 : decode cX6_ask 136 = .ok (.aload_n 0, 1) := by decide +kernel
theorem dX6_ask_137 : decode cX6_ask 137 = .ok (.getfield 31, 3) := by decide +kernel
theorem dX6_ask_140 : decode cX6_ask 140 = .ok (.iload 8, 2) := by decide +kernel
theorem dX6_ask_142 : decode cX6_ask 142 = .ok (.iaload, 1) := by decide +kernel
theorem dX6_ask_143 : decode cX6_ask 143 = .ok (.iload 6, 2) := by decide +kernel
theorem dX6_ask_145 : decode cX6_ask 145 = .ok (.if_icmp .le 13, 3) := by decide +kernel
theorem dX6_ask_148 : decode cX6_ask 148 = .ok (.aload_n 0, 1) := by decide +kernel
theorem dX6_ask_149 : decode cX6_ask 149 = .ok (.getfield 31, 3) := by decide +kernel
theorem dX6_ask_152 : decode cX6_ask 152 = .ok (.iload 8, 2) := by decide +kernel
theorem dX6_ask_154 : decode cX6_ask 154 = .ok (.iaload, 1) := by decide +kernel
theorem dX6_ask_155 : decode cX6_ask 155 = .ok (.goto 5, 3) := by decide +kernel
theorem dX6_ask_158 : decode cX6_ask 158 = .ok (.iload 6, 2) := by decide +kernel
theorem dX6_ask_160 : decode cX6_ask 160 = .ok (.istore 6, 2) := by decide +kernel
theorem dX6_ask_162 : decode cX6_ask 162 = .ok (.iinc 7 1, 3) := by decide +kernel
theorem dX6_ask_165 : decode cX6_ask 165 = .ok (.goto (-66), 3) := by decide +kernel
theorem dX6_ask_168 : decode cX6_ask 168 = .ok (.iload 6, 2) := by decide +kernel
theorem dX6_ask_170 : decode cX6_ask 170 = .ok (.iload 4, 2) := by decide +kernel
theorem dX6_ask_172 : decode cX6_ask 172 = .ok (.if_icmp .ge 18, 3) := by decide +kernel
theorem dX6_ask_175 : decode cX6_ask 175 = .ok (.iload 5, 2) := by decide +kernel
theorem dX6_ask_177 : decode cX6_ask 177 = .ok (.iconst 2, 1) := by decide +kernel
theorem dX6_ask_178 : decode cX6_ask 178 = .ok (.idiv, 1) := by decide +kernel
theorem dX6_ask_179 : decode cX6_ask 179 = .ok (.bipush 10, 2) := by decide +kernel
theorem dX6_ask_181 : decode cX6_ask 181 = .ok (.imul, 1) := by decide +kernel
theorem dX6_ask_182 : decode cX6_ask 182 = .ok (.iload 5, 2) := by decide +kernel
theorem dX6_ask_184 : decode cX6_ask 184 = .ok (.iconst 2, 1) := by decide +kernel
theorem dX6_ask_185 : decode cX6_ask 185 = .ok (.irem, 1) := by decide +kernel
theorem dX6_ask_186 : decode cX6_ask 186 = .ok (.iadd, 1) := by decide +kernel
theorem dX6_ask_187 : decode cX6_ask 187 = .ok (.goto 4, 3) := by decide +kernel
theorem dX6_ask_190 : decode cX6_ask 190 = .ok (.iload_n 3, 1) := by decide +kernel
theorem dX6_ask_191 : decode cX6_ask 191 = .ok (.istore_n 3, 1) := by decide +kernel
theorem dX6_ask_192 : decode cX6_ask 192 = .ok (.iload 6, 2) := by decide +kernel
theorem dX6_ask_194 : decode cX6_ask 194 = .ok (.iload 4, 2) := by decide +kernel
theorem dX6_ask_196 : decode cX6_ask 196 = .ok (.if_icmp .ge 8, 3) := by decide +kernel
theorem dX6_ask_199 : decode cX6_ask 199 = .ok (.iload 6, 2) := by decide +kernel
theorem dX6_ask_201 : decode cX6_ask 201 = .ok (.goto 5, 3) := by decide +kernel
theorem dX6_ask_204 : decode cX6_ask 204 = .ok (.iload 4, 2) := by decide +kernel
theorem dX6_ask_206 : decode cX6_ask 206 = .ok (.istore 4, 2) := by decide +kernel
theorem dX6_ask_208 : decode cX6_ask 208 = .ok (.iinc 5 1, 3) := by decide +kernel
theorem dX6_ask_211 : decode cX6_ask 211 = .ok (.goto (-154), 3) := by decide +kernel
theorem dX6_ask_214 : decode cX6_ask 214 = .ok (.iload_n 3, 1) := by decide +kernel
theorem dX6_ask_215 : decode cX6_ask 215 = .ok (.ifCond .lt 7, 3) := by decide +kernel
theorem dX6_ask_218 : decode cX6_ask 218 = .ok (.iload_n 1, 1) := by decide +kernel
theorem dX6_ask_219 : decode cX6_ask 219 = .ok (.ifCond .ne 7, 3) := by decide +kernel
theorem dX6_ask_222 : decode cX6_ask 222 = .ok (.iload_n 3, 1) := by decide +kernel
theorem dX6_ask_223 : decode cX6_ask 223 = .ok (.goto 5, 3) := by decide +kernel
theorem dX6_ask_226 : decode cX6_ask 226 = .ok (.iload 4, 2) := by decide +kernel
theorem dX6_ask_228 : decode cX6_ask 228 = .ok (.ireturn, 1) := by decide +kernel
theorem dX6_barOf_0 : decode cX6_barOf 0 = .ok (.aload_n 0, 1) := by decide +kernel
theorem dX6_barOf_1 : decode cX6_barOf 1 = .ok (.getfield 13, 3) := by decide +kernel
theorem dX6_barOf_4 : decode cX6_barOf 4 = .ok (.bipush 9, 2) := by decide +kernel
theorem dX6_barOf_6 : decode cX6_barOf 6 = .ok (.iload_n 1, 1) := by decide +kernel
theorem dX6_barOf_7 : decode cX6_barOf 7 = .ok (.imul, 1) := by decide +kernel
theorem dX6_barOf_8 : decode cX6_barOf 8 = .ok (.iload_n 2, 1) := by decide +kernel
theorem dX6_barOf_9 : decode cX6_barOf 9 = .ok (.iadd, 1) := by decide +kernel
theorem dX6_barOf_10 : decode cX6_barOf 10 = .ok (.iaload, 1) := by decide +kernel
theorem dX6_barOf_11 : decode cX6_barOf 11 = .ok (.istore_n 3, 1) := by decide +kernel
theorem dX6_barOf_12 : decode cX6_barOf 12 = .ok (.iload_n 3, 1) := by decide +kernel
theorem dX6_barOf_13 : decode cX6_barOf 13 = .ok (.ifCond .ge 7, 3) := by decide +kernel
theorem dX6_barOf_16 : decode cX6_barOf 16 = .ok (.iconst 3, 1) := by decide +kernel
theorem dX6_barOf_17 : decode cX6_barOf 17 = .ok (.goto 14, 3) := by decide +kernel
theorem dX6_barOf_20 : decode cX6_barOf 20 = .ok (.iload_n 3, 1) := by decide +kernel
theorem dX6_barOf_21 : decode cX6_barOf 21 = .ok (.bipush 99, 2) := by decide +kernel
theorem dX6_barOf_23 : decode cX6_barOf 23 = .ok (.if_icmp .le 7, 3) := by decide +kernel
theorem dX6_barOf_26 : decode cX6_barOf 26 = .ok (.iconst 4, 1) := by decide +kernel
theorem dX6_barOf_27 : decode cX6_barOf 27 = .ok (.goto 4, 3) := by decide +kernel
theorem dX6_barOf_30 : decode cX6_barOf 30 = .ok (.iconst 0, 1) := by decide +kernel
theorem dX6_barOf_31 : decode cX6_barOf 31 = .ok (.ireturn, 1) := by decide +kernel
theorem dX6_barOfDays_0 : decode cX6_barOfDays 0 = .ok (.aload_n 0, 1) := by decide +kernel
theorem dX6_barOfDays_1 : decode cX6_barOfDays 1 = .ok (.invokevirtual 81, 3) := by decide +kernel
theorem dX6_barOfDays_4 : decode cX6_barOfDays 4 = .ok (.ifCond .ge 10, 3) := by decide +kernel
theorem dX6_barOfDays_7 : decode cX6_barOfDays 7 = .ok (.aload_n 0, 1) := by decide +kernel
theorem dX6_barOfDays_8 : decode cX6_barOfDays 8 = .ok (.invokevirtual 129, 3) := by decide +kernel
theorem dX6_barOfDays_11 : decode cX6_barOfDays 11 = .ok (.ifCond .lt 8, 3) := by decide +kernel
theorem dX6_barOfDays_14 : decode cX6_barOfDays 14 = .ok (.bipush (-5), 2) := by decide +kernel
theorem dX6_barOfDays_16 : decode cX6_barOfDays 16 = .ok (.goto 4, 3) := by decide +kernel
theorem dX6_barOfDays_19 : decode cX6_barOfDays 19 = .ok (.iconst 0, 1) := by decide +kernel
theorem dX6_barOfDays_20 : decode cX6_barOfDays 20 = .ok (.ireturn, 1) := by decide +kernel
theorem dX6_behind_0 : decode cX6_behind 0 = .ok (.iload_n 1, 1) := by decide +kernel
theorem dX6_behind_1 : decode cX6_behind 1 = .ok (.invokestatic 63, 3) := by decide +kernel
theorem dX6_behind_4 : decode cX6_behind 4 = .ok (.ifCond .eq 15, 3) := by decide +kernel
theorem dX6_behind_7 : decode cX6_behind 7 = .ok (.iload_n 2, 1) := by decide +kernel
theorem dX6_behind_8 : decode cX6_behind 8 = .ok (.invokestatic 63, 3) := by decide +kernel
theorem dX6_behind_11 : decode cX6_behind 11 = .ok (.ifCond .eq 8, 3) := by decide +kernel
theorem dX6_behind_14 : decode cX6_behind 14 = .ok (.iload_n 1, 1) := by decide +kernel
theorem dX6_behind_15 : decode cX6_behind 15 = .ok (.iload_n 2, 1) := by decide +kernel
theorem dX6_behind_16 : decode cX6_behind 16 = .ok (.if_icmp .ne 5, 3) := by decide +kernel
theorem dX6_behind_19 : decode cX6_behind 19 = .ok (.iconst (-1), 1) := by decide +kernel
theorem dX6_behind_20 : decode cX6_behind 20 = .ok (.ireturn, 1) := by decide +kernel
theorem dX6_behind_21 : decode cX6_behind 21 = .ok (.aload_n 0, 1) := by decide +kernel
theorem dX6_behind_22 : decode cX6_behind 22 = .ok (.invokevirtual 132, 3) := by decide +kernel
theorem dX6_behind_25 : decode cX6_behind 25 = .ok (.ifCond .ge 8, 3) := by decide +kernel
theorem dX6_behind_28 : decode cX6_behind 28 = .ok (.bipush (-5), 2) := by decide +kernel
theorem dX6_behind_30 : decode cX6_behind 30 = .ok (.goto 14, 3) := by decide +kernel
theorem dX6_behind_33 : decode cX6_behind 33 = .ok (.aload_n 0, 1) := by decide +kernel
theorem dX6_behind_34 : decode cX6_behind 34 = .ok (.getfield 13, 3) := by decide +kernel
theorem dX6_behind_37 : decode cX6_behind 37 = .ok (.bipush 9, 2) := by decide +kernel
theorem dX6_behind_39 : decode cX6_behind 39 = .ok (.iload_n 1, 1) := by decide +kernel
theorem dX6_behind_40 : decode cX6_behind 40 = .ok (.imul, 1) := by decide +kernel
theorem dX6_behind_41 : decode cX6_behind 41 = .ok (.iload_n 2, 1) := by decide +kernel
theorem dX6_behind_42 : decode cX6_behind 42 = .ok (.iadd, 1) := by decide +kernel
theorem dX6_behind_43 : decode cX6_behind 43 = .ok (.iaload, 1) := by decide +kernel
theorem dX6_behind_44 : decode cX6_behind 44 = .ok (.ireturn, 1) := by decide +kernel
theorem dX6_bits_0 : decode cX6_bits 0 = .ok (.iconst 0, 1) := by decide +kernel
theorem dX6_bits_1 : decode cX6_bits 1 = .ok (.istore_n 1, 1) := by decide +kernel
theorem dX6_bits_2 : decode cX6_bits 2 = .ok (.iconst 0, 1) := by decide +kernel
theorem dX6_bits_3 : decode cX6_bits 3 = .ok (.istore_n 2, 1) := by decide +kernel
theorem dX6_bits_4 : decode cX6_bits 4 = .ok (.iload_n 2, 1) := by decide +kernel
theorem dX6_bits_5 : decode cX6_bits 5 = .ok (.bipush 9, 2) := by decide +kernel
theorem dX6_bits_7 : decode cX6_bits 7 = .ok (.if_icmp .ge 17, 3) := by decide +kernel
theorem dX6_bits_10 : decode cX6_bits 10 = .ok (.iload_n 1, 1) := by decide +kernel
theorem dX6_bits_11 : decode cX6_bits 11 = .ok (.iload_n 0, 1) := by decide +kernel
theorem dX6_bits_12 : decode cX6_bits 12 = .ok (.iload_n 2, 1) := by decide +kernel
theorem dX6_bits_13 : decode cX6_bits 13 = .ok (.ishr, 1) := by decide +kernel
theorem dX6_bits_14 : decode cX6_bits 14 = .ok (.iconst 1, 1) := by decide +kernel
theorem dX6_bits_15 : decode cX6_bits 15 = .ok (.iand, 1) := by decide +kernel
theorem dX6_bits_16 : decode cX6_bits 16 = .ok (.iadd, 1) := by decide +kernel
theorem dX6_bits_17 : decode cX6_bits 17 = .ok (.istore_n 1, 1) := by decide +kernel
theorem dX6_bits_18 : decode cX6_bits 18 = .ok (.iinc 2 1, 3) := by decide +kernel
theorem dX6_bits_21 : decode cX6_bits 21 = .ok (.goto (-17), 3) := by decide +kernel
theorem dX6_bits_24 : decode cX6_bits 24 = .ok (.iload_n 1, 1) := by decide +kernel
theorem dX6_bits_25 : decode cX6_bits 25 = .ok (.ireturn, 1) := by decide +kernel
theorem dX6_bring_0 : decode cX6_bring 0 = .ok (.aload_n 0, 1) := by decide +kernel
theorem dX6_bring_1 : decode cX6_bring 1 = .ok (.iload_n 1, 1) := by decide +kernel
theorem dX6_bring_2 : decode cX6_bring 2 = .ok (.iload_n 2, 1) := by decide +kernel
theorem dX6_bring_3 : decode cX6_bring 3 = .ok (.invokevirtual 93, 3) := by decide +kernel
theorem dX6_bring_6 : decode cX6_bring 6 = .ok (.istore_n 3, 1) := by decide +kernel
theorem dX6_bring_7 : decode cX6_bring 7 = .ok (.iload_n 3, 1) := by decide +kernel
theorem dX6_bring_8 : decode cX6_bring 8 = .ok (.ifCond .ne 11, 3) := by decide +kernel
theorem dX6_bring_11 : decode cX6_bring 11 = .ok (.aload_n 0, 1) := by decide +kernel
theorem dX6_bring_12 : decode cX6_bring 12 = .ok (.iload_n 1, 1) := by decide +kernel
theorem dX6_bring_13 : decode cX6_bring 13 = .ok (.iload_n 2, 1) := by decide +kernel
theorem dX6_bring_14 : decode cX6_bring 14 = .ok (.bipush 103, 2) := by decide +kernel
theorem dX6_bring_16 : decode cX6_bring 16 = .ok (.invokevirtual 97, 3) := by decide +kernel
theorem dX6_bring_19 : decode cX6_bring 19 = .ok (.iload_n 3, 1) := by decide +kernel
theorem dX6_bring_20 : decode cX6_bring 20 = .ok (.ireturn, 1) := by decide +kernel
theorem dX6_done_0 : decode cX6_done 0 = .ok (.aload_n 0, 1) := by decide +kernel
theorem dX6_done_1 : decode cX6_done 1 = .ok (.invokevirtual 132, 3) := by decide +kernel
theorem dX6_done_4 : decode cX6_done 4 = .ok (.ifCond .ge 6, 3) := by decide +kernel
theorem dX6_done_7 : decode cX6_done 7 = .ok (.bipush (-5), 2) := by decide +kernel
theorem dX6_done_9 : decode cX6_done 9 = .ok (.ireturn, 1) := by decide +kernel
theorem dX6_done_10 : decode cX6_done 10 = .ok (.iconst 0, 1) := by decide +kernel
theorem dX6_done_11 : decode cX6_done 11 = .ok (.istore_n 1, 1) := by decide +kernel
theorem dX6_done_12 : decode cX6_done 12 = .ok (.iload_n 1, 1) := by decide +kernel
theorem dX6_done_13 : decode cX6_done 13 = .ok (.bipush 89, 2) := by decide +kernel
theorem dX6_done_15 : decode cX6_done 15 = .ok (.if_icmp .ge 21, 3) := by decide +kernel
theorem dX6_done_18 : decode cX6_done 18 = .ok (.aload_n 0, 1) := by decide +kernel
theorem dX6_done_19 : decode cX6_done 19 = .ok (.getfield 7, 3) := by decide +kernel
theorem dX6_done_22 : decode cX6_done 22 = .ok (.iload_n 1, 1) := by decide +kernel
theorem dX6_done_23 : decode cX6_done 23 = .ok (.aload_n 0, 1) := by decide +kernel
theorem dX6_done_24 : decode cX6_done 24 = .ok (.getfield 13, 3) := by decide +kernel
theorem dX6_done_27 : decode cX6_done 27 = .ok (.iload_n 1, 1) := by decide +kernel
theorem dX6_done_28 : decode cX6_done 28 = .ok (.iaload, 1) := by decide +kernel
theorem dX6_done_29 : decode cX6_done 29 = .ok (.iastore, 1) := by decide +kernel
theorem dX6_done_30 : decode cX6_done 30 = .ok (.iinc 1 1, 3) := by decide +kernel
theorem dX6_done_33 : decode cX6_done 33 = .ok (.goto (-21), 3) := by decide +kernel
theorem dX6_done_36 : decode cX6_done 36 = .ok (.aload_n 0, 1) := by decide +kernel
theorem dX6_done_37 : decode cX6_done 37 = .ok (.iconst 0, 1) := by decide +kernel
theorem dX6_done_38 : decode cX6_done 38 = .ok (.putfield 78, 3) := by decide +kernel
theorem dX6_done_41 : decode cX6_done 41 = .ok (.aload_n 0, 1) := by decide +kernel
theorem dX6_done_42 : decode cX6_done 42 = .ok (.getfield 107, 3) := by decide +kernel
theorem dX6_done_45 : decode cX6_done 45 = .ok (.ireturn, 1) := by decide +kernel
theorem dX6_endDay_0 : decode cX6_endDay 0 = .ok (.aload_n 0, 1) := by decide +kernel
theorem dX6_endDay_1 : decode cX6_endDay 1 = .ok (.getfield 13, 3) := by decide +kernel
theorem dX6_endDay_4 : decode cX6_endDay 4 = .ok (.bipush 88, 2) := by decide +kernel
theorem dX6_endDay_6 : decode cX6_endDay 6 = .ok (.iaload, 1) := by decide +kernel
theorem dX6_endDay_7 : decode cX6_endDay 7 = .ok (.bipush 99, 2) := by decide +kernel
theorem dX6_endDay_9 : decode cX6_endDay 9 = .ok (.if_icmp .ne 6, 3) := by decide +kernel
theorem dX6_endDay_12 : decode cX6_endDay 12 = .ok (.bipush 7, 2) := by decide +kernel
theorem dX6_endDay_14 : decode cX6_endDay 14 = .ok (.ireturn, 1) := by decide +kernel
theorem dX6_endDay_15 : decode cX6_endDay 15 = .ok (.aload_n 0, 1) := by decide +kernel
theorem dX6_endDay_16 : decode cX6_endDay 16 = .ok (.getfield 13, 3) := by decide +kernel
theorem dX6_endDay_19 : decode cX6_endDay 19 = .ok (.bipush 88, 2) := by decide +kernel
theorem dX6_endDay_21 : decode cX6_endDay 21 = .ok (.dup2, 1) := by decide +kernel
theorem dX6_endDay_22 : decode cX6_endDay 22 = .ok (.iaload, 1) := by decide +kernel
theorem dX6_endDay_23 : decode cX6_endDay 23 = .ok (.iconst 1, 1) := by decide +kernel
theorem dX6_endDay_24 : decode cX6_endDay 24 = .ok (.iadd, 1) := by decide +kernel
theorem dX6_endDay_25 : decode cX6_endDay 25 = .ok (.iastore, 1) := by decide +kernel
theorem dX6_endDay_26 : decode cX6_endDay 26 = .ok (.iconst 0, 1) := by decide +kernel
theorem dX6_endDay_27 : decode cX6_endDay 27 = .ok (.istore_n 1, 1) := by decide +kernel
theorem dX6_endDay_28 : decode cX6_endDay 28 = .ok (.iload_n 1, 1) := by decide +kernel
theorem dX6_endDay_29 : decode cX6_endDay 29 = .ok (.bipush 81, 2) := by decide +kernel
theorem dX6_endDay_31 : decode cX6_endDay 31 = .ok (.if_icmp .ge 58, 3) := by decide +kernel
theorem dX6_endDay_34 : decode cX6_endDay 34 = .ok (.aload_n 0, 1) := by decide +kernel
theorem dX6_endDay_35 : decode cX6_endDay 35 = .ok (.getfield 13, 3) := by decide +kernel
theorem dX6_endDay_38 : decode cX6_endDay 38 = .ok (.iload_n 1, 1) := by decide +kernel
theorem dX6_endDay_39 : decode cX6_endDay 39 = .ok (.aload_n 0, 1) := by decide +kernel
theorem dX6_endDay_40 : decode cX6_endDay 40 = .ok (.getfield 13, 3) := by decide +kernel
theorem dX6_endDay_43 : decode cX6_endDay 43 = .ok (.iload_n 1, 1) := by decide +kernel
theorem dX6_endDay_44 : decode cX6_endDay 44 = .ok (.iaload, 1) := by decide +kernel
theorem dX6_endDay_45 : decode cX6_endDay 45 = .ok (.bipush 101, 2) := by decide +kernel
theorem dX6_endDay_47 : decode cX6_endDay 47 = .ok (.if_icmp .ne 7, 3) := by decide +kernel
theorem dX6_endDay_50 : decode cX6_endDay 50 = .ok (.iconst 0, 1) := by decide +kernel
theorem dX6_endDay_51 : decode cX6_endDay 51 = .ok (.goto 31, 3) := by decide +kernel
theorem dX6_endDay_54 : decode cX6_endDay 54 = .ok (.aload_n 0, 1) := by decide +kernel
theorem dX6_endDay_55 : decode cX6_endDay 55 = .ok (.getfield 13, 3) := by decide +kernel
theorem dX6_endDay_58 : decode cX6_endDay 58 = .ok (.iload_n 1, 1) := by decide +kernel
theorem dX6_endDay_59 : decode cX6_endDay 59 = .ok (.iaload, 1) := by decide +kernel
theorem dX6_endDay_60 : decode cX6_endDay 60 = .ok (.bipush 101, 2) := by decide +kernel
theorem dX6_endDay_62 : decode cX6_endDay 62 = .ok (.if_icmp .le 14, 3) := by decide +kernel
theorem dX6_endDay_65 : decode cX6_endDay 65 = .ok (.aload_n 0, 1) := by decide +kernel
theorem dX6_endDay_66 : decode cX6_endDay 66 = .ok (.getfield 13, 3) := by decide +kernel
theorem dX6_endDay_69 : decode cX6_endDay 69 = .ok (.iload_n 1, 1) := by decide +kernel
theorem dX6_endDay_70 : decode cX6_endDay 70 = .ok (.iaload, 1) := by decide +kernel
theorem dX6_endDay_71 : decode cX6_endDay 71 = .ok (.iconst 1, 1) := by decide +kernel
theorem dX6_endDay_72 : decode cX6_endDay 72 = .ok (.isub, 1) := by decide +kernel
theorem dX6_endDay_73 : decode cX6_endDay 73 = .ok (.goto 9, 3) := by decide +kernel
theorem dX6_endDay_76 : decode cX6_endDay 76 = .ok (.aload_n 0, 1) := by decide +kernel
theorem dX6_endDay_77 : decode cX6_endDay 77 = .ok (.getfield 13, 3) := by decide +kernel
theorem dX6_endDay_80 : decode cX6_endDay 80 = .ok (.iload_n 1, 1) := by decide +kernel
theorem dX6_endDay_81 : decode cX6_endDay 81 = .ok (.iaload, 1) := by decide +kernel
theorem dX6_endDay_82 : decode cX6_endDay 82 = .ok (.iastore, 1) := by decide +kernel
theorem dX6_endDay_83 : decode cX6_endDay 83 = .ok (.iinc 1 1, 3) := by decide +kernel
theorem dX6_endDay_86 : decode cX6_endDay 86 = .ok (.goto (-58), 3) := by decide +kernel
theorem dX6_endDay_89 : decode cX6_endDay 89 = .ok (.iconst 0, 1) := by decide +kernel
theorem dX6_endDay_90 : decode cX6_endDay 90 = .ok (.ireturn, 1) := by decide +kernel
theorem dX6_fault_0 : decode cX6_fault 0 = .ok (.aload_n 0, 1) := by decide +kernel
theorem dX6_fault_1 : decode cX6_fault 1 = .ok (.invokevirtual 81, 3) := by decide +kernel
theorem dX6_fault_4 : decode cX6_fault 4 = .ok (.ireturn, 1) := by decide +kernel
theorem dX6_faultOf_0 : decode cX6_faultOf 0 = .ok (.iconst 0, 1) := by decide +kernel
theorem dX6_faultOf_1 : decode cX6_faultOf 1 = .ok (.istore_n 1, 1) := by decide +kernel
theorem dX6_faultOf_2 : decode cX6_faultOf 2 = .ok (.iconst 0, 1) := by decide +kernel
theorem dX6_faultOf_3 : decode cX6_faultOf 3 = .ok (.istore_n 2, 1) := by decide +kernel
theorem dX6_faultOf_4 : decode cX6_faultOf 4 = .ok (.iload_n 2, 1) := by decide +kernel
theorem dX6_faultOf_5 : decode cX6_faultOf 5 = .ok (.aload_n 0, 1) := by decide +kernel
theorem dX6_faultOf_6 : decode cX6_faultOf 6 = .ok (.getfield 78, 3) := by decide +kernel
theorem dX6_faultOf_9 : decode cX6_faultOf 9 = .ok (.if_icmp .ge 116, 3) := by decide +kernel
theorem dX6_faultOf_12 : decode cX6_faultOf 12 = .ok (.aload_n 0, 1) := by decide +kernel
theorem dX6_faultOf_13 : decode cX6_faultOf 13 = .ok (.getfield 19, 3) := by decide +kernel
theorem dX6_faultOf_16 : decode cX6_faultOf 16 = .ok (.iload_n 2, 1) := by decide +kernel
theorem dX6_faultOf_17 : decode cX6_faultOf 17 = .ok (.iaload, 1) := by decide +kernel
theorem dX6_faultOf_18 : decode cX6_faultOf 18 = .ok (.istore_n 3, 1) := by decide +kernel
theorem dX6_faultOf_19 : decode cX6_faultOf 19 = .ok (.iload_n 3, 1) := by decide +kernel
theorem dX6_faultOf_20 : decode cX6_faultOf 20 = .ok (.bipush 97, 2) := by decide +kernel
theorem dX6_faultOf_22 : decode cX6_faultOf 22 = .ok (.bipush 105, 2) := by decide +kernel
theorem dX6_faultOf_24 : decode cX6_faultOf 24 = .ok (.invokestatic 51, 3) := by decide +kernel
theorem dX6_faultOf_27 : decode cX6_faultOf 27 = .ok (.istore 4, 2) := by decide +kernel
theorem dX6_faultOf_29 : decode cX6_faultOf 29 = .ok (.iload_n 1, 1) := by decide +kernel
theorem dX6_faultOf_30 : decode cX6_faultOf 30 = .ok (.ifCond .le 16, 3) := by decide +kernel
theorem dX6_faultOf_33 : decode cX6_faultOf 33 = .ok (.iload 4, 2) := by decide +kernel
theorem dX6_faultOf_35 : decode cX6_faultOf 35 = .ok (.ifCond .ne 5, 3) := by decide +kernel
theorem dX6_faultOf_38 : decode cX6_faultOf 38 = .ok (.iload_n 2, 1) := by decide +kernel
theorem dX6_faultOf_39 : decode cX6_faultOf 39 = .ok (.ireturn, 1) := by decide +kernel
theorem dX6_faultOf_40 : decode cX6_faultOf 40 = .ok (.iinc 1 (-1), 3) := by decide +kernel
theorem dX6_faultOf_43 : decode cX6_faultOf 43 = .ok (.goto 76, 3) := by decide +kernel
theorem dX6_faultOf_46 : decode cX6_faultOf 46 = .ok (.iload_n 1, 1) := by decide +kernel
theorem dX6_faultOf_47 : decode cX6_faultOf 47 = .ok (.ifCond .ge 21, 3) := by decide +kernel
theorem dX6_faultOf_50 : decode cX6_faultOf 50 = .ok (.iload 4, 2) := by decide +kernel
theorem dX6_faultOf_52 : decode cX6_faultOf 52 = .ok (.ifCond .ne 11, 3) := by decide +kernel
theorem dX6_faultOf_55 : decode cX6_faultOf 55 = .ok (.iload_n 3, 1) := by decide +kernel
theorem dX6_faultOf_56 : decode cX6_faultOf 56 = .ok (.bipush 94, 2) := by decide +kernel
theorem dX6_faultOf_58 : decode cX6_faultOf 58 = .ok (.if_icmp .eq 5, 3) := by decide +kernel
theorem dX6_faultOf_61 : decode cX6_faultOf 61 = .ok (.iload_n 2, 1) := by decide +kernel
theorem dX6_faultOf_62 : decode cX6_faultOf 62 = .ok (.ireturn, 1) := by decide +kernel
theorem dX6_faultOf_63 : decode cX6_faultOf 63 = .ok (.iconst 0, 1) := by decide +kernel
theorem dX6_faultOf_64 : decode cX6_faultOf 64 = .ok (.istore_n 1, 1) := by decide +kernel
theorem dX6_faultOf_65 : decode cX6_faultOf 65 = .ok (.goto 54, 3) := by decide +kernel
theorem dX6_faultOf_68 : decode cX6_faultOf 68 = .ok (.iload_n 3, 1) := by decide +kernel
theorem dX6_faultOf_69 : decode cX6_faultOf 69 = .ok (.bipush 65, 2) := by decide +kernel
theorem dX6_faultOf_71 : decode cX6_faultOf 71 = .ok (.bipush 70, 2) := by decide +kernel
theorem dX6_faultOf_73 : decode cX6_faultOf 73 = .ok (.invokestatic 51, 3) := by decide +kernel
theorem dX6_faultOf_76 : decode cX6_faultOf 76 = .ok (.ifCond .eq 8, 3) := by decide +kernel
theorem dX6_faultOf_79 : decode cX6_faultOf 79 = .ok (.iconst (-1), 1) := by decide +kernel
theorem dX6_faultOf_80 : decode cX6_faultOf 80 = .ok (.istore_n 1, 1) := by decide +kernel
theorem dX6_faultOf_81 : decode cX6_faultOf 81 = .ok (.goto 38, 3) := by decide +kernel
theorem dX6_faultOf_84 : decode cX6_faultOf 84 = .ok (.iload_n 3, 1) := by decide +kernel
theorem dX6_faultOf_85 : decode cX6_faultOf 85 = .ok (.bipush 109, 2) := by decide +kernel
theorem dX6_faultOf_87 : decode cX6_faultOf 87 = .ok (.if_icmp .eq 9, 3) := by decide +kernel
theorem dX6_faultOf_90 : decode cX6_faultOf 90 = .ok (.iload_n 3, 1) := by decide +kernel
theorem dX6_faultOf_91 : decode cX6_faultOf 91 = .ok (.bipush 112, 2) := by decide +kernel
theorem dX6_faultOf_93 : decode cX6_faultOf 93 = .ok (.if_icmp .ne 18, 3) := by decide +kernel
theorem dX6_faultOf_96 : decode cX6_faultOf 96 = .ok (.iload_n 3, 1) := by decide +kernel
theorem dX6_faultOf_97 : decode cX6_faultOf 97 = .ok (.bipush 109, 2) := by decide +kernel
theorem dX6_faultOf_99 : decode cX6_faultOf 99 = .ok (.if_icmp .ne 7, 3) := by decide +kernel
theorem dX6_faultOf_102 : decode cX6_faultOf 102 = .ok (.iconst 2, 1) := by decide +kernel
theorem dX6_faultOf_103 : decode cX6_faultOf 103 = .ok (.goto 4, 3) := by decide +kernel
theorem dX6_faultOf_106 : decode cX6_faultOf 106 = .ok (.iconst 4, 1) := by decide +kernel
theorem dX6_faultOf_107 : decode cX6_faultOf 107 = .ok (.istore_n 1, 1) := by decide +kernel
theorem dX6_faultOf_108 : decode cX6_faultOf 108 = .ok (.goto 11, 3) := by decide +kernel
theorem dX6_faultOf_111 : decode cX6_faultOf 111 = .ok (.iload_n 3, 1) := by decide +kernel
theorem dX6_faultOf_112 : decode cX6_faultOf 112 = .ok (.bipush 46, 2) := by decide +kernel
theorem dX6_faultOf_114 : decode cX6_faultOf 114 = .ok (.if_icmp .eq 5, 3) := by decide +kernel
theorem dX6_faultOf_117 : decode cX6_faultOf 117 = .ok (.iload_n 2, 1) := by decide +kernel
theorem dX6_faultOf_118 : decode cX6_faultOf 118 = .ok (.ireturn, 1) := by decide +kernel
theorem dX6_faultOf_119 : decode cX6_faultOf 119 = .ok (.iinc 2 1, 3) := by decide +kernel
theorem dX6_faultOf_122 : decode cX6_faultOf 122 = .ok (.goto (-118), 3) := by decide +kernel
theorem dX6_faultOf_125 : decode cX6_faultOf 125 = .ok (.iload_n 1, 1) := by decide +kernel
theorem dX6_faultOf_126 : decode cX6_faultOf 126 = .ok (.ifCond .ne 8, 3) := by decide +kernel
theorem dX6_faultOf_129 : decode cX6_faultOf 129 = .ok (.bipush (-6), 2) := by decide +kernel
theorem dX6_faultOf_131 : decode cX6_faultOf 131 = .ok (.goto 7, 3) := by decide +kernel
theorem dX6_faultOf_134 : decode cX6_faultOf 134 = .ok (.aload_n 0, 1) := by decide +kernel
theorem dX6_faultOf_135 : decode cX6_faultOf 135 = .ok (.getfield 78, 3) := by decide +kernel
theorem dX6_faultOf_138 : decode cX6_faultOf 138 = .ok (.ireturn, 1) := by decide +kernel
theorem dX6_forget_0 : decode cX6_forget 0 = .ok (.aload_n 0, 1) := by decide +kernel
theorem dX6_forget_1 : decode cX6_forget 1 = .ok (.getfield 153, 3) := by decide +kernel
theorem dX6_forget_4 : decode cX6_forget 4 = .ok (.istore_n 1, 1) := by decide +kernel
theorem dX6_forget_5 : decode cX6_forget 5 = .ok (.aload_n 0, 1) := by decide +kernel
theorem dX6_forget_6 : decode cX6_forget 6 = .ok (.iconst 0, 1) := by decide +kernel
theorem dX6_forget_7 : decode cX6_forget 7 = .ok (.putfield 153, 3) := by decide +kernel
theorem dX6_forget_10 : decode cX6_forget 10 = .ok (.iload_n 1, 1) := by decide +kernel
theorem dX6_forget_11 : decode cX6_forget 11 = .ok (.ireturn, 1) := by decide +kernel
theorem dX6_goDays_0 : decode cX6_goDays 0 = .ok (.aload_n 0, 1) := by decide +kernel
theorem dX6_goDays_1 : decode cX6_goDays 1 = .ok (.invokevirtual 67, 3) := by decide +kernel
theorem dX6_goDays_4 : decode cX6_goDays 4 = .ok (.aload_n 0, 1) := by decide +kernel
theorem dX6_goDays_5 : decode cX6_goDays 5 = .ok (.iconst 0, 1) := by decide +kernel
theorem dX6_goDays_6 : decode cX6_goDays 6 = .ok (.putfield 107, 3) := by decide +kernel
theorem dX6_goDays_9 : decode cX6_goDays 9 = .ok (.iconst 0, 1) := by decide +kernel
theorem dX6_goDays_10 : decode cX6_goDays 10 = .ok (.istore_n 1, 1) := by decide +kernel
theorem dX6_goDays_11 : decode cX6_goDays 11 = .ok (.iload_n 1, 1) := by decide +kernel
theorem dX6_goDays_12 : decode cX6_goDays 12 = .ok (.aload_n 0, 1) := by decide +kernel
theorem dX6_goDays_13 : decode cX6_goDays 13 = .ok (.getfield 78, 3) := by decide +kernel
theorem dX6_goDays_16 : decode cX6_goDays 16 = .ok (.if_icmp .ge 312, 3) := by decide +kernel
theorem dX6_goDays_19 : decode cX6_goDays 19 = .ok (.aload_n 0, 1) := by decide +kernel
theorem dX6_goDays_20 : decode cX6_goDays 20 = .ok (.getfield 19, 3) := by decide +kernel
theorem dX6_goDays_23 : decode cX6_goDays 23 = .ok (.iload_n 1, 1) := by decide +kernel
theorem dX6_goDays_24 : decode cX6_goDays 24 = .ok (.iaload, 1) := by decide +kernel
theorem dX6_goDays_25 : decode cX6_goDays 25 = .ok (.istore_n 2, 1) := by decide +kernel
theorem dX6_goDays_26 : decode cX6_goDays 26 = .ok (.iload_n 2, 1) := by decide +kernel
theorem dX6_goDays_27 : decode cX6_goDays 27 = .ok (.bipush 46, 2) := by decide +kernel
theorem dX6_goDays_29 : decode cX6_goDays 29 = .ok (.if_icmp .ne 17, 3) := by decide +kernel
theorem dX6_goDays_32 : decode cX6_goDays 32 = .ok (.aload_n 0, 1) := by decide +kernel
theorem dX6_goDays_33 : decode cX6_goDays 33 = .ok (.aload_n 0, 1) := by decide +kernel
theorem dX6_goDays_34 : decode cX6_goDays 34 = .ok (.invokevirtual 110, 3) := by decide +kernel
theorem dX6_goDays_37 : decode cX6_goDays 37 = .ok (.putfield 113, 3) := by decide +kernel
theorem dX6_goDays_40 : decode cX6_goDays 40 = .ok (.iinc 1 1, 3) := by decide +kernel
theorem dX6_goDays_43 : decode cX6_goDays 43 = .ok (.goto 260, 3) := by decide +kernel
theorem dX6_goDays_46 : decode cX6_goDays 46 = .ok (.iload_n 2, 1) := by decide +kernel
theorem dX6_goDays_47 : decode cX6_goDays 47 = .ok (.bipush 109, 2) := by decide +kernel
theorem dX6_goDays_49 : decode cX6_goDays 49 = .ok (.if_icmp .ne 39, 3) := by decide +kernel
theorem dX6_goDays_52 : decode cX6_goDays 52 = .ok (.aload_n 0, 1) := by decide +kernel
theorem dX6_goDays_53 : decode cX6_goDays 53 = .ok (.aload_n 0, 1) := by decide +kernel
theorem dX6_goDays_54 : decode cX6_goDays 54 = .ok (.aload_n 0, 1) := by decide +kernel
theorem dX6_goDays_55 : decode cX6_goDays 55 = .ok (.getfield 19, 3) := by decide +kernel
theorem dX6_goDays_58 : decode cX6_goDays 58 = .ok (.iload_n 1, 1) := by decide +kernel
theorem dX6_goDays_59 : decode cX6_goDays 59 = .ok (.iconst 1, 1) := by decide +kernel
theorem dX6_goDays_60 : decode cX6_goDays 60 = .ok (.iadd, 1) := by decide +kernel
theorem dX6_goDays_61 : decode cX6_goDays 61 = .ok (.iaload, 1) := by decide +kernel
theorem dX6_goDays_62 : decode cX6_goDays 62 = .ok (.bipush 97, 2) := by decide +kernel
theorem dX6_goDays_64 : decode cX6_goDays 64 = .ok (.isub, 1) := by decide +kernel
theorem dX6_goDays_65 : decode cX6_goDays 65 = .ok (.aload_n 0, 1) := by decide +kernel
theorem dX6_goDays_66 : decode cX6_goDays 66 = .ok (.getfield 19, 3) := by decide +kernel
theorem dX6_goDays_69 : decode cX6_goDays 69 = .ok (.iload_n 1, 1) := by decide +kernel
theorem dX6_goDays_70 : decode cX6_goDays 70 = .ok (.iconst 2, 1) := by decide +kernel
theorem dX6_goDays_71 : decode cX6_goDays 71 = .ok (.iadd, 1) := by decide +kernel
theorem dX6_goDays_72 : decode cX6_goDays 72 = .ok (.iaload, 1) := by decide +kernel
theorem dX6_goDays_73 : decode cX6_goDays 73 = .ok (.bipush 97, 2) := by decide +kernel
theorem dX6_goDays_75 : decode cX6_goDays 75 = .ok (.isub, 1) := by decide +kernel
theorem dX6_goDays_76 : decode cX6_goDays 76 = .ok (.invokevirtual 116, 3) := by decide +kernel
theorem dX6_goDays_79 : decode cX6_goDays 79 = .ok (.putfield 113, 3) := by decide +kernel
theorem dX6_goDays_82 : decode cX6_goDays 82 = .ok (.iinc 1 3, 3) := by decide +kernel
theorem dX6_goDays_85 : decode cX6_goDays 85 = .ok (.goto 218, 3) := by decide +kernel
theorem dX6_goDays_88 : decode cX6_goDays 88 = .ok (.iload_n 2, 1) := by decide +kernel
theorem dX6_goDays_89 : decode cX6_goDays 89 = .ok (.bipush 112, 2) := by decide +kernel
theorem dX6_goDays_91 : decode cX6_goDays 91 = .ok (.if_icmp .ne 61, 3) := by decide +kernel
theorem dX6_goDays_94 : decode cX6_goDays 94 = .ok (.aload_n 0, 1) := by decide +kernel
theorem dX6_goDays_95 : decode cX6_goDays 95 = .ok (.aload_n 0, 1) := by decide +kernel
theorem dX6_goDays_96 : decode cX6_goDays 96 = .ok (.aload_n 0, 1) := by decide +kernel
theorem dX6_goDays_97 : decode cX6_goDays 97 = .ok (.getfield 19, 3) := by decide +kernel
theorem dX6_goDays_100 : decode cX6_goDays 100 = .ok (.iload_n 1, 1) := by decide +kernel
theorem dX6_goDays_101 : decode cX6_goDays 101 = .ok (.iconst 1, 1) := by decide +kernel
theorem dX6_goDays_102 : decode cX6_goDays 102 = .ok (.iadd, 1) := by decide +kernel
theorem dX6_goDays_103 : decode cX6_goDays 103 = .ok (.iaload, 1) := by decide +kernel
theorem dX6_goDays_104 : decode cX6_goDays 104 = .ok (.bipush 97, 2) := by decide +kernel
theorem dX6_goDays_106 : decode cX6_goDays 106 = .ok (.isub, 1) := by decide +kernel
theorem dX6_goDays_107 : decode cX6_goDays 107 = .ok (.aload_n 0, 1) := by decide +kernel
theorem dX6_goDays_108 : decode cX6_goDays 108 = .ok (.getfield 19, 3) := by decide +kernel
theorem dX6_goDays_111 : decode cX6_goDays 111 = .ok (.iload_n 1, 1) := by decide +kernel
theorem dX6_goDays_112 : decode cX6_goDays 112 = .ok (.iconst 2, 1) := by decide +kernel
theorem dX6_goDays_113 : decode cX6_goDays 113 = .ok (.iadd, 1) := by decide +kernel
theorem dX6_goDays_114 : decode cX6_goDays 114 = .ok (.iaload, 1) := by decide +kernel
theorem dX6_goDays_115 : decode cX6_goDays 115 = .ok (.bipush 97, 2) := by decide +kernel
theorem dX6_goDays_117 : decode cX6_goDays 117 = .ok (.isub, 1) := by decide +kernel
theorem dX6_goDays_118 : decode cX6_goDays 118 = .ok (.aload_n 0, 1) := by decide +kernel
theorem dX6_goDays_119 : decode cX6_goDays 119 = .ok (.getfield 19, 3) := by decide +kernel
theorem dX6_goDays_122 : decode cX6_goDays 122 = .ok (.iload_n 1, 1) := by decide +kernel
theorem dX6_goDays_123 : decode cX6_goDays 123 = .ok (.iconst 3, 1) := by decide +kernel
theorem dX6_goDays_124 : decode cX6_goDays 124 = .ok (.iadd, 1) := by decide +kernel
theorem dX6_goDays_125 : decode cX6_goDays 125 = .ok (.iaload, 1) := by decide +kernel
theorem dX6_goDays_126 : decode cX6_goDays 126 = .ok (.bipush 97, 2) := by decide +kernel
theorem dX6_goDays_128 : decode cX6_goDays 128 = .ok (.isub, 1) := by decide +kernel
theorem dX6_goDays_129 : decode cX6_goDays 129 = .ok (.aload_n 0, 1) := by decide +kernel
theorem dX6_goDays_130 : decode cX6_goDays 130 = .ok (.getfield 19, 3) := by decide +kernel
theorem dX6_goDays_133 : decode cX6_goDays 133 = .ok (.iload_n 1, 1) := by decide +kernel
theorem dX6_goDays_134 : decode cX6_goDays 134 = .ok (.iconst 4, 1) := by decide +kernel
theorem dX6_goDays_135 : decode cX6_goDays 135 = .ok (.iadd, 1) := by decide +kernel
theorem dX6_goDays_136 : decode cX6_goDays 136 = .ok (.iaload, 1) := by decide +kernel
theorem dX6_goDays_137 : decode cX6_goDays 137 = .ok (.bipush 97, 2) := by decide +kernel
theorem dX6_goDays_139 : decode cX6_goDays 139 = .ok (.isub, 1) := by decide +kernel
theorem dX6_goDays_140 : decode cX6_goDays 140 = .ok (.invokevirtual 119, 3) := by decide +kernel
theorem dX6_goDays_143 : decode cX6_goDays 143 = .ok (.putfield 113, 3) := by decide +kernel
theorem dX6_goDays_146 : decode cX6_goDays 146 = .ok (.iinc 1 5, 3) := by decide +kernel
theorem dX6_goDays_149 : decode cX6_goDays 149 = .ok (.goto 154, 3) := by decide +kernel
theorem dX6_goDays_152 : decode cX6_goDays 152 = .ok (.iload_n 2, 1) := by decide +kernel
theorem dX6_goDays_153 : decode cX6_goDays 153 = .ok (.bipush 65, 2) := by decide +kernel
theorem dX6_goDays_155 : decode cX6_goDays 155 = .ok (.isub, 1) := by decide +kernel
theorem dX6_goDays_156 : decode cX6_goDays 156 = .ok (.istore_n 3, 1) := by decide +kernel
theorem dX6_goDays_157 : decode cX6_goDays 157 = .ok (.aload_n 0, 1) := by decide +kernel
theorem dX6_goDays_158 : decode cX6_goDays 158 = .ok (.getfield 19, 3) := by decide +kernel
theorem dX6_goDays_161 : decode cX6_goDays 161 = .ok (.iload_n 1, 1) := by decide +kernel
theorem dX6_goDays_162 : decode cX6_goDays 162 = .ok (.iconst 1, 1) := by decide +kernel
theorem dX6_goDays_163 : decode cX6_goDays 163 = .ok (.iadd, 1) := by decide +kernel
theorem dX6_goDays_164 : decode cX6_goDays 164 = .ok (.iaload, 1) := by decide +kernel
theorem dX6_goDays_165 : decode cX6_goDays 165 = .ok (.bipush 97, 2) := by decide +kernel
theorem dX6_goDays_167 : decode cX6_goDays 167 = .ok (.isub, 1) := by decide +kernel
theorem dX6_goDays_168 : decode cX6_goDays 168 = .ok (.istore 4, 2) := by decide +kernel
theorem dX6_goDays_170 : decode cX6_goDays 170 = .ok (.aload_n 0, 1) := by decide +kernel
theorem dX6_goDays_171 : decode cX6_goDays 171 = .ok (.getfield 13, 3) := by decide +kernel
theorem dX6_goDays_174 : decode cX6_goDays 174 = .ok (.bipush 81, 2) := by decide +kernel
theorem dX6_goDays_176 : decode cX6_goDays 176 = .ok (.iload_n 3, 1) := by decide +kernel
theorem dX6_goDays_177 : decode cX6_goDays 177 = .ok (.iadd, 1) := by decide +kernel
theorem dX6_goDays_178 : decode cX6_goDays 178 = .ok (.iaload, 1) := by decide +kernel
theorem dX6_goDays_179 : decode cX6_goDays 179 = .ok (.istore 5, 2) := by decide +kernel
theorem dX6_goDays_181 : decode cX6_goDays 181 = .ok (.aload_n 0, 1) := by decide +kernel
theorem dX6_goDays_182 : decode cX6_goDays 182 = .ok (.getfield 19, 3) := by decide +kernel
theorem dX6_goDays_185 : decode cX6_goDays 185 = .ok (.iload_n 1, 1) := by decide +kernel
theorem dX6_goDays_186 : decode cX6_goDays 186 = .ok (.iconst 1, 1) := by decide +kernel
theorem dX6_goDays_187 : decode cX6_goDays 187 = .ok (.iadd, 1) := by decide +kernel
theorem dX6_goDays_188 : decode cX6_goDays 188 = .ok (.iaload, 1) := by decide +kernel
theorem dX6_goDays_189 : decode cX6_goDays 189 = .ok (.bipush 94, 2) := by decide +kernel
theorem dX6_goDays_191 : decode cX6_goDays 191 = .ok (.if_icmp .eq 7, 3) := by decide +kernel
theorem dX6_goDays_194 : decode cX6_goDays 194 = .ok (.iconst 1, 1) := by decide +kernel
theorem dX6_goDays_195 : decode cX6_goDays 195 = .ok (.goto 4, 3) := by decide +kernel
theorem dX6_goDays_198 : decode cX6_goDays 198 = .ok (.iconst 0, 1) := by decide +kernel
theorem dX6_goDays_199 : decode cX6_goDays 199 = .ok (.istore 6, 2) := by decide +kernel
theorem dX6_goDays_201 : decode cX6_goDays 201 = .ok (.aload_n 0, 1) := by decide +kernel
theorem dX6_goDays_202 : decode cX6_goDays 202 = .ok (.iload 6, 2) := by decide +kernel
theorem dX6_goDays_204 : decode cX6_goDays 204 = .ok (.ifCond .eq 13, 3) := by decide +kernel
theorem dX6_goDays_207 : decode cX6_goDays 207 = .ok (.aload_n 0, 1) := by decide +kernel
theorem dX6_goDays_208 : decode cX6_goDays 208 = .ok (.iload_n 3, 1) := by decide +kernel
theorem dX6_goDays_209 : decode cX6_goDays 209 = .ok (.iload 4, 2) := by decide +kernel
theorem dX6_goDays_211 : decode cX6_goDays 211 = .ok (.invokevirtual 123, 3) := by decide +kernel
theorem dX6_goDays_214 : decode cX6_goDays 214 = .ok (.goto 8, 3) := by decide +kernel
theorem dX6_goDays_217 : decode cX6_goDays 217 = .ok (.aload_n 0, 1) := by decide +kernel
theorem dX6_goDays_218 : decode cX6_goDays 218 = .ok (.iload_n 3, 1) := by decide +kernel
theorem dX6_goDays_219 : decode cX6_goDays 219 = .ok (.invokevirtual 126, 3) := by decide +kernel
theorem dX6_goDays_222 : decode cX6_goDays 222 = .ok (.putfield 113, 3) := by decide +kernel
theorem dX6_goDays_225 : decode cX6_goDays 225 = .ok (.iload 6, 2) := by decide +kernel
theorem dX6_goDays_227 : decode cX6_goDays 227 = .ok (.ifCond .eq 73, 3) := by decide +kernel
theorem dX6_goDays_230 : decode cX6_goDays 230 = .ok (.aload_n 0, 1) := by decide +kernel
theorem dX6_goDays_231 : decode cX6_goDays 231 = .ok (.getfield 113, 3) := by decide +kernel
theorem dX6_goDays_234 : decode cX6_goDays 234 = .ok (.ifCond .ne 66, 3) := by decide +kernel
theorem dX6_goDays_237 : decode cX6_goDays 237 = .ok (.aload_n 0, 1) := by decide +kernel
theorem dX6_goDays_238 : decode cX6_goDays 238 = .ok (.getfield 13, 3) := by decide +kernel
theorem dX6_goDays_241 : decode cX6_goDays 241 = .ok (.bipush 9, 2) := by decide +kernel
theorem dX6_goDays_243 : decode cX6_goDays 243 = .ok (.iload 5, 2) := by decide +kernel
theorem dX6_goDays_245 : decode cX6_goDays 245 = .ok (.imul, 1) := by decide +kernel
theorem dX6_goDays_246 : decode cX6_goDays 246 = .ok (.iload 4, 2) := by decide +kernel
theorem dX6_goDays_248 : decode cX6_goDays 248 = .ok (.iadd, 1) := by decide +kernel
theorem dX6_goDays_249 : decode cX6_goDays 249 = .ok (.iaload, 1) := by decide +kernel
theorem dX6_goDays_250 : decode cX6_goDays 250 = .ok (.bipush 9, 2) := by decide +kernel
theorem dX6_goDays_252 : decode cX6_goDays 252 = .ok (.if_icmp .ne 48, 3) := by decide +kernel
theorem dX6_goDays_255 : decode cX6_goDays 255 = .ok (.aload_n 0, 1) := by decide +kernel
theorem dX6_goDays_256 : decode cX6_goDays 256 = .ok (.getfield 84, 3) := by decide +kernel
theorem dX6_goDays_259 : decode cX6_goDays 259 = .ok (.ifCond .ge 41, 3) := by decide +kernel
theorem dX6_goDays_262 : decode cX6_goDays 262 = .ok (.aload_n 0, 1) := by decide +kernel
theorem dX6_goDays_263 : decode cX6_goDays 263 = .ok (.aload_n 0, 1) := by decide +kernel
theorem dX6_goDays_264 : decode cX6_goDays 264 = .ok (.getfield 107, 3) := by decide +kernel
theorem dX6_goDays_267 : decode cX6_goDays 267 = .ok (.putfield 84, 3) := by decide +kernel
theorem dX6_goDays_270 : decode cX6_goDays 270 = .ok (.aload_n 0, 1) := by decide +kernel
theorem dX6_goDays_271 : decode cX6_goDays 271 = .ok (.iload 5, 2) := by decide +kernel
theorem dX6_goDays_273 : decode cX6_goDays 273 = .ok (.iload 4, 2) := by decide +kernel
theorem dX6_goDays_275 : decode cX6_goDays 275 = .ok (.if_icmp .ge 14, 3) := by decide +kernel
theorem dX6_goDays_278 : decode cX6_goDays 278 = .ok (.bipush 10, 2) := by decide +kernel
theorem dX6_goDays_280 : decode cX6_goDays 280 = .ok (.iload 5, 2) := by decide +kernel
theorem dX6_goDays_282 : decode cX6_goDays 282 = .ok (.imul, 1) := by decide +kernel
theorem dX6_goDays_283 : decode cX6_goDays 283 = .ok (.iload 4, 2) := by decide +kernel
theorem dX6_goDays_285 : decode cX6_goDays 285 = .ok (.iadd, 1) := by decide +kernel
theorem dX6_goDays_286 : decode cX6_goDays 286 = .ok (.goto 11, 3) := by decide +kernel
theorem dX6_goDays_289 : decode cX6_goDays 289 = .ok (.bipush 10, 2) := by decide +kernel
theorem dX6_goDays_291 : decode cX6_goDays 291 = .ok (.iload 4, 2) := by decide +kernel
theorem dX6_goDays_293 : decode cX6_goDays 293 = .ok (.imul, 1) := by decide +kernel
theorem dX6_goDays_294 : decode cX6_goDays 294 = .ok (.iload 5, 2) := by decide +kernel
theorem dX6_goDays_296 : decode cX6_goDays 296 = .ok (.iadd, 1) := by decide +kernel
theorem dX6_goDays_297 : decode cX6_goDays 297 = .ok (.putfield 87, 3) := by decide +kernel
theorem dX6_goDays_300 : decode cX6_goDays 300 = .ok (.iinc 1 2, 3) := by decide +kernel
theorem dX6_goDays_303 : decode cX6_goDays 303 = .ok (.aload_n 0, 1) := by decide +kernel
theorem dX6_goDays_304 : decode cX6_goDays 304 = .ok (.getfield 113, 3) := by decide +kernel
theorem dX6_goDays_307 : decode cX6_goDays 307 = .ok (.ifCond .le 8, 3) := by decide +kernel
theorem dX6_goDays_310 : decode cX6_goDays 310 = .ok (.aload_n 0, 1) := by decide +kernel
theorem dX6_goDays_311 : decode cX6_goDays 311 = .ok (.getfield 107, 3) := by decide +kernel
theorem dX6_goDays_314 : decode cX6_goDays 314 = .ok (.ireturn, 1) := by decide +kernel
theorem dX6_goDays_315 : decode cX6_goDays 315 = .ok (.aload_n 0, 1) := by decide +kernel
theorem dX6_goDays_316 : decode cX6_goDays 316 = .ok (.dup, 1) := by decide +kernel
theorem dX6_goDays_317 : decode cX6_goDays 317 = .ok (.getfield 107, 3) := by decide +kernel
theorem dX6_goDays_320 : decode cX6_goDays 320 = .ok (.iconst 1, 1) := by decide +kernel
theorem dX6_goDays_321 : decode cX6_goDays 321 = .ok (.iadd, 1) := by decide +kernel
theorem dX6_goDays_322 : decode cX6_goDays 322 = .ok (.putfield 107, 3) := by decide +kernel
theorem dX6_goDays_325 : decode cX6_goDays 325 = .ok (.goto (-314), 3) := by decide +kernel
theorem dX6_goDays_328 : decode cX6_goDays 328 = .ok (.bipush (-6), 2) := by decide +kernel
theorem dX6_goDays_330 : decode cX6_goDays 330 = .ok (.ireturn, 1) := by decide +kernel
theorem dX6_goes_0 : decode cX6_goes 0 = .ok (.aload_n 0, 1) := by decide +kernel
theorem dX6_goes_1 : decode cX6_goes 1 = .ok (.iload_n 1, 1) := by decide +kernel
theorem dX6_goes_2 : decode cX6_goes 2 = .ok (.invokevirtual 90, 3) := by decide +kernel
theorem dX6_goes_5 : decode cX6_goes 5 = .ok (.ifCond .ne 5, 3) := by decide +kernel
theorem dX6_goes_8 : decode cX6_goes 8 = .ok (.iconst (-1), 1) := by decide +kernel
theorem dX6_goes_9 : decode cX6_goes 9 = .ok (.ireturn, 1) := by decide +kernel
theorem dX6_goes_10 : decode cX6_goes 10 = .ok (.iload_n 2, 1) := by decide +kernel
theorem dX6_goes_11 : decode cX6_goes 11 = .ok (.iconst 0, 1) := by decide +kernel
theorem dX6_goes_12 : decode cX6_goes 12 = .ok (.iconst 1, 1) := by decide +kernel
theorem dX6_goes_13 : decode cX6_goes 13 = .ok (.invokestatic 51, 3) := by decide +kernel
theorem dX6_goes_16 : decode cX6_goes 16 = .ok (.ifCond .ne 6, 3) := by decide +kernel
theorem dX6_goes_19 : decode cX6_goes 19 = .ok (.bipush (-2), 2) := by decide +kernel
theorem dX6_goes_21 : decode cX6_goes 21 = .ok (.ireturn, 1) := by decide +kernel
theorem dX6_goes_22 : decode cX6_goes 22 = .ok (.aload_n 0, 1) := by decide +kernel
theorem dX6_goes_23 : decode cX6_goes 23 = .ok (.invokevirtual 132, 3) := by decide +kernel
theorem dX6_goes_26 : decode cX6_goes 26 = .ok (.ifCond .ge 6, 3) := by decide +kernel
theorem dX6_goes_29 : decode cX6_goes 29 = .ok (.bipush (-5), 2) := by decide +kernel
theorem dX6_goes_31 : decode cX6_goes 31 = .ok (.ireturn, 1) := by decide +kernel
theorem dX6_goes_32 : decode cX6_goes 32 = .ok (.iload_n 2, 1) := by decide +kernel
theorem dX6_goes_33 : decode cX6_goes 33 = .ok (.ifCond .ne 15, 3) := by decide +kernel
theorem dX6_goes_36 : decode cX6_goes 36 = .ok (.aload_n 0, 1) := by decide +kernel
theorem dX6_goes_37 : decode cX6_goes 37 = .ok (.getfield 13, 3) := by decide +kernel
theorem dX6_goes_40 : decode cX6_goes 40 = .ok (.bipush 81, 2) := by decide +kernel
theorem dX6_goes_42 : decode cX6_goes 42 = .ok (.iload_n 1, 1) := by decide +kernel
theorem dX6_goes_43 : decode cX6_goes 43 = .ok (.iadd, 1) := by decide +kernel
theorem dX6_goes_44 : decode cX6_goes 44 = .ok (.iaload, 1) := by decide +kernel
theorem dX6_goes_45 : decode cX6_goes 45 = .ok (.goto 14, 3) := by decide +kernel
theorem dX6_goes_48 : decode cX6_goes 48 = .ok (.aload_n 0, 1) := by decide +kernel
theorem dX6_goes_49 : decode cX6_goes 49 = .ok (.getfield 13, 3) := by decide +kernel
theorem dX6_goes_52 : decode cX6_goes 52 = .ok (.bipush 87, 2) := by decide +kernel
theorem dX6_goes_54 : decode cX6_goes 54 = .ok (.iaload, 1) := by decide +kernel
theorem dX6_goes_55 : decode cX6_goes 55 = .ok (.iload_n 1, 1) := by decide +kernel
theorem dX6_goes_56 : decode cX6_goes 56 = .ok (.ishr, 1) := by decide +kernel
theorem dX6_goes_57 : decode cX6_goes 57 = .ok (.iconst 1, 1) := by decide +kernel
theorem dX6_goes_58 : decode cX6_goes 58 = .ok (.iand, 1) := by decide +kernel
theorem dX6_goes_59 : decode cX6_goes 59 = .ok (.ireturn, 1) := by decide +kernel
theorem dX6_has_0 : decode cX6_has 0 = .ok (.iload_n 0, 1) := by decide +kernel
theorem dX6_has_1 : decode cX6_has 1 = .ok (.iload_n 1, 1) := by decide +kernel
theorem dX6_has_2 : decode cX6_has 2 = .ok (.ishr, 1) := by decide +kernel
theorem dX6_has_3 : decode cX6_has 3 = .ok (.iconst 1, 1) := by decide +kernel
theorem dX6_has_4 : decode cX6_has 4 = .ok (.iand, 1) := by decide +kernel
theorem dX6_has_5 : decode cX6_has 5 = .ok (.iconst 1, 1) := by decide +kernel
theorem dX6_has_6 : decode cX6_has 6 = .ok (.if_icmp .ne 7, 3) := by decide +kernel
theorem dX6_has_9 : decode cX6_has 9 = .ok (.iconst 1, 1) := by decide +kernel
theorem dX6_has_10 : decode cX6_has 10 = .ok (.goto 4, 3) := by decide +kernel
theorem dX6_has_13 : decode cX6_has 13 = .ok (.iconst 0, 1) := by decide +kernel
theorem dX6_has_14 : decode cX6_has 14 = .ok (.ireturn, 1) := by decide +kernel
theorem dX6_image_0 : decode cX6_image 0 = .ok (.iload_n 1, 1) := by decide +kernel
theorem dX6_image_1 : decode cX6_image 1 = .ok (.iconst 0, 1) := by decide +kernel
theorem dX6_image_2 : decode cX6_image 2 = .ok (.iconst 1, 1) := by decide +kernel
theorem dX6_image_3 : decode cX6_image 3 = .ok (.invokestatic 51, 3) := by decide +kernel
theorem dX6_image_6 : decode cX6_image 6 = .ok (.ifCond .ne 6, 3) := by decide +kernel
theorem dX6_image_9 : decode cX6_image 9 = .ok (.bipush (-2), 2) := by decide +kernel
theorem dX6_image_11 : decode cX6_image 11 = .ok (.ireturn, 1) := by decide +kernel
theorem dX6_image_12 : decode cX6_image 12 = .ok (.bipush 120, 2) := by decide +kernel
theorem dX6_image_14 : decode cX6_image 14 = .ok (.iload_n 1, 1) := by decide +kernel
theorem dX6_image_15 : decode cX6_image 15 = .ok (.imul, 1) := by decide +kernel
theorem dX6_image_16 : decode cX6_image 16 = .ok (.istore_n 2, 1) := by decide +kernel
theorem dX6_image_17 : decode cX6_image 17 = .ok (.iconst 0, 1) := by decide +kernel
theorem dX6_image_18 : decode cX6_image 18 = .ok (.istore_n 3, 1) := by decide +kernel
theorem dX6_image_19 : decode cX6_image 19 = .ok (.iload_n 3, 1) := by decide +kernel
theorem dX6_image_20 : decode cX6_image 20 = .ok (.bipush 89, 2) := by decide +kernel
theorem dX6_image_22 : decode cX6_image 22 = .ok (.if_icmp .ge 23, 3) := by decide +kernel
theorem dX6_image_25 : decode cX6_image 25 = .ok (.aload_n 0, 1) := by decide +kernel
theorem dX6_image_26 : decode cX6_image 26 = .ok (.getfield 45, 3) := by decide +kernel
theorem dX6_image_29 : decode cX6_image 29 = .ok (.iload_n 2, 1) := by decide +kernel
theorem dX6_image_30 : decode cX6_image 30 = .ok (.iload_n 3, 1) := by decide +kernel
theorem dX6_image_31 : decode cX6_image 31 = .ok (.iadd, 1) := by decide +kernel
theorem dX6_image_32 : decode cX6_image 32 = .ok (.aload_n 0, 1) := by decide +kernel
theorem dX6_image_33 : decode cX6_image 33 = .ok (.getfield 7, 3) := by decide +kernel
theorem dX6_image_36 : decode cX6_image 36 = .ok (.iload_n 3, 1) := by decide +kernel
theorem dX6_image_37 : decode cX6_image 37 = .ok (.iaload, 1) := by decide +kernel
theorem dX6_image_38 : decode cX6_image 38 = .ok (.iastore, 1) := by decide +kernel
theorem dX6_image_39 : decode cX6_image 39 = .ok (.iinc 3 1, 3) := by decide +kernel
theorem dX6_image_42 : decode cX6_image 42 = .ok (.goto (-23), 3) := by decide +kernel
theorem dX6_image_45 : decode cX6_image 45 = .ok (.iconst 0, 1) := by decide +kernel
theorem dX6_image_46 : decode cX6_image 46 = .ok (.istore_n 3, 1) := by decide +kernel
theorem dX6_image_47 : decode cX6_image 47 = .ok (.iload_n 3, 1) := by decide +kernel
theorem dX6_image_48 : decode cX6_image 48 = .ok (.bipush 24, 2) := by decide +kernel
theorem dX6_image_50 : decode cX6_image 50 = .ok (.if_icmp .ge 26, 3) := by decide +kernel
theorem dX6_image_53 : decode cX6_image 53 = .ok (.aload_n 0, 1) := by decide +kernel
theorem dX6_image_54 : decode cX6_image 54 = .ok (.getfield 45, 3) := by decide +kernel
theorem dX6_image_57 : decode cX6_image 57 = .ok (.iload_n 2, 1) := by decide +kernel
theorem dX6_image_58 : decode cX6_image 58 = .ok (.bipush 89, 2) := by decide +kernel
theorem dX6_image_60 : decode cX6_image 60 = .ok (.iadd, 1) := by decide +kernel
theorem dX6_image_61 : decode cX6_image 61 = .ok (.iload_n 3, 1) := by decide +kernel
theorem dX6_image_62 : decode cX6_image 62 = .ok (.iadd, 1) := by decide +kernel
theorem dX6_image_63 : decode cX6_image 63 = .ok (.aload_n 0, 1) := by decide +kernel
theorem dX6_image_64 : decode cX6_image 64 = .ok (.getfield 16, 3) := by decide +kernel
theorem dX6_image_67 : decode cX6_image 67 = .ok (.iload_n 3, 1) := by decide +kernel
theorem dX6_image_68 : decode cX6_image 68 = .ok (.iaload, 1) := by decide +kernel
theorem dX6_image_69 : decode cX6_image 69 = .ok (.iastore, 1) := by decide +kernel
theorem dX6_image_70 : decode cX6_image 70 = .ok (.iinc 3 1, 3) := by decide +kernel
theorem dX6_image_73 : decode cX6_image 73 = .ok (.goto (-26), 3) := by decide +kernel
theorem dX6_image_76 : decode cX6_image 76 = .ok (.aload_n 0, 1) := by decide +kernel
theorem dX6_image_77 : decode cX6_image 77 = .ok (.getfield 45, 3) := by decide +kernel
theorem dX6_image_80 : decode cX6_image 80 = .ok (.iload_n 2, 1) := by decide +kernel
theorem dX6_image_81 : decode cX6_image 81 = .ok (.bipush 115, 2) := by decide +kernel
theorem dX6_image_83 : decode cX6_image 83 = .ok (.iadd, 1) := by decide +kernel
theorem dX6_image_84 : decode cX6_image 84 = .ok (.aload_n 0, 1) := by decide +kernel
theorem dX6_image_85 : decode cX6_image 85 = .ok (.getfield 55, 3) := by decide +kernel
theorem dX6_image_88 : decode cX6_image 88 = .ok (.iastore, 1) := by decide +kernel
theorem dX6_image_89 : decode cX6_image 89 = .ok (.aload_n 0, 1) := by decide +kernel
theorem dX6_image_90 : decode cX6_image 90 = .ok (.getfield 45, 3) := by decide +kernel
theorem dX6_image_93 : decode cX6_image 93 = .ok (.iload_n 2, 1) := by decide +kernel
theorem dX6_image_94 : decode cX6_image 94 = .ok (.bipush 116, 2) := by decide +kernel
theorem dX6_image_96 : decode cX6_image 96 = .ok (.iadd, 1) := by decide +kernel
theorem dX6_image_97 : decode cX6_image 97 = .ok (.aload_n 0, 1) := by decide +kernel
theorem dX6_image_98 : decode cX6_image 98 = .ok (.getfield 153, 3) := by decide +kernel
theorem dX6_image_101 : decode cX6_image 101 = .ok (.iastore, 1) := by decide +kernel
theorem dX6_image_102 : decode cX6_image 102 = .ok (.aload_n 0, 1) := by decide +kernel
theorem dX6_image_103 : decode cX6_image 103 = .ok (.getfield 48, 3) := by decide +kernel
theorem dX6_image_106 : decode cX6_image 106 = .ok (.iload_n 1, 1) := by decide +kernel
theorem dX6_image_107 : decode cX6_image 107 = .ok (.iconst 1, 1) := by decide +kernel
theorem dX6_image_108 : decode cX6_image 108 = .ok (.bastore, 1) := by decide +kernel
theorem dX6_image_109 : decode cX6_image 109 = .ok (.iconst 1, 1) := by decide +kernel
theorem dX6_image_110 : decode cX6_image 110 = .ok (.ireturn, 1) := by decide +kernel
theorem dX6_in_0 : decode cX6_in 0 = .ok (.iload_n 0, 1) := by decide +kernel
theorem dX6_in_1 : decode cX6_in 1 = .ok (.iload_n 1, 1) := by decide +kernel
theorem dX6_in_2 : decode cX6_in 2 = .ok (.if_icmp .lt 12, 3) := by decide +kernel
theorem dX6_in_5 : decode cX6_in 5 = .ok (.iload_n 0, 1) := by decide +kernel
theorem dX6_in_6 : decode cX6_in 6 = .ok (.iload_n 2, 1) := by decide +kernel
theorem dX6_in_7 : decode cX6_in 7 = .ok (.if_icmp .gt 7, 3) := by decide +kernel
theorem dX6_in_10 : decode cX6_in 10 = .ok (.iconst 1, 1) := by decide +kernel
theorem dX6_in_11 : decode cX6_in 11 = .ok (.goto 4, 3) := by decide +kernel
theorem dX6_in_14 : decode cX6_in 14 = .ok (.iconst 0, 1) := by decide +kernel
theorem dX6_in_15 : decode cX6_in 15 = .ok (.ireturn, 1) := by decide +kernel
theorem dX6_init_0 : decode cX6_init 0 = .ok (.aload_n 0, 1) := by decide +kernel
theorem dX6_init_1 : decode cX6_init 1 = .ok (.invokespecial 1, 3) := by decide +kernel
theorem dX6_init_4 : decode cX6_init 4 = .ok (.aload_n 0, 1) := by decide +kernel
theorem dX6_init_5 : decode cX6_init 5 = .ok (.bipush 89, 2) := by decide +kernel
theorem dX6_init_7 : decode cX6_init 7 = .ok (.newarray .int, 2) := by decide +kernel
theorem dX6_init_9 : decode cX6_init 9 = .ok (.putfield 7, 3) := by decide +kernel
theorem dX6_init_12 : decode cX6_init 12 = .ok (.aload_n 0, 1) := by decide +kernel
theorem dX6_init_13 : decode cX6_init 13 = .ok (.bipush 89, 2) := by decide +kernel
theorem dX6_init_15 : decode cX6_init 15 = .ok (.newarray .int, 2) := by decide +kernel
theorem dX6_init_17 : decode cX6_init 17 = .ok (.putfield 13, 3) := by decide +kernel
theorem dX6_init_20 : decode cX6_init 20 = .ok (.aload_n 0, 1) := by decide +kernel
theorem dX6_init_21 : decode cX6_init 21 = .ok (.bipush 24, 2) := by decide +kernel
theorem dX6_init_23 : decode cX6_init 23 = .ok (.newarray .int, 2) := by decide +kernel
theorem dX6_init_25 : decode cX6_init 25 = .ok (.putfield 16, 3) := by decide +kernel
theorem dX6_init_28 : decode cX6_init 28 = .ok (.aload_n 0, 1) := by decide +kernel
theorem dX6_init_29 : decode cX6_init 29 = .ok (.bipush 60, 2) := by decide +kernel
theorem dX6_init_31 : decode cX6_init 31 = .ok (.newarray .int, 2) := by decide +kernel
theorem dX6_init_33 : decode cX6_init 33 = .ok (.putfield 19, 3) := by decide +kernel
theorem dX6_init_36 : decode cX6_init 36 = .ok (.aload_n 0, 1) := by decide +kernel
theorem dX6_init_37 : decode cX6_init 37 = .ok (.bipush 9, 2) := by decide +kernel
theorem dX6_init_39 : decode cX6_init 39 = .ok (.newarray .int, 2) := by decide +kernel
theorem dX6_init_41 : decode cX6_init 41 = .ok (.putfield 22, 3) := by decide +kernel
theorem dX6_init_44 : decode cX6_init 44 = .ok (.aload_n 0, 1) := by decide +kernel
theorem dX6_init_45 : decode cX6_init 45 = .ok (.bipush 9, 2) := by decide +kernel
theorem dX6_init_47 : decode cX6_init 47 = .ok (.newarray .int, 2) := by decide +kernel
theorem dX6_init_49 : decode cX6_init 49 = .ok (.putfield 25, 3) := by decide +kernel
theorem dX6_init_52 : decode cX6_init 52 = .ok (.aload_n 0, 1) := by decide +kernel
theorem dX6_init_53 : decode cX6_init 53 = .ok (.iconst 4, 1) := by decide +kernel
theorem dX6_init_54 : decode cX6_init 54 = .ok (.newarray .int, 2) := by decide +kernel
theorem dX6_init_56 : decode cX6_init 56 = .ok (.putfield 28, 3) := by decide +kernel
theorem dX6_init_59 : decode cX6_init 59 = .ok (.aload_n 0, 1) := by decide +kernel
theorem dX6_init_60 : decode cX6_init 60 = .ok (.sipush 600, 3) := by decide +kernel
theorem dX6_init_63 : decode cX6_init 63 = .ok (.newarray .int, 2) := by decide +kernel
theorem dX6_init_65 : decode cX6_init 65 = .ok (.putfield 31, 3) := by decide +kernel
theorem dX6_init_68 : decode cX6_init 68 = .ok (.aload_n 0, 1) := by decide +kernel
theorem dX6_init_69 : decode cX6_init 69 = .ok (.sipush 1000, 3) := by decide +kernel
theorem dX6_init_72 : decode cX6_init 72 = .ok (.newarray .int, 2) := by decide +kernel
theorem dX6_init_74 : decode cX6_init 74 = .ok (.putfield 34, 3) := by decide +kernel
theorem dX6_init_77 : decode cX6_init 77 = .ok (.aload_n 0, 1) := by decide +kernel
theorem dX6_init_78 : decode cX6_init 78 = .ok (.bipush 100, 2) := by decide +kernel
theorem dX6_init_80 : decode cX6_init 80 = .ok (.newarray .boolean, 2) := by decide +kernel
theorem dX6_init_82 : decode cX6_init 82 = .ok (.putfield 37, 3) := by decide +kernel
theorem dX6_init_85 : decode cX6_init 85 = .ok (.aload_n 0, 1) := by decide +kernel
theorem dX6_init_86 : decode cX6_init 86 = .ok (.bipush 18, 2) := by decide +kernel
theorem dX6_init_88 : decode cX6_init 88 = .ok (.newarray .long, 2) := by decide +kernel
theorem dX6_init_90 : decode cX6_init 90 = .ok (.putfield 41, 3) := by decide +kernel
theorem dX6_init_93 : decode cX6_init 93 = .ok (.aload_n 0, 1) := by decide +kernel
theorem dX6_init_94 : decode cX6_init 94 = .ok (.sipush 240, 3) := by decide +kernel
theorem dX6_init_97 : decode cX6_init 97 = .ok (.newarray .int, 2) := by decide +kernel
theorem dX6_init_99 : decode cX6_init 99 = .ok (.putfield 45, 3) := by decide +kernel
theorem dX6_init_102 : decode cX6_init 102 = .ok (.aload_n 0, 1) := by decide +kernel
theorem dX6_init_103 : decode cX6_init 103 = .ok (.iconst 2, 1) := by decide +kernel
theorem dX6_init_104 : decode cX6_init 104 = .ok (.newarray .boolean, 2) := by decide +kernel
theorem dX6_init_106 : decode cX6_init 106 = .ok (.putfield 48, 3) := by decide +kernel
theorem dX6_init_109 : decode cX6_init 109 = .ok (.iconst 0, 1) := by decide +kernel
theorem dX6_init_110 : decode cX6_init 110 = .ok (.istore_n 1, 1) := by decide +kernel
theorem dX6_init_111 : decode cX6_init 111 = .ok (.iload_n 1, 1) := by decide +kernel
theorem dX6_init_112 : decode cX6_init 112 = .ok (.bipush 81, 2) := by decide +kernel
theorem dX6_init_114 : decode cX6_init 114 = .ok (.if_icmp .ge 17, 3) := by decide +kernel
theorem dX6_init_117 : decode cX6_init 117 = .ok (.aload_n 0, 1) := by decide +kernel
theorem dX6_init_118 : decode cX6_init 118 = .ok (.getfield 7, 3) := by decide +kernel
theorem dX6_init_121 : decode cX6_init 121 = .ok (.iload_n 1, 1) := by decide +kernel
theorem dX6_init_122 : decode cX6_init 122 = .ok (.bipush (-6), 2) := by decide +kernel
theorem dX6_init_124 : decode cX6_init 124 = .ok (.iastore, 1) := by decide +kernel
theorem dX6_init_125 : decode cX6_init 125 = .ok (.iinc 1 1, 3) := by decide +kernel
theorem dX6_init_128 : decode cX6_init 128 = .ok (.goto (-17), 3) := by decide +kernel
theorem dX6_init_131 : decode cX6_init 131 = .ok (.return_, 1) := by decide +kernel
theorem dX6_isFit_0 : decode cX6_isFit 0 = .ok (.iconst 1, 1) := by decide +kernel
theorem dX6_isFit_1 : decode cX6_isFit 1 = .ok (.istore_n 2, 1) := by decide +kernel
theorem dX6_isFit_2 : decode cX6_isFit 2 = .ok (.iconst 0, 1) := by decide +kernel
theorem dX6_isFit_3 : decode cX6_isFit 3 = .ok (.istore_n 3, 1) := by decide +kernel
theorem dX6_isFit_4 : decode cX6_isFit 4 = .ok (.iload_n 3, 1) := by decide +kernel
theorem dX6_isFit_5 : decode cX6_isFit 5 = .ok (.aload_n 0, 1) := by decide +kernel
theorem dX6_isFit_6 : decode cX6_isFit 6 = .ok (.getfield 153, 3) := by decide +kernel
theorem dX6_isFit_9 : decode cX6_isFit 9 = .ok (.if_icmp .ge 54, 3) := by decide +kernel
theorem dX6_isFit_12 : decode cX6_isFit 12 = .ok (.iload_n 2, 1) := by decide +kernel
theorem dX6_isFit_13 : decode cX6_isFit 13 = .ok (.ifCond .eq 50, 3) := by decide +kernel
theorem dX6_isFit_16 : decode cX6_isFit 16 = .ok (.iload_n 1, 1) := by decide +kernel
theorem dX6_isFit_17 : decode cX6_isFit 17 = .ok (.aload_n 0, 1) := by decide +kernel
theorem dX6_isFit_18 : decode cX6_isFit 18 = .ok (.getfield 16, 3) := by decide +kernel
theorem dX6_isFit_21 : decode cX6_isFit 21 = .ok (.iconst 3, 1) := by decide +kernel
theorem dX6_isFit_22 : decode cX6_isFit 22 = .ok (.iload_n 3, 1) := by decide +kernel
theorem dX6_isFit_23 : decode cX6_isFit 23 = .ok (.imul, 1) := by decide +kernel
theorem dX6_isFit_24 : decode cX6_isFit 24 = .ok (.iaload, 1) := by decide +kernel
theorem dX6_isFit_25 : decode cX6_isFit 25 = .ok (.aload_n 0, 1) := by decide +kernel
theorem dX6_isFit_26 : decode cX6_isFit 26 = .ok (.getfield 16, 3) := by decide +kernel
theorem dX6_isFit_29 : decode cX6_isFit 29 = .ok (.iconst 3, 1) := by decide +kernel
theorem dX6_isFit_30 : decode cX6_isFit 30 = .ok (.iload_n 3, 1) := by decide +kernel
theorem dX6_isFit_31 : decode cX6_isFit 31 = .ok (.imul, 1) := by decide +kernel
theorem dX6_isFit_32 : decode cX6_isFit 32 = .ok (.iconst 1, 1) := by decide +kernel
theorem dX6_isFit_33 : decode cX6_isFit 33 = .ok (.iadd, 1) := by decide +kernel
theorem dX6_isFit_34 : decode cX6_isFit 34 = .ok (.iaload, 1) := by decide +kernel
theorem dX6_isFit_35 : decode cX6_isFit 35 = .ok (.invokestatic 156, 3) := by decide +kernel
theorem dX6_isFit_38 : decode cX6_isFit 38 = .ok (.aload_n 0, 1) := by decide +kernel
theorem dX6_isFit_39 : decode cX6_isFit 39 = .ok (.getfield 16, 3) := by decide +kernel
theorem dX6_isFit_42 : decode cX6_isFit 42 = .ok (.iconst 3, 1) := by decide +kernel
theorem dX6_isFit_43 : decode cX6_isFit 43 = .ok (.iload_n 3, 1) := by decide +kernel
theorem dX6_isFit_44 : decode cX6_isFit 44 = .ok (.imul, 1) := by decide +kernel
theorem dX6_isFit_45 : decode cX6_isFit 45 = .ok (.iconst 2, 1) := by decide +kernel
theorem dX6_isFit_46 : decode cX6_isFit 46 = .ok (.iadd, 1) := by decide +kernel
theorem dX6_isFit_47 : decode cX6_isFit 47 = .ok (.iaload, 1) := by decide +kernel
theorem dX6_isFit_48 : decode cX6_isFit 48 = .ok (.if_icmp .ne 7, 3) := by decide +kernel
theorem dX6_isFit_51 : decode cX6_isFit 51 = .ok (.iconst 1, 1) := by decide +kernel
theorem dX6_isFit_52 : decode cX6_isFit 52 = .ok (.goto 4, 3) := by decide +kernel
theorem dX6_isFit_55 : decode cX6_isFit 55 = .ok (.iconst 0, 1) := by decide +kernel
theorem dX6_isFit_56 : decode cX6_isFit 56 = .ok (.istore_n 2, 1) := by decide +kernel
theorem dX6_isFit_57 : decode cX6_isFit 57 = .ok (.iinc 3 1, 3) := by decide +kernel
theorem dX6_isFit_60 : decode cX6_isFit 60 = .ok (.goto (-56), 3) := by decide +kernel
theorem dX6_isFit_63 : decode cX6_isFit 63 = .ok (.iload_n 2, 1) := by decide +kernel
theorem dX6_isFit_64 : decode cX6_isFit 64 = .ok (.ireturn, 1) := by decide +kernel
theorem dX6_isOpen_0 : decode cX6_isOpen 0 = .ok (.aload_n 0, 1) := by decide +kernel
theorem dX6_isOpen_1 : decode cX6_isOpen 1 = .ok (.getfield 13, 3) := by decide +kernel
theorem dX6_isOpen_4 : decode cX6_isOpen 4 = .ok (.bipush 9, 2) := by decide +kernel
theorem dX6_isOpen_6 : decode cX6_isOpen 6 = .ok (.iload_n 1, 1) := by decide +kernel
theorem dX6_isOpen_7 : decode cX6_isOpen 7 = .ok (.imul, 1) := by decide +kernel
theorem dX6_isOpen_8 : decode cX6_isOpen 8 = .ok (.iload_n 2, 1) := by decide +kernel
theorem dX6_isOpen_9 : decode cX6_isOpen 9 = .ok (.iadd, 1) := by decide +kernel
theorem dX6_isOpen_10 : decode cX6_isOpen 10 = .ok (.iaload, 1) := by decide +kernel
theorem dX6_isOpen_11 : decode cX6_isOpen 11 = .ok (.iconst 0, 1) := by decide +kernel
theorem dX6_isOpen_12 : decode cX6_isOpen 12 = .ok (.bipush 8, 2) := by decide +kernel
theorem dX6_isOpen_14 : decode cX6_isOpen 14 = .ok (.invokestatic 51, 3) := by decide +kernel
theorem dX6_isOpen_17 : decode cX6_isOpen 17 = .ok (.ireturn, 1) := by decide +kernel
theorem dX6_isPlace_0 : decode cX6_isPlace 0 = .ok (.iload_n 0, 1) := by decide +kernel
theorem dX6_isPlace_1 : decode cX6_isPlace 1 = .ok (.iconst 0, 1) := by decide +kernel
theorem dX6_isPlace_2 : decode cX6_isPlace 2 = .ok (.bipush 8, 2) := by decide +kernel
theorem dX6_isPlace_4 : decode cX6_isPlace 4 = .ok (.invokestatic 51, 3) := by decide +kernel
theorem dX6_isPlace_7 : decode cX6_isPlace 7 = .ok (.ireturn, 1) := by decide +kernel
theorem dX6_isThere_0 : decode cX6_isThere 0 = .ok (.iload_n 1, 1) := by decide +kernel
theorem dX6_isThere_1 : decode cX6_isThere 1 = .ok (.iconst 0, 1) := by decide +kernel
theorem dX6_isThere_2 : decode cX6_isThere 2 = .ok (.iconst 5, 1) := by decide +kernel
theorem dX6_isThere_3 : decode cX6_isThere 3 = .ok (.invokestatic 51, 3) := by decide +kernel
theorem dX6_isThere_6 : decode cX6_isThere 6 = .ok (.ifCond .eq 18, 3) := by decide +kernel
theorem dX6_isThere_9 : decode cX6_isThere 9 = .ok (.aload_n 0, 1) := by decide +kernel
theorem dX6_isThere_10 : decode cX6_isThere 10 = .ok (.getfield 55, 3) := by decide +kernel
theorem dX6_isThere_13 : decode cX6_isThere 13 = .ok (.iload_n 1, 1) := by decide +kernel
theorem dX6_isThere_14 : decode cX6_isThere 14 = .ok (.invokestatic 59, 3) := by decide +kernel
theorem dX6_isThere_17 : decode cX6_isThere 17 = .ok (.ifCond .eq 7, 3) := by decide +kernel
theorem dX6_isThere_20 : decode cX6_isThere 20 = .ok (.iconst 1, 1) := by decide +kernel
theorem dX6_isThere_21 : decode cX6_isThere 21 = .ok (.goto 4, 3) := by decide +kernel
theorem dX6_isThere_24 : decode cX6_isThere 24 = .ok (.iconst 0, 1) := by decide +kernel
theorem dX6_isThere_25 : decode cX6_isThere 25 = .ok (.ireturn, 1) := by decide +kernel
theorem dX6_judge_0 : decode cX6_judge 0 = .ok (.iload_n 1, 1) := by decide +kernel
theorem dX6_judge_1 : decode cX6_judge 1 = .ok (.iconst 0, 1) := by decide +kernel
theorem dX6_judge_2 : decode cX6_judge 2 = .ok (.iconst 1, 1) := by decide +kernel
theorem dX6_judge_3 : decode cX6_judge 3 = .ok (.invokestatic 51, 3) := by decide +kernel
theorem dX6_judge_6 : decode cX6_judge 6 = .ok (.ifCond .ne 6, 3) := by decide +kernel
theorem dX6_judge_9 : decode cX6_judge 9 = .ok (.bipush (-2), 2) := by decide +kernel
theorem dX6_judge_11 : decode cX6_judge 11 = .ok (.ireturn, 1) := by decide +kernel
theorem dX6_judge_12 : decode cX6_judge 12 = .ok (.aload_n 0, 1) := by decide +kernel
theorem dX6_judge_13 : decode cX6_judge 13 = .ok (.invokevirtual 81, 3) := by decide +kernel
theorem dX6_judge_16 : decode cX6_judge 16 = .ok (.ifCond .lt 6, 3) := by decide +kernel
theorem dX6_judge_19 : decode cX6_judge 19 = .ok (.bipush (-5), 2) := by decide +kernel
theorem dX6_judge_21 : decode cX6_judge 21 = .ok (.ireturn, 1) := by decide +kernel
theorem dX6_judge_22 : decode cX6_judge 22 = .ok (.aload_n 0, 1) := by decide +kernel
theorem dX6_judge_23 : decode cX6_judge 23 = .ok (.invokevirtual 129, 3) := by decide +kernel
theorem dX6_judge_26 : decode cX6_judge 26 = .ok (.istore_n 2, 1) := by decide +kernel
theorem dX6_judge_27 : decode cX6_judge 27 = .ok (.iload_n 2, 1) := by decide +kernel
theorem dX6_judge_28 : decode cX6_judge 28 = .ok (.ifCond .lt 7, 3) := by decide +kernel
theorem dX6_judge_31 : decode cX6_judge 31 = .ok (.iload_n 1, 1) := by decide +kernel
theorem dX6_judge_32 : decode cX6_judge 32 = .ok (.ifCond .ne 7, 3) := by decide +kernel
theorem dX6_judge_35 : decode cX6_judge 35 = .ok (.iload_n 2, 1) := by decide +kernel
theorem dX6_judge_36 : decode cX6_judge 36 = .ok (.goto 7, 3) := by decide +kernel
theorem dX6_judge_39 : decode cX6_judge 39 = .ok (.aload_n 0, 1) := by decide +kernel
theorem dX6_judge_40 : decode cX6_judge 40 = .ok (.getfield 113, 3) := by decide +kernel
theorem dX6_judge_43 : decode cX6_judge 43 = .ok (.ireturn, 1) := by decide +kernel
theorem dX6_lay_0 : decode cX6_lay 0 = .ok (.aload_n 0, 1) := by decide +kernel
theorem dX6_lay_1 : decode cX6_lay 1 = .ok (.getfield 13, 3) := by decide +kernel
theorem dX6_lay_4 : decode cX6_lay 4 = .ok (.bipush 9, 2) := by decide +kernel
theorem dX6_lay_6 : decode cX6_lay 6 = .ok (.iload_n 1, 1) := by decide +kernel
theorem dX6_lay_7 : decode cX6_lay 7 = .ok (.imul, 1) := by decide +kernel
theorem dX6_lay_8 : decode cX6_lay 8 = .ok (.iload_n 2, 1) := by decide +kernel
theorem dX6_lay_9 : decode cX6_lay 9 = .ok (.iadd, 1) := by decide +kernel
theorem dX6_lay_10 : decode cX6_lay 10 = .ok (.iload_n 3, 1) := by decide +kernel
theorem dX6_lay_11 : decode cX6_lay 11 = .ok (.iastore, 1) := by decide +kernel
theorem dX6_lay_12 : decode cX6_lay 12 = .ok (.aload_n 0, 1) := by decide +kernel
theorem dX6_lay_13 : decode cX6_lay 13 = .ok (.getfield 13, 3) := by decide +kernel
theorem dX6_lay_16 : decode cX6_lay 16 = .ok (.bipush 9, 2) := by decide +kernel
theorem dX6_lay_18 : decode cX6_lay 18 = .ok (.iload_n 2, 1) := by decide +kernel
theorem dX6_lay_19 : decode cX6_lay 19 = .ok (.imul, 1) := by decide +kernel
theorem dX6_lay_20 : decode cX6_lay 20 = .ok (.iload_n 1, 1) := by decide +kernel
theorem dX6_lay_21 : decode cX6_lay 21 = .ok (.iadd, 1) := by decide +kernel
theorem dX6_lay_22 : decode cX6_lay 22 = .ok (.iload_n 3, 1) := by decide +kernel
theorem dX6_lay_23 : decode cX6_lay 23 = .ok (.iastore, 1) := by decide +kernel
theorem dX6_lay_24 : decode cX6_lay 24 = .ok (.return_, 1) := by decide +kernel
theorem dX6_lowest_0 : decode cX6_lowest 0 = .ok (.lload_n 0, 1) := by decide +kernel
theorem dX6_lowest_1 : decode cX6_lowest 1 = .ok (.lstore 5, 2) := by decide +kernel
theorem dX6_lowest_3 : decode cX6_lowest 3 = .ok (.lload_n 2, 1) := by decide +kernel
theorem dX6_lowest_4 : decode cX6_lowest 4 = .ok (.lstore 7, 2) := by decide +kernel
theorem dX6_lowest_6 : decode cX6_lowest 6 = .ok (.lload 7, 2) := by decide +kernel
theorem dX6_lowest_8 : decode cX6_lowest 8 = .ok (.lconst 0, 1) := by decide +kernel
theorem dX6_lowest_9 : decode cX6_lowest 9 = .ok (.lcmp, 1) := by decide +kernel
theorem dX6_lowest_10 : decode cX6_lowest 10 = .ok (.ifCond .eq 21, 3) := by decide +kernel
theorem dX6_lowest_13 : decode cX6_lowest 13 = .ok (.lload 5, 2) := by decide +kernel
theorem dX6_lowest_15 : decode cX6_lowest 15 = .ok (.lload 7, 2) := by decide +kernel
theorem dX6_lowest_17 : decode cX6_lowest 17 = .ok (.lrem, 1) := by decide +kernel
theorem dX6_lowest_18 : decode cX6_lowest 18 = .ok (.lstore 9, 2) := by decide +kernel
theorem dX6_lowest_20 : decode cX6_lowest 20 = .ok (.lload 7, 2) := by decide +kernel
theorem dX6_lowest_22 : decode cX6_lowest 22 = .ok (.lstore 5, 2) := by decide +kernel
theorem dX6_lowest_24 : decode cX6_lowest 24 = .ok (.lload 9, 2) := by decide +kernel
theorem dX6_lowest_26 : decode cX6_lowest 26 = .ok (.lstore 7, 2) := by decide +kernel
theorem dX6_lowest_28 : decode cX6_lowest 28 = .ok (.goto (-22), 3) := by decide +kernel
theorem dX6_lowest_31 : decode cX6_lowest 31 = .ok (.iload 4, 2) := by decide +kernel
theorem dX6_lowest_33 : decode cX6_lowest 33 = .ok (.ifCond .ne 10, 3) := by decide +kernel
theorem dX6_lowest_36 : decode cX6_lowest 36 = .ok (.lload_n 0, 1) := by decide +kernel
theorem dX6_lowest_37 : decode cX6_lowest 37 = .ok (.lload 5, 2) := by decide +kernel
theorem dX6_lowest_39 : decode cX6_lowest 39 = .ok (.ldiv, 1) := by decide +kernel
theorem dX6_lowest_40 : decode cX6_lowest 40 = .ok (.goto 7, 3) := by decide +kernel
theorem dX6_lowest_43 : decode cX6_lowest 43 = .ok (.lload_n 2, 1) := by decide +kernel
theorem dX6_lowest_44 : decode cX6_lowest 44 = .ok (.lload 5, 2) := by decide +kernel
theorem dX6_lowest_46 : decode cX6_lowest 46 = .ok (.ldiv, 1) := by decide +kernel
theorem dX6_lowest_47 : decode cX6_lowest 47 = .ok (.lreturn, 1) := by decide +kernel
theorem dX6_mended_0 : decode cX6_mended 0 = .ok (.iload_n 2, 1) := by decide +kernel
theorem dX6_mended_1 : decode cX6_mended 1 = .ok (.iconst 1, 1) := by decide +kernel
theorem dX6_mended_2 : decode cX6_mended 2 = .ok (.bipush 8, 2) := by decide +kernel
theorem dX6_mended_4 : decode cX6_mended 4 = .ok (.invokestatic 51, 3) := by decide +kernel
theorem dX6_mended_7 : decode cX6_mended 7 = .ok (.ifCond .eq 20, 3) := by decide +kernel
theorem dX6_mended_10 : decode cX6_mended 10 = .ok (.iload_n 1, 1) := by decide +kernel
theorem dX6_mended_11 : decode cX6_mended 11 = .ok (.ifCond .le 16, 3) := by decide +kernel
theorem dX6_mended_14 : decode cX6_mended 14 = .ok (.iload_n 3, 1) := by decide +kernel
theorem dX6_mended_15 : decode cX6_mended 15 = .ok (.iconst 1, 1) := by decide +kernel
theorem dX6_mended_16 : decode cX6_mended 16 = .ok (.iconst 4, 1) := by decide +kernel
theorem dX6_mended_17 : decode cX6_mended 17 = .ok (.invokestatic 51, 3) := by decide +kernel
theorem dX6_mended_20 : decode cX6_mended 20 = .ok (.ifCond .eq 7, 3) := by decide +kernel
theorem dX6_mended_23 : decode cX6_mended 23 = .ok (.iconst 1, 1) := by decide +kernel
theorem dX6_mended_24 : decode cX6_mended 24 = .ok (.goto 4, 3) := by decide +kernel
theorem dX6_mended_27 : decode cX6_mended 27 = .ok (.iconst 0, 1) := by decide +kernel
theorem dX6_mended_28 : decode cX6_mended 28 = .ok (.istore 4, 2) := by decide +kernel
theorem dX6_mended_30 : decode cX6_mended 30 = .ok (.iload_n 1, 1) := by decide +kernel
theorem dX6_mended_31 : decode cX6_mended 31 = .ok (.istore 5, 2) := by decide +kernel
theorem dX6_mended_33 : decode cX6_mended 33 = .ok (.iconst 0, 1) := by decide +kernel
theorem dX6_mended_34 : decode cX6_mended 34 = .ok (.istore 6, 2) := by decide +kernel
theorem dX6_mended_36 : decode cX6_mended 36 = .ok (.iload 6, 2) := by decide +kernel
theorem dX6_mended_38 : decode cX6_mended 38 = .ok (.iload_n 2, 1) := by decide +kernel
theorem dX6_mended_39 : decode cX6_mended 39 = .ok (.if_icmp .ge 50, 3) := by decide +kernel
theorem dX6_mended_42 : decode cX6_mended 42 = .ok (.iload 4, 2) := by decide +kernel
theorem dX6_mended_44 : decode cX6_mended 44 = .ok (.ifCond .eq 45, 3) := by decide +kernel
theorem dX6_mended_47 : decode cX6_mended 47 = .ok (.aload_n 0, 1) := by decide +kernel
theorem dX6_mended_48 : decode cX6_mended 48 = .ok (.getfield 25, 3) := by decide +kernel
theorem dX6_mended_51 : decode cX6_mended 51 = .ok (.iload 6, 2) := by decide +kernel
theorem dX6_mended_53 : decode cX6_mended 53 = .ok (.iload 5, 2) := by decide +kernel
theorem dX6_mended_55 : decode cX6_mended 55 = .ok (.bipush 10, 2) := by decide +kernel
theorem dX6_mended_57 : decode cX6_mended 57 = .ok (.irem, 1) := by decide +kernel
theorem dX6_mended_58 : decode cX6_mended 58 = .ok (.iastore, 1) := by decide +kernel
theorem dX6_mended_59 : decode cX6_mended 59 = .ok (.aload_n 0, 1) := by decide +kernel
theorem dX6_mended_60 : decode cX6_mended 60 = .ok (.getfield 25, 3) := by decide +kernel
theorem dX6_mended_63 : decode cX6_mended 63 = .ok (.iload 6, 2) := by decide +kernel
theorem dX6_mended_65 : decode cX6_mended 65 = .ok (.iaload, 1) := by decide +kernel
theorem dX6_mended_66 : decode cX6_mended 66 = .ok (.ifCond .le 7, 3) := by decide +kernel
theorem dX6_mended_69 : decode cX6_mended 69 = .ok (.iconst 1, 1) := by decide +kernel
theorem dX6_mended_70 : decode cX6_mended 70 = .ok (.goto 4, 3) := by decide +kernel
theorem dX6_mended_73 : decode cX6_mended 73 = .ok (.iconst 0, 1) := by decide +kernel
theorem dX6_mended_74 : decode cX6_mended 74 = .ok (.istore 4, 2) := by decide +kernel
theorem dX6_mended_76 : decode cX6_mended 76 = .ok (.iload 5, 2) := by decide +kernel
theorem dX6_mended_78 : decode cX6_mended 78 = .ok (.bipush 10, 2) := by decide +kernel
theorem dX6_mended_80 : decode cX6_mended 80 = .ok (.idiv, 1) := by decide +kernel
theorem dX6_mended_81 : decode cX6_mended 81 = .ok (.istore 5, 2) := by decide +kernel
theorem dX6_mended_83 : decode cX6_mended 83 = .ok (.iinc 6 1, 3) := by decide +kernel
theorem dX6_mended_86 : decode cX6_mended 86 = .ok (.goto (-50), 3) := by decide +kernel
theorem dX6_mended_89 : decode cX6_mended 89 = .ok (.iload 4, 2) := by decide +kernel
theorem dX6_mended_91 : decode cX6_mended 91 = .ok (.ifCond .eq 8, 3) := by decide +kernel
theorem dX6_mended_94 : decode cX6_mended 94 = .ok (.iload 5, 2) := by decide +kernel
theorem dX6_mended_96 : decode cX6_mended 96 = .ok (.ifCond .eq 6, 3) := by decide +kernel
theorem dX6_mended_99 : decode cX6_mended 99 = .ok (.bipush (-2), 2) := by decide +kernel
theorem dX6_mended_101 : decode cX6_mended 101 = .ok (.ireturn, 1) := by decide +kernel
theorem dX6_mended_102 : decode cX6_mended 102 = .ok (.iconst 1, 1) := by decide +kernel
theorem dX6_mended_103 : decode cX6_mended 103 = .ok (.istore 6, 2) := by decide +kernel
theorem dX6_mended_105 : decode cX6_mended 105 = .ok (.iconst 0, 1) := by decide +kernel
theorem dX6_mended_106 : decode cX6_mended 106 = .ok (.istore 7, 2) := by decide +kernel
theorem dX6_mended_108 : decode cX6_mended 108 = .ok (.iload 7, 2) := by decide +kernel
theorem dX6_mended_110 : decode cX6_mended 110 = .ok (.iload_n 2, 1) := by decide +kernel
theorem dX6_mended_111 : decode cX6_mended 111 = .ok (.if_icmp .ge 15, 3) := by decide +kernel
theorem dX6_mended_114 : decode cX6_mended 114 = .ok (.iload 6, 2) := by decide +kernel
theorem dX6_mended_116 : decode cX6_mended 116 = .ok (.iload_n 3, 1) := by decide +kernel
theorem dX6_mended_117 : decode cX6_mended 117 = .ok (.imul, 1) := by decide +kernel
theorem dX6_mended_118 : decode cX6_mended 118 = .ok (.istore 6, 2) := by decide +kernel
theorem dX6_mended_120 : decode cX6_mended 120 = .ok (.iinc 7 1, 3) := by decide +kernel
theorem dX6_mended_123 : decode cX6_mended 123 = .ok (.goto (-15), 3) := by decide +kernel
theorem dX6_mended_126 : decode cX6_mended 126 = .ok (.ldc 141, 2) := by decide +kernel
theorem dX6_mended_128 : decode cX6_mended 128 = .ok (.istore 7, 2) := by decide +kernel
theorem dX6_mended_130 : decode cX6_mended 130 = .ok (.iconst 0, 1) := by decide +kernel
theorem dX6_mended_131 : decode cX6_mended 131 = .ok (.istore 8, 2) := by decide +kernel
theorem dX6_mended_133 : decode cX6_mended 133 = .ok (.iload 8, 2) := by decide +kernel
theorem dX6_mended_135 : decode cX6_mended 135 = .ok (.iload 6, 2) := by decide +kernel
theorem dX6_mended_137 : decode cX6_mended 137 = .ok (.if_icmp .ge 125, 3) := by decide +kernel
theorem dX6_mended_140 : decode cX6_mended 140 = .ok (.iload 8, 2) := by decide +kernel
theorem dX6_mended_142 : decode cX6_mended 142 = .ok (.istore 9, 2) := by decide +kernel
theorem dX6_mended_144 : decode cX6_mended 144 = .ok (.iconst 0, 1) := by decide +kernel
theorem dX6_mended_145 : decode cX6_mended 145 = .ok (.istore 10, 2) := by decide +kernel
theorem dX6_mended_147 : decode cX6_mended 147 = .ok (.iconst 0, 1) := by decide +kernel
theorem dX6_mended_148 : decode cX6_mended 148 = .ok (.istore 11, 2) := by decide +kernel
theorem dX6_mended_150 : decode cX6_mended 150 = .ok (.iload 11, 2) := by decide +kernel
theorem dX6_mended_152 : decode cX6_mended 152 = .ok (.iconst 4, 1) := by decide +kernel
theorem dX6_mended_153 : decode cX6_mended 153 = .ok (.if_icmp .ge 17, 3) := by decide +kernel
theorem dX6_mended_156 : decode cX6_mended 156 = .ok (.aload_n 0, 1) := by decide +kernel
theorem dX6_mended_157 : decode cX6_mended 157 = .ok (.getfield 28, 3) := by decide +kernel
theorem dX6_mended_160 : decode cX6_mended 160 = .ok (.iload 11, 2) := by decide +kernel
theorem dX6_mended_162 : decode cX6_mended 162 = .ok (.iconst 0, 1) := by decide +kernel
theorem dX6_mended_163 : decode cX6_mended 163 = .ok (.iastore, 1) := by decide +kernel
theorem dX6_mended_164 : decode cX6_mended 164 = .ok (.iinc 11 1, 3) := by decide +kernel
theorem dX6_mended_167 : decode cX6_mended 167 = .ok (.goto (-17), 3) := by decide +kernel
theorem dX6_mended_170 : decode cX6_mended 170 = .ok (.iconst 0, 1) := by decide +kernel
theorem dX6_mended_171 : decode cX6_mended 171 = .ok (.istore 11, 2) := by decide +kernel
theorem dX6_mended_173 : decode cX6_mended 173 = .ok (.iload 11, 2) := by decide +kernel
theorem dX6_mended_175 : decode cX6_mended 175 = .ok (.iload_n 2, 1) := by decide +kernel
theorem dX6_mended_176 : decode cX6_mended 176 = .ok (.if_icmp .ge 64, 3) := by decide +kernel
theorem dX6_mended_179 : decode cX6_mended 179 = .ok (.aload_n 0, 1) := by decide +kernel
theorem dX6_mended_180 : decode cX6_mended 180 = .ok (.getfield 28, 3) := by decide +kernel
theorem dX6_mended_183 : decode cX6_mended 183 = .ok (.iload 9, 2) := by decide +kernel
theorem dX6_mended_185 : decode cX6_mended 185 = .ok (.iload_n 3, 1) := by decide +kernel
theorem dX6_mended_186 : decode cX6_mended 186 = .ok (.irem, 1) := by decide +kernel
theorem dX6_mended_187 : decode cX6_mended 187 = .ok (.dup2, 1) := by decide +kernel
theorem dX6_mended_188 : decode cX6_mended 188 = .ok (.iaload, 1) := by decide +kernel
theorem dX6_mended_189 : decode cX6_mended 189 = .ok (.aload_n 0, 1) := by decide +kernel
theorem dX6_mended_190 : decode cX6_mended 190 = .ok (.getfield 25, 3) := by decide +kernel
theorem dX6_mended_193 : decode cX6_mended 193 = .ok (.iload 11, 2) := by decide +kernel
theorem dX6_mended_195 : decode cX6_mended 195 = .ok (.iaload, 1) := by decide +kernel
theorem dX6_mended_196 : decode cX6_mended 196 = .ok (.iadd, 1) := by decide +kernel
theorem dX6_mended_197 : decode cX6_mended 197 = .ok (.iastore, 1) := by decide +kernel
theorem dX6_mended_198 : decode cX6_mended 198 = .ok (.aload_n 0, 1) := by decide +kernel
theorem dX6_mended_199 : decode cX6_mended 199 = .ok (.getfield 28, 3) := by decide +kernel
theorem dX6_mended_202 : decode cX6_mended 202 = .ok (.iload 9, 2) := by decide +kernel
theorem dX6_mended_204 : decode cX6_mended 204 = .ok (.iload_n 3, 1) := by decide +kernel
theorem dX6_mended_205 : decode cX6_mended 205 = .ok (.irem, 1) := by decide +kernel
theorem dX6_mended_206 : decode cX6_mended 206 = .ok (.iaload, 1) := by decide +kernel
theorem dX6_mended_207 : decode cX6_mended 207 = .ok (.iload 10, 2) := by decide +kernel
theorem dX6_mended_209 : decode cX6_mended 209 = .ok (.if_icmp .le 15, 3) := by decide +kernel
theorem dX6_mended_212 : decode cX6_mended 212 = .ok (.aload_n 0, 1) := by decide +kernel
theorem dX6_mended_213 : decode cX6_mended 213 = .ok (.getfield 28, 3) := by decide +kernel
theorem dX6_mended_216 : decode cX6_mended 216 = .ok (.iload 9, 2) := by decide +kernel
theorem dX6_mended_218 : decode cX6_mended 218 = .ok (.iload_n 3, 1) := by decide +kernel
theorem dX6_mended_219 : decode cX6_mended 219 = .ok (.irem, 1) := by decide +kernel
theorem dX6_mended_220 : decode cX6_mended 220 = .ok (.iaload, 1) := by decide +kernel
theorem dX6_mended_221 : decode cX6_mended 221 = .ok (.goto 5, 3) := by decide +kernel
theorem dX6_mended_224 : decode cX6_mended 224 = .ok (.iload 10, 2) := by decide +kernel
theorem dX6_mended_226 : decode cX6_mended 226 = .ok (.istore 10, 2) := by decide +kernel
theorem dX6_mended_228 : decode cX6_mended 228 = .ok (.iload 9, 2) := by decide +kernel
theorem dX6_mended_230 : decode cX6_mended 230 = .ok (.iload_n 3, 1) := by decide +kernel
theorem dX6_mended_231 : decode cX6_mended 231 = .ok (.idiv, 1) := by decide +kernel
theorem dX6_mended_232 : decode cX6_mended 232 = .ok (.istore 9, 2) := by decide +kernel
theorem dX6_mended_234 : decode cX6_mended 234 = .ok (.iinc 11 1, 3) := by decide +kernel
theorem dX6_mended_237 : decode cX6_mended 237 = .ok (.goto (-64), 3) := by decide +kernel
theorem dX6_mended_240 : decode cX6_mended 240 = .ok (.iload 10, 2) := by decide +kernel
theorem dX6_mended_242 : decode cX6_mended 242 = .ok (.iload 7, 2) := by decide +kernel
theorem dX6_mended_244 : decode cX6_mended 244 = .ok (.if_icmp .ge 8, 3) := by decide +kernel
theorem dX6_mended_247 : decode cX6_mended 247 = .ok (.iload 10, 2) := by decide +kernel
theorem dX6_mended_249 : decode cX6_mended 249 = .ok (.goto 5, 3) := by decide +kernel
theorem dX6_mended_252 : decode cX6_mended 252 = .ok (.iload 7, 2) := by decide +kernel
theorem dX6_mended_254 : decode cX6_mended 254 = .ok (.istore 7, 2) := by decide +kernel
theorem dX6_mended_256 : decode cX6_mended 256 = .ok (.iinc 8 1, 3) := by decide +kernel
theorem dX6_mended_259 : decode cX6_mended 259 = .ok (.goto (-126), 3) := by decide +kernel
theorem dX6_mended_262 : decode cX6_mended 262 = .ok (.iload 7, 2) := by decide +kernel
theorem dX6_mended_264 : decode cX6_mended 264 = .ok (.ireturn, 1) := by decide +kernel
theorem dX6_openFrom_0 : decode cX6_openFrom 0 = .ok (.iconst 0, 1) := by decide +kernel
theorem dX6_openFrom_1 : decode cX6_openFrom 1 = .ok (.istore_n 2, 1) := by decide +kernel
theorem dX6_openFrom_2 : decode cX6_openFrom 2 = .ok (.iconst 0, 1) := by decide +kernel
theorem dX6_openFrom_3 : decode cX6_openFrom 3 = .ok (.istore_n 3, 1) := by decide +kernel
theorem dX6_openFrom_4 : decode cX6_openFrom 4 = .ok (.iload_n 3, 1) := by decide +kernel
theorem dX6_openFrom_5 : decode cX6_openFrom 5 = .ok (.bipush 9, 2) := by decide +kernel
theorem dX6_openFrom_7 : decode cX6_openFrom 7 = .ok (.if_icmp .ge 28, 3) := by decide +kernel
theorem dX6_openFrom_10 : decode cX6_openFrom 10 = .ok (.iload_n 2, 1) := by decide +kernel
theorem dX6_openFrom_11 : decode cX6_openFrom 11 = .ok (.aload_n 0, 1) := by decide +kernel
theorem dX6_openFrom_12 : decode cX6_openFrom 12 = .ok (.iload_n 1, 1) := by decide +kernel
theorem dX6_openFrom_13 : decode cX6_openFrom 13 = .ok (.iload_n 3, 1) := by decide +kernel
theorem dX6_openFrom_14 : decode cX6_openFrom 14 = .ok (.invokevirtual 101, 3) := by decide +kernel
theorem dX6_openFrom_17 : decode cX6_openFrom 17 = .ok (.ifCond .eq 9, 3) := by decide +kernel
theorem dX6_openFrom_20 : decode cX6_openFrom 20 = .ok (.iconst 1, 1) := by decide +kernel
theorem dX6_openFrom_21 : decode cX6_openFrom 21 = .ok (.iload_n 3, 1) := by decide +kernel
theorem dX6_openFrom_22 : decode cX6_openFrom 22 = .ok (.ishl, 1) := by decide +kernel
theorem dX6_openFrom_23 : decode cX6_openFrom 23 = .ok (.goto 4, 3) := by decide +kernel
theorem dX6_openFrom_26 : decode cX6_openFrom 26 = .ok (.iconst 0, 1) := by decide +kernel
theorem dX6_openFrom_27 : decode cX6_openFrom 27 = .ok (.ior, 1) := by decide +kernel
theorem dX6_openFrom_28 : decode cX6_openFrom 28 = .ok (.istore_n 2, 1) := by decide +kernel
theorem dX6_openFrom_29 : decode cX6_openFrom 29 = .ok (.iinc 3 1, 3) := by decide +kernel
theorem dX6_openFrom_32 : decode cX6_openFrom 32 = .ok (.goto (-28), 3) := by decide +kernel
theorem dX6_openFrom_35 : decode cX6_openFrom 35 = .ok (.iload_n 2, 1) := by decide +kernel
theorem dX6_openFrom_36 : decode cX6_openFrom 36 = .ok (.ireturn, 1) := by decide +kernel
theorem dX6_partOf_0 : decode cX6_partOf 0 = .ok (.iconst 1, 1) := by decide +kernel
theorem dX6_partOf_1 : decode cX6_partOf 1 = .ok (.iload_n 1, 1) := by decide +kernel
theorem dX6_partOf_2 : decode cX6_partOf 2 = .ok (.ishl, 1) := by decide +kernel
theorem dX6_partOf_3 : decode cX6_partOf 3 = .ok (.istore_n 2, 1) := by decide +kernel
theorem dX6_partOf_4 : decode cX6_partOf 4 = .ok (.iconst 0, 1) := by decide +kernel
theorem dX6_partOf_5 : decode cX6_partOf 5 = .ok (.istore_n 3, 1) := by decide +kernel
theorem dX6_partOf_6 : decode cX6_partOf 6 = .ok (.iload_n 2, 1) := by decide +kernel
theorem dX6_partOf_7 : decode cX6_partOf 7 = .ok (.iload_n 3, 1) := by decide +kernel
theorem dX6_partOf_8 : decode cX6_partOf 8 = .ok (.if_icmp .eq 46, 3) := by decide +kernel
theorem dX6_partOf_11 : decode cX6_partOf 11 = .ok (.iload_n 2, 1) := by decide +kernel
theorem dX6_partOf_12 : decode cX6_partOf 12 = .ok (.istore_n 3, 1) := by decide +kernel
theorem dX6_partOf_13 : decode cX6_partOf 13 = .ok (.iconst 0, 1) := by decide +kernel
theorem dX6_partOf_14 : decode cX6_partOf 14 = .ok (.istore 4, 2) := by decide +kernel
theorem dX6_partOf_16 : decode cX6_partOf 16 = .ok (.iload 4, 2) := by decide +kernel
theorem dX6_partOf_18 : decode cX6_partOf 18 = .ok (.bipush 9, 2) := by decide +kernel
theorem dX6_partOf_20 : decode cX6_partOf 20 = .ok (.if_icmp .ge 31, 3) := by decide +kernel
theorem dX6_partOf_23 : decode cX6_partOf 23 = .ok (.iload_n 2, 1) := by decide +kernel
theorem dX6_partOf_24 : decode cX6_partOf 24 = .ok (.iload_n 3, 1) := by decide +kernel
theorem dX6_partOf_25 : decode cX6_partOf 25 = .ok (.iload 4, 2) := by decide +kernel
theorem dX6_partOf_27 : decode cX6_partOf 27 = .ok (.invokestatic 59, 3) := by decide +kernel
theorem dX6_partOf_30 : decode cX6_partOf 30 = .ok (.ifCond .eq 12, 3) := by decide +kernel
theorem dX6_partOf_33 : decode cX6_partOf 33 = .ok (.aload_n 0, 1) := by decide +kernel
theorem dX6_partOf_34 : decode cX6_partOf 34 = .ok (.iload 4, 2) := by decide +kernel
theorem dX6_partOf_36 : decode cX6_partOf 36 = .ok (.invokevirtual 104, 3) := by decide +kernel
theorem dX6_partOf_39 : decode cX6_partOf 39 = .ok (.goto 4, 3) := by decide +kernel
theorem dX6_partOf_42 : decode cX6_partOf 42 = .ok (.iconst 0, 1) := by decide +kernel
theorem dX6_partOf_43 : decode cX6_partOf 43 = .ok (.ior, 1) := by decide +kernel
theorem dX6_partOf_44 : decode cX6_partOf 44 = .ok (.istore_n 2, 1) := by decide +kernel
theorem dX6_partOf_45 : decode cX6_partOf 45 = .ok (.iinc 4 1, 3) := by decide +kernel
theorem dX6_partOf_48 : decode cX6_partOf 48 = .ok (.goto (-32), 3) := by decide +kernel
theorem dX6_partOf_51 : decode cX6_partOf 51 = .ok (.goto (-45), 3) := by decide +kernel
theorem dX6_partOf_54 : decode cX6_partOf 54 = .ok (.iload_n 2, 1) := by decide +kernel
theorem dX6_partOf_55 : decode cX6_partOf 55 = .ok (.ireturn, 1) := by decide +kernel
theorem dX6_parts_0 : decode cX6_parts 0 = .ok (.iload_n 1, 1) := by decide +kernel
theorem dX6_parts_1 : decode cX6_parts 1 = .ok (.iconst 0, 1) := by decide +kernel
theorem dX6_parts_2 : decode cX6_parts 2 = .ok (.iconst 1, 1) := by decide +kernel
theorem dX6_parts_3 : decode cX6_parts 3 = .ok (.invokestatic 51, 3) := by decide +kernel
theorem dX6_parts_6 : decode cX6_parts 6 = .ok (.ifCond .ne 6, 3) := by decide +kernel
theorem dX6_parts_9 : decode cX6_parts 9 = .ok (.bipush (-2), 2) := by decide +kernel
theorem dX6_parts_11 : decode cX6_parts 11 = .ok (.ireturn, 1) := by decide +kernel
theorem dX6_parts_12 : decode cX6_parts 12 = .ok (.aload_n 0, 1) := by decide +kernel
theorem dX6_parts_13 : decode cX6_parts 13 = .ok (.invokevirtual 67, 3) := by decide +kernel
theorem dX6_parts_16 : decode cX6_parts 16 = .ok (.iconst 0, 1) := by decide +kernel
theorem dX6_parts_17 : decode cX6_parts 17 = .ok (.istore_n 2, 1) := by decide +kernel
theorem dX6_parts_18 : decode cX6_parts 18 = .ok (.bipush (-6), 2) := by decide +kernel
theorem dX6_parts_20 : decode cX6_parts 20 = .ok (.istore_n 3, 1) := by decide +kernel
theorem dX6_parts_21 : decode cX6_parts 21 = .ok (.bipush 80, 2) := by decide +kernel
theorem dX6_parts_23 : decode cX6_parts 23 = .ok (.istore 4, 2) := by decide +kernel
theorem dX6_parts_25 : decode cX6_parts 25 = .ok (.iload 4, 2) := by decide +kernel
theorem dX6_parts_27 : decode cX6_parts 27 = .ok (.ifCond .lt 122, 3) := by decide +kernel
theorem dX6_parts_30 : decode cX6_parts 30 = .ok (.iload 4, 2) := by decide +kernel
theorem dX6_parts_32 : decode cX6_parts 32 = .ok (.bipush 9, 2) := by decide +kernel
theorem dX6_parts_34 : decode cX6_parts 34 = .ok (.idiv, 1) := by decide +kernel
theorem dX6_parts_35 : decode cX6_parts 35 = .ok (.istore 5, 2) := by decide +kernel
theorem dX6_parts_37 : decode cX6_parts 37 = .ok (.iload 4, 2) := by decide +kernel
theorem dX6_parts_39 : decode cX6_parts 39 = .ok (.bipush 9, 2) := by decide +kernel
theorem dX6_parts_41 : decode cX6_parts 41 = .ok (.irem, 1) := by decide +kernel
theorem dX6_parts_42 : decode cX6_parts 42 = .ok (.istore 6, 2) := by decide +kernel
theorem dX6_parts_44 : decode cX6_parts 44 = .ok (.iload 5, 2) := by decide +kernel
theorem dX6_parts_46 : decode cX6_parts 46 = .ok (.iload 6, 2) := by decide +kernel
theorem dX6_parts_48 : decode cX6_parts 48 = .ok (.if_icmp .ge 95, 3) := by decide +kernel
theorem dX6_parts_51 : decode cX6_parts 51 = .ok (.aload_n 0, 1) := by decide +kernel
theorem dX6_parts_52 : decode cX6_parts 52 = .ok (.iload 5, 2) := by decide +kernel
theorem dX6_parts_54 : decode cX6_parts 54 = .ok (.iload 6, 2) := by decide +kernel
theorem dX6_parts_56 : decode cX6_parts 56 = .ok (.invokevirtual 101, 3) := by decide +kernel
theorem dX6_parts_59 : decode cX6_parts 59 = .ok (.ifCond .eq 84, 3) := by decide +kernel
theorem dX6_parts_62 : decode cX6_parts 62 = .ok (.aload_n 0, 1) := by decide +kernel
theorem dX6_parts_63 : decode cX6_parts 63 = .ok (.getfield 13, 3) := by decide +kernel
theorem dX6_parts_66 : decode cX6_parts 66 = .ok (.iload 4, 2) := by decide +kernel
theorem dX6_parts_68 : decode cX6_parts 68 = .ok (.iaload, 1) := by decide +kernel
theorem dX6_parts_69 : decode cX6_parts 69 = .ok (.istore 7, 2) := by decide +kernel
theorem dX6_parts_71 : decode cX6_parts 71 = .ok (.aload_n 0, 1) := by decide +kernel
theorem dX6_parts_72 : decode cX6_parts 72 = .ok (.iload 5, 2) := by decide +kernel
theorem dX6_parts_74 : decode cX6_parts 74 = .ok (.iload 6, 2) := by decide +kernel
theorem dX6_parts_76 : decode cX6_parts 76 = .ok (.bipush (-6), 2) := by decide +kernel
theorem dX6_parts_78 : decode cX6_parts 78 = .ok (.invokevirtual 97, 3) := by decide +kernel
theorem dX6_parts_81 : decode cX6_parts 81 = .ok (.aload_n 0, 1) := by decide +kernel
theorem dX6_parts_82 : decode cX6_parts 82 = .ok (.iload 5, 2) := by decide +kernel
theorem dX6_parts_84 : decode cX6_parts 84 = .ok (.invokevirtual 142, 3) := by decide +kernel
theorem dX6_parts_87 : decode cX6_parts 87 = .ok (.iload 6, 2) := by decide +kernel
theorem dX6_parts_89 : decode cX6_parts 89 = .ok (.invokestatic 59, 3) := by decide +kernel
theorem dX6_parts_92 : decode cX6_parts 92 = .ok (.ifCond .ne 7, 3) := by decide +kernel
theorem dX6_parts_95 : decode cX6_parts 95 = .ok (.iconst 1, 1) := by decide +kernel
theorem dX6_parts_96 : decode cX6_parts 96 = .ok (.goto 4, 3) := by decide +kernel
theorem dX6_parts_99 : decode cX6_parts 99 = .ok (.iconst 0, 1) := by decide +kernel
theorem dX6_parts_100 : decode cX6_parts 100 = .ok (.istore 8, 2) := by decide +kernel
theorem dX6_parts_102 : decode cX6_parts 102 = .ok (.aload_n 0, 1) := by decide +kernel
theorem dX6_parts_103 : decode cX6_parts 103 = .ok (.iload 5, 2) := by decide +kernel
theorem dX6_parts_105 : decode cX6_parts 105 = .ok (.iload 6, 2) := by decide +kernel
theorem dX6_parts_107 : decode cX6_parts 107 = .ok (.iload 7, 2) := by decide +kernel
theorem dX6_parts_109 : decode cX6_parts 109 = .ok (.invokevirtual 97, 3) := by decide +kernel
theorem dX6_parts_112 : decode cX6_parts 112 = .ok (.iload_n 2, 1) := by decide +kernel
theorem dX6_parts_113 : decode cX6_parts 113 = .ok (.iload 8, 2) := by decide +kernel
theorem dX6_parts_115 : decode cX6_parts 115 = .ok (.ifCond .eq 7, 3) := by decide +kernel
theorem dX6_parts_118 : decode cX6_parts 118 = .ok (.iconst 1, 1) := by decide +kernel
theorem dX6_parts_119 : decode cX6_parts 119 = .ok (.goto 4, 3) := by decide +kernel
theorem dX6_parts_122 : decode cX6_parts 122 = .ok (.iconst 0, 1) := by decide +kernel
theorem dX6_parts_123 : decode cX6_parts 123 = .ok (.iadd, 1) := by decide +kernel
theorem dX6_parts_124 : decode cX6_parts 124 = .ok (.istore_n 2, 1) := by decide +kernel
theorem dX6_parts_125 : decode cX6_parts 125 = .ok (.iload 8, 2) := by decide +kernel
theorem dX6_parts_127 : decode cX6_parts 127 = .ok (.ifCond .eq 14, 3) := by decide +kernel
theorem dX6_parts_130 : decode cX6_parts 130 = .ok (.bipush 10, 2) := by decide +kernel
theorem dX6_parts_132 : decode cX6_parts 132 = .ok (.iload 5, 2) := by decide +kernel
theorem dX6_parts_134 : decode cX6_parts 134 = .ok (.imul, 1) := by decide +kernel
theorem dX6_parts_135 : decode cX6_parts 135 = .ok (.iload 6, 2) := by decide +kernel
theorem dX6_parts_137 : decode cX6_parts 137 = .ok (.iadd, 1) := by decide +kernel
theorem dX6_parts_138 : decode cX6_parts 138 = .ok (.goto 4, 3) := by decide +kernel
theorem dX6_parts_141 : decode cX6_parts 141 = .ok (.iload_n 3, 1) := by decide +kernel
theorem dX6_parts_142 : decode cX6_parts 142 = .ok (.istore_n 3, 1) := by decide +kernel
theorem dX6_parts_143 : decode cX6_parts 143 = .ok (.iinc 4 (-1), 3) := by decide +kernel
theorem dX6_parts_146 : decode cX6_parts 146 = .ok (.goto (-121), 3) := by decide +kernel
theorem dX6_parts_149 : decode cX6_parts 149 = .ok (.iload_n 1, 1) := by decide +kernel
theorem dX6_parts_150 : decode cX6_parts 150 = .ok (.ifCond .ne 7, 3) := by decide +kernel
theorem dX6_parts_153 : decode cX6_parts 153 = .ok (.iload_n 2, 1) := by decide +kernel
theorem dX6_parts_154 : decode cX6_parts 154 = .ok (.goto 4, 3) := by decide +kernel
theorem dX6_parts_157 : decode cX6_parts 157 = .ok (.iload_n 3, 1) := by decide +kernel
theorem dX6_parts_158 : decode cX6_parts 158 = .ok (.ireturn, 1) := by decide +kernel
theorem dX6_patch_0 : decode cX6_patch 0 = .ok (.aload_n 0, 1) := by decide +kernel
theorem dX6_patch_1 : decode cX6_patch 1 = .ok (.iload_n 1, 1) := by decide +kernel
theorem dX6_patch_2 : decode cX6_patch 2 = .ok (.iload_n 2, 1) := by decide +kernel
theorem dX6_patch_3 : decode cX6_patch 3 = .ok (.invokevirtual 93, 3) := by decide +kernel
theorem dX6_patch_6 : decode cX6_patch 6 = .ok (.istore 5, 2) := by decide +kernel
theorem dX6_patch_8 : decode cX6_patch 8 = .ok (.aload_n 0, 1) := by decide +kernel
theorem dX6_patch_9 : decode cX6_patch 9 = .ok (.iload_n 3, 1) := by decide +kernel
theorem dX6_patch_10 : decode cX6_patch 10 = .ok (.iload 4, 2) := by decide +kernel
theorem dX6_patch_12 : decode cX6_patch 12 = .ok (.invokevirtual 93, 3) := by decide +kernel
theorem dX6_patch_15 : decode cX6_patch 15 = .ok (.istore 6, 2) := by decide +kernel
theorem dX6_patch_17 : decode cX6_patch 17 = .ok (.iload 5, 2) := by decide +kernel
theorem dX6_patch_19 : decode cX6_patch 19 = .ok (.iconst 3, 1) := by decide +kernel
theorem dX6_patch_20 : decode cX6_patch 20 = .ok (.if_icmp .eq 9, 3) := by decide +kernel
theorem dX6_patch_23 : decode cX6_patch 23 = .ok (.iload 6, 2) := by decide +kernel
theorem dX6_patch_25 : decode cX6_patch 25 = .ok (.iconst 3, 1) := by decide +kernel
theorem dX6_patch_26 : decode cX6_patch 26 = .ok (.if_icmp .ne 5, 3) := by decide +kernel
theorem dX6_patch_29 : decode cX6_patch 29 = .ok (.iconst 3, 1) := by decide +kernel
theorem dX6_patch_30 : decode cX6_patch 30 = .ok (.ireturn, 1) := by decide +kernel
theorem dX6_patch_31 : decode cX6_patch 31 = .ok (.iload 5, 2) := by decide +kernel
theorem dX6_patch_33 : decode cX6_patch 33 = .ok (.iconst 4, 1) := by decide +kernel
theorem dX6_patch_34 : decode cX6_patch 34 = .ok (.if_icmp .eq 9, 3) := by decide +kernel
theorem dX6_patch_37 : decode cX6_patch 37 = .ok (.iload 6, 2) := by decide +kernel
theorem dX6_patch_39 : decode cX6_patch 39 = .ok (.iconst 4, 1) := by decide +kernel
theorem dX6_patch_40 : decode cX6_patch 40 = .ok (.if_icmp .ne 5, 3) := by decide +kernel
theorem dX6_patch_43 : decode cX6_patch 43 = .ok (.iconst 4, 1) := by decide +kernel
theorem dX6_patch_44 : decode cX6_patch 44 = .ok (.ireturn, 1) := by decide +kernel
theorem dX6_patch_45 : decode cX6_patch 45 = .ok (.iload_n 1, 1) := by decide +kernel
theorem dX6_patch_46 : decode cX6_patch 46 = .ok (.iload_n 3, 1) := by decide +kernel
theorem dX6_patch_47 : decode cX6_patch 47 = .ok (.if_icmp .ne 9, 3) := by decide +kernel
theorem dX6_patch_50 : decode cX6_patch 50 = .ok (.iload_n 2, 1) := by decide +kernel
theorem dX6_patch_51 : decode cX6_patch 51 = .ok (.iload 4, 2) := by decide +kernel
theorem dX6_patch_53 : decode cX6_patch 53 = .ok (.if_icmp .eq 14, 3) := by decide +kernel
theorem dX6_patch_56 : decode cX6_patch 56 = .ok (.iload_n 1, 1) := by decide +kernel
theorem dX6_patch_57 : decode cX6_patch 57 = .ok (.iload 4, 2) := by decide +kernel
theorem dX6_patch_59 : decode cX6_patch 59 = .ok (.if_icmp .ne 11, 3) := by decide +kernel
theorem dX6_patch_62 : decode cX6_patch 62 = .ok (.iload_n 2, 1) := by decide +kernel
theorem dX6_patch_63 : decode cX6_patch 63 = .ok (.iload_n 3, 1) := by decide +kernel
theorem dX6_patch_64 : decode cX6_patch 64 = .ok (.if_icmp .ne 6, 3) := by decide +kernel
theorem dX6_patch_67 : decode cX6_patch 67 = .ok (.bipush 6, 2) := by decide +kernel
theorem dX6_patch_69 : decode cX6_patch 69 = .ok (.ireturn, 1) := by decide +kernel
theorem dX6_patch_70 : decode cX6_patch 70 = .ok (.aload_n 0, 1) := by decide +kernel
theorem dX6_patch_71 : decode cX6_patch 71 = .ok (.iload_n 1, 1) := by decide +kernel
theorem dX6_patch_72 : decode cX6_patch 72 = .ok (.iload_n 2, 1) := by decide +kernel
theorem dX6_patch_73 : decode cX6_patch 73 = .ok (.aload_n 0, 1) := by decide +kernel
theorem dX6_patch_74 : decode cX6_patch 74 = .ok (.getfield 13, 3) := by decide +kernel
theorem dX6_patch_77 : decode cX6_patch 77 = .ok (.bipush 9, 2) := by decide +kernel
theorem dX6_patch_79 : decode cX6_patch 79 = .ok (.iload_n 1, 1) := by decide +kernel
theorem dX6_patch_80 : decode cX6_patch 80 = .ok (.imul, 1) := by decide +kernel
theorem dX6_patch_81 : decode cX6_patch 81 = .ok (.iload_n 2, 1) := by decide +kernel
theorem dX6_patch_82 : decode cX6_patch 82 = .ok (.iadd, 1) := by decide +kernel
theorem dX6_patch_83 : decode cX6_patch 83 = .ok (.iaload, 1) := by decide +kernel
theorem dX6_patch_84 : decode cX6_patch 84 = .ok (.iconst 2, 1) := by decide +kernel
theorem dX6_patch_85 : decode cX6_patch 85 = .ok (.idiv, 1) := by decide +kernel
theorem dX6_patch_86 : decode cX6_patch 86 = .ok (.invokevirtual 97, 3) := by decide +kernel
theorem dX6_patch_89 : decode cX6_patch 89 = .ok (.aload_n 0, 1) := by decide +kernel
theorem dX6_patch_90 : decode cX6_patch 90 = .ok (.iload_n 3, 1) := by decide +kernel
theorem dX6_patch_91 : decode cX6_patch 91 = .ok (.iload 4, 2) := by decide +kernel
theorem dX6_patch_93 : decode cX6_patch 93 = .ok (.bipush (-6), 2) := by decide +kernel
theorem dX6_patch_95 : decode cX6_patch 95 = .ok (.invokevirtual 97, 3) := by decide +kernel
theorem dX6_patch_98 : decode cX6_patch 98 = .ok (.iconst 0, 1) := by decide +kernel
theorem dX6_patch_99 : decode cX6_patch 99 = .ok (.ireturn, 1) := by decide +kernel
theorem dX6_pays_0 : decode cX6_pays 0 = .ok (.iload_n 2, 1) := by decide +kernel
theorem dX6_pays_1 : decode cX6_pays 1 = .ok (.iconst 1, 1) := by decide +kernel
theorem dX6_pays_2 : decode cX6_pays 2 = .ok (.bipush 9, 2) := by decide +kernel
theorem dX6_pays_4 : decode cX6_pays 4 = .ok (.invokestatic 51, 3) := by decide +kernel
theorem dX6_pays_7 : decode cX6_pays 7 = .ok (.ifCond .eq 28, 3) := by decide +kernel
theorem dX6_pays_10 : decode cX6_pays 10 = .ok (.iload_n 1, 1) := by decide +kernel
theorem dX6_pays_11 : decode cX6_pays 11 = .ok (.ifCond .lt 24, 3) := by decide +kernel
theorem dX6_pays_14 : decode cX6_pays 14 = .ok (.iload_n 3, 1) := by decide +kernel
theorem dX6_pays_15 : decode cX6_pays 15 = .ok (.iconst 0, 1) := by decide +kernel
theorem dX6_pays_16 : decode cX6_pays 16 = .ok (.iload_n 2, 1) := by decide +kernel
theorem dX6_pays_17 : decode cX6_pays 17 = .ok (.iconst 1, 1) := by decide +kernel
theorem dX6_pays_18 : decode cX6_pays 18 = .ok (.isub, 1) := by decide +kernel
theorem dX6_pays_19 : decode cX6_pays 19 = .ok (.invokestatic 51, 3) := by decide +kernel
theorem dX6_pays_22 : decode cX6_pays 22 = .ok (.ifCond .eq 13, 3) := by decide +kernel
theorem dX6_pays_25 : decode cX6_pays 25 = .ok (.iload 4, 2) := by decide +kernel
theorem dX6_pays_27 : decode cX6_pays 27 = .ok (.iconst 0, 1) := by decide +kernel
theorem dX6_pays_28 : decode cX6_pays 28 = .ok (.iconst 1, 1) := by decide +kernel
theorem dX6_pays_29 : decode cX6_pays 29 = .ok (.invokestatic 51, 3) := by decide +kernel
theorem dX6_pays_32 : decode cX6_pays 32 = .ok (.ifCond .ne 7, 3) := by decide +kernel
theorem dX6_pays_35 : decode cX6_pays 35 = .ok (.ldc2_w 145, 3) := by decide +kernel
theorem dX6_pays_38 : decode cX6_pays 38 = .ok (.lreturn, 1) := by decide +kernel
theorem dX6_pays_39 : decode cX6_pays 39 = .ok (.iload_n 1, 1) := by decide +kernel
theorem dX6_pays_40 : decode cX6_pays 40 = .ok (.istore 5, 2) := by decide +kernel
theorem dX6_pays_42 : decode cX6_pays 42 = .ok (.iload_n 2, 1) := by decide +kernel
theorem dX6_pays_43 : decode cX6_pays 43 = .ok (.iconst 1, 1) := by decide +kernel
theorem dX6_pays_44 : decode cX6_pays 44 = .ok (.isub, 1) := by decide +kernel
theorem dX6_pays_45 : decode cX6_pays 45 = .ok (.istore 6, 2) := by decide +kernel
theorem dX6_pays_47 : decode cX6_pays 47 = .ok (.iload 6, 2) := by decide +kernel
theorem dX6_pays_49 : decode cX6_pays 49 = .ok (.ifCond .lt 28, 3) := by decide +kernel
theorem dX6_pays_52 : decode cX6_pays 52 = .ok (.aload_n 0, 1) := by decide +kernel
theorem dX6_pays_53 : decode cX6_pays 53 = .ok (.getfield 25, 3) := by decide +kernel
theorem dX6_pays_56 : decode cX6_pays 56 = .ok (.iload 6, 2) := by decide +kernel
theorem dX6_pays_58 : decode cX6_pays 58 = .ok (.iload 5, 2) := by decide +kernel
theorem dX6_pays_60 : decode cX6_pays 60 = .ok (.bipush 10, 2) := by decide +kernel
theorem dX6_pays_62 : decode cX6_pays 62 = .ok (.irem, 1) := by decide +kernel
theorem dX6_pays_63 : decode cX6_pays 63 = .ok (.iastore, 1) := by decide +kernel
theorem dX6_pays_64 : decode cX6_pays 64 = .ok (.iload 5, 2) := by decide +kernel
theorem dX6_pays_66 : decode cX6_pays 66 = .ok (.bipush 10, 2) := by decide +kernel
theorem dX6_pays_68 : decode cX6_pays 68 = .ok (.idiv, 1) := by decide +kernel
theorem dX6_pays_69 : decode cX6_pays 69 = .ok (.istore 5, 2) := by decide +kernel
theorem dX6_pays_71 : decode cX6_pays 71 = .ok (.iinc 6 (-1), 3) := by decide +kernel
theorem dX6_pays_74 : decode cX6_pays 74 = .ok (.goto (-27), 3) := by decide +kernel
theorem dX6_pays_77 : decode cX6_pays 77 = .ok (.iload 5, 2) := by decide +kernel
theorem dX6_pays_79 : decode cX6_pays 79 = .ok (.ifCond .eq 7, 3) := by decide +kernel
theorem dX6_pays_82 : decode cX6_pays 82 = .ok (.ldc2_w 145, 3) := by decide +kernel
theorem dX6_pays_85 : decode cX6_pays 85 = .ok (.lreturn, 1) := by decide +kernel
theorem dX6_pays_86 : decode cX6_pays 86 = .ok (.lconst 0, 1) := by decide +kernel
theorem dX6_pays_87 : decode cX6_pays 87 = .ok (.lstore 6, 2) := by decide +kernel
theorem dX6_pays_89 : decode cX6_pays 89 = .ok (.iconst 1, 1) := by decide +kernel
theorem dX6_pays_90 : decode cX6_pays 90 = .ok (.istore 8, 2) := by decide +kernel
theorem dX6_pays_92 : decode cX6_pays 92 = .ok (.iload 8, 2) := by decide +kernel
theorem dX6_pays_94 : decode cX6_pays 94 = .ok (.aload_n 0, 1) := by decide +kernel
theorem dX6_pays_95 : decode cX6_pays 95 = .ok (.getfield 25, 3) := by decide +kernel
theorem dX6_pays_98 : decode cX6_pays 98 = .ok (.iload_n 3, 1) := by decide +kernel
theorem dX6_pays_99 : decode cX6_pays 99 = .ok (.iaload, 1) := by decide +kernel
theorem dX6_pays_100 : decode cX6_pays 100 = .ok (.if_icmp .gt 61, 3) := by decide +kernel
theorem dX6_pays_103 : decode cX6_pays 103 = .ok (.iconst 0, 1) := by decide +kernel
theorem dX6_pays_104 : decode cX6_pays 104 = .ok (.istore 9, 2) := by decide +kernel
theorem dX6_pays_106 : decode cX6_pays 106 = .ok (.iconst 0, 1) := by decide +kernel
theorem dX6_pays_107 : decode cX6_pays 107 = .ok (.istore 10, 2) := by decide +kernel
theorem dX6_pays_109 : decode cX6_pays 109 = .ok (.iload 10, 2) := by decide +kernel
theorem dX6_pays_111 : decode cX6_pays 111 = .ok (.iload_n 2, 1) := by decide +kernel
theorem dX6_pays_112 : decode cX6_pays 112 = .ok (.if_icmp .ge 31, 3) := by decide +kernel
theorem dX6_pays_115 : decode cX6_pays 115 = .ok (.iload 9, 2) := by decide +kernel
theorem dX6_pays_117 : decode cX6_pays 117 = .ok (.aload_n 0, 1) := by decide +kernel
theorem dX6_pays_118 : decode cX6_pays 118 = .ok (.getfield 25, 3) := by decide +kernel
theorem dX6_pays_121 : decode cX6_pays 121 = .ok (.iload 10, 2) := by decide +kernel
theorem dX6_pays_123 : decode cX6_pays 123 = .ok (.iaload, 1) := by decide +kernel
theorem dX6_pays_124 : decode cX6_pays 124 = .ok (.iload 8, 2) := by decide +kernel
theorem dX6_pays_126 : decode cX6_pays 126 = .ok (.if_icmp .lt 7, 3) := by decide +kernel
theorem dX6_pays_129 : decode cX6_pays 129 = .ok (.iconst 1, 1) := by decide +kernel
theorem dX6_pays_130 : decode cX6_pays 130 = .ok (.goto 4, 3) := by decide +kernel
theorem dX6_pays_133 : decode cX6_pays 133 = .ok (.iconst 0, 1) := by decide +kernel
theorem dX6_pays_134 : decode cX6_pays 134 = .ok (.iadd, 1) := by decide +kernel
theorem dX6_pays_135 : decode cX6_pays 135 = .ok (.istore 9, 2) := by decide +kernel
theorem dX6_pays_137 : decode cX6_pays 137 = .ok (.iinc 10 1, 3) := by decide +kernel
theorem dX6_pays_140 : decode cX6_pays 140 = .ok (.goto (-31), 3) := by decide +kernel
theorem dX6_pays_143 : decode cX6_pays 143 = .ok (.lload 6, 2) := by decide +kernel
theorem dX6_pays_145 : decode cX6_pays 145 = .ok (.sipush 2520, 3) := by decide +kernel
theorem dX6_pays_148 : decode cX6_pays 148 = .ok (.iload 9, 2) := by decide +kernel
theorem dX6_pays_150 : decode cX6_pays 150 = .ok (.idiv, 1) := by decide +kernel
theorem dX6_pays_151 : decode cX6_pays 151 = .ok (.i2l, 1) := by decide +kernel
theorem dX6_pays_152 : decode cX6_pays 152 = .ok (.ladd, 1) := by decide +kernel
theorem dX6_pays_153 : decode cX6_pays 153 = .ok (.lstore 6, 2) := by decide +kernel
theorem dX6_pays_155 : decode cX6_pays 155 = .ok (.iinc 8 1, 3) := by decide +kernel
theorem dX6_pays_158 : decode cX6_pays 158 = .ok (.goto (-66), 3) := by decide +kernel
theorem dX6_pays_161 : decode cX6_pays 161 = .ok (.lload 6, 2) := by decide +kernel
theorem dX6_pays_163 : decode cX6_pays 163 = .ok (.ldc2_w 147, 3) := by decide +kernel
theorem dX6_pays_166 : decode cX6_pays 166 = .ok (.iload 4, 2) := by decide +kernel
theorem dX6_pays_168 : decode cX6_pays 168 = .ok (.invokestatic 149, 3) := by decide +kernel
theorem dX6_pays_171 : decode cX6_pays 171 = .ok (.lreturn, 1) := by decide +kernel
theorem dX6_restore_0 : decode cX6_restore 0 = .ok (.iload_n 1, 1) := by decide +kernel
theorem dX6_restore_1 : decode cX6_restore 1 = .ok (.iconst 0, 1) := by decide +kernel
theorem dX6_restore_2 : decode cX6_restore 2 = .ok (.iconst 1, 1) := by decide +kernel
theorem dX6_restore_3 : decode cX6_restore 3 = .ok (.invokestatic 51, 3) := by decide +kernel
theorem dX6_restore_6 : decode cX6_restore 6 = .ok (.ifCond .ne 6, 3) := by decide +kernel
theorem dX6_restore_9 : decode cX6_restore 9 = .ok (.bipush (-2), 2) := by decide +kernel
theorem dX6_restore_11 : decode cX6_restore 11 = .ok (.ireturn, 1) := by decide +kernel
theorem dX6_restore_12 : decode cX6_restore 12 = .ok (.aload_n 0, 1) := by decide +kernel
theorem dX6_restore_13 : decode cX6_restore 13 = .ok (.getfield 48, 3) := by decide +kernel
theorem dX6_restore_16 : decode cX6_restore 16 = .ok (.iload_n 1, 1) := by decide +kernel
theorem dX6_restore_17 : decode cX6_restore 17 = .ok (.baload, 1) := by decide +kernel
theorem dX6_restore_18 : decode cX6_restore 18 = .ok (.ifCond .ne 6, 3) := by decide +kernel
theorem dX6_restore_21 : decode cX6_restore 21 = .ok (.bipush (-3), 2) := by decide +kernel
theorem dX6_restore_23 : decode cX6_restore 23 = .ok (.ireturn, 1) := by decide +kernel
theorem dX6_restore_24 : decode cX6_restore 24 = .ok (.bipush 120, 2) := by decide +kernel
theorem dX6_restore_26 : decode cX6_restore 26 = .ok (.iload_n 1, 1) := by decide +kernel
theorem dX6_restore_27 : decode cX6_restore 27 = .ok (.imul, 1) := by decide +kernel
theorem dX6_restore_28 : decode cX6_restore 28 = .ok (.istore_n 2, 1) := by decide +kernel
theorem dX6_restore_29 : decode cX6_restore 29 = .ok (.iconst 0, 1) := by decide +kernel
theorem dX6_restore_30 : decode cX6_restore 30 = .ok (.istore_n 3, 1) := by decide +kernel
theorem dX6_restore_31 : decode cX6_restore 31 = .ok (.iload_n 3, 1) := by decide +kernel
theorem dX6_restore_32 : decode cX6_restore 32 = .ok (.bipush 89, 2) := by decide +kernel
theorem dX6_restore_34 : decode cX6_restore 34 = .ok (.if_icmp .ge 23, 3) := by decide +kernel
theorem dX6_restore_37 : decode cX6_restore 37 = .ok (.aload_n 0, 1) := by decide +kernel
theorem dX6_restore_38 : decode cX6_restore 38 = .ok (.getfield 7, 3) := by decide +kernel
theorem dX6_restore_41 : decode cX6_restore 41 = .ok (.iload_n 3, 1) := by decide +kernel
theorem dX6_restore_42 : decode cX6_restore 42 = .ok (.aload_n 0, 1) := by decide +kernel
theorem dX6_restore_43 : decode cX6_restore 43 = .ok (.getfield 45, 3) := by decide +kernel
theorem dX6_restore_46 : decode cX6_restore 46 = .ok (.iload_n 2, 1) := by decide +kernel
theorem dX6_restore_47 : decode cX6_restore 47 = .ok (.iload_n 3, 1) := by decide +kernel
theorem dX6_restore_48 : decode cX6_restore 48 = .ok (.iadd, 1) := by decide +kernel
theorem dX6_restore_49 : decode cX6_restore 49 = .ok (.iaload, 1) := by decide +kernel
theorem dX6_restore_50 : decode cX6_restore 50 = .ok (.iastore, 1) := by decide +kernel
theorem dX6_restore_51 : decode cX6_restore 51 = .ok (.iinc 3 1, 3) := by decide +kernel
theorem dX6_restore_54 : decode cX6_restore 54 = .ok (.goto (-23), 3) := by decide +kernel
theorem dX6_restore_57 : decode cX6_restore 57 = .ok (.iconst 0, 1) := by decide +kernel
theorem dX6_restore_58 : decode cX6_restore 58 = .ok (.istore_n 3, 1) := by decide +kernel
theorem dX6_restore_59 : decode cX6_restore 59 = .ok (.iload_n 3, 1) := by decide +kernel
theorem dX6_restore_60 : decode cX6_restore 60 = .ok (.bipush 24, 2) := by decide +kernel
theorem dX6_restore_62 : decode cX6_restore 62 = .ok (.if_icmp .ge 26, 3) := by decide +kernel
theorem dX6_restore_65 : decode cX6_restore 65 = .ok (.aload_n 0, 1) := by decide +kernel
theorem dX6_restore_66 : decode cX6_restore 66 = .ok (.getfield 16, 3) := by decide +kernel
theorem dX6_restore_69 : decode cX6_restore 69 = .ok (.iload_n 3, 1) := by decide +kernel
theorem dX6_restore_70 : decode cX6_restore 70 = .ok (.aload_n 0, 1) := by decide +kernel
theorem dX6_restore_71 : decode cX6_restore 71 = .ok (.getfield 45, 3) := by decide +kernel
theorem dX6_restore_74 : decode cX6_restore 74 = .ok (.iload_n 2, 1) := by decide +kernel
theorem dX6_restore_75 : decode cX6_restore 75 = .ok (.bipush 89, 2) := by decide +kernel
theorem dX6_restore_77 : decode cX6_restore 77 = .ok (.iadd, 1) := by decide +kernel
theorem dX6_restore_78 : decode cX6_restore 78 = .ok (.iload_n 3, 1) := by decide +kernel
theorem dX6_restore_79 : decode cX6_restore 79 = .ok (.iadd, 1) := by decide +kernel
theorem dX6_restore_80 : decode cX6_restore 80 = .ok (.iaload, 1) := by decide +kernel
theorem dX6_restore_81 : decode cX6_restore 81 = .ok (.iastore, 1) := by decide +kernel
theorem dX6_restore_82 : decode cX6_restore 82 = .ok (.iinc 3 1, 3) := by decide +kernel
theorem dX6_restore_85 : decode cX6_restore 85 = .ok (.goto (-26), 3) := by decide +kernel
theorem dX6_restore_88 : decode cX6_restore 88 = .ok (.aload_n 0, 1) := by decide +kernel
theorem dX6_restore_89 : decode cX6_restore 89 = .ok (.aload_n 0, 1) := by decide +kernel
theorem dX6_restore_90 : decode cX6_restore 90 = .ok (.getfield 45, 3) := by decide +kernel
theorem dX6_restore_93 : decode cX6_restore 93 = .ok (.iload_n 2, 1) := by decide +kernel
theorem dX6_restore_94 : decode cX6_restore 94 = .ok (.bipush 115, 2) := by decide +kernel
theorem dX6_restore_96 : decode cX6_restore 96 = .ok (.iadd, 1) := by decide +kernel
theorem dX6_restore_97 : decode cX6_restore 97 = .ok (.iaload, 1) := by decide +kernel
theorem dX6_restore_98 : decode cX6_restore 98 = .ok (.putfield 55, 3) := by decide +kernel
theorem dX6_restore_101 : decode cX6_restore 101 = .ok (.aload_n 0, 1) := by decide +kernel
theorem dX6_restore_102 : decode cX6_restore 102 = .ok (.aload_n 0, 1) := by decide +kernel
theorem dX6_restore_103 : decode cX6_restore 103 = .ok (.getfield 45, 3) := by decide +kernel
theorem dX6_restore_106 : decode cX6_restore 106 = .ok (.iload_n 2, 1) := by decide +kernel
theorem dX6_restore_107 : decode cX6_restore 107 = .ok (.bipush 116, 2) := by decide +kernel
theorem dX6_restore_109 : decode cX6_restore 109 = .ok (.iadd, 1) := by decide +kernel
theorem dX6_restore_110 : decode cX6_restore 110 = .ok (.iaload, 1) := by decide +kernel
theorem dX6_restore_111 : decode cX6_restore 111 = .ok (.putfield 153, 3) := by decide +kernel
theorem dX6_restore_114 : decode cX6_restore 114 = .ok (.iconst 1, 1) := by decide +kernel
theorem dX6_restore_115 : decode cX6_restore 115 = .ok (.ireturn, 1) := by decide +kernel
theorem dX6_road_0 : decode cX6_road 0 = .ok (.iload_n 1, 1) := by decide +kernel
theorem dX6_road_1 : decode cX6_road 1 = .ok (.invokestatic 63, 3) := by decide +kernel
theorem dX6_road_4 : decode cX6_road 4 = .ok (.ifCond .eq 15, 3) := by decide +kernel
theorem dX6_road_7 : decode cX6_road 7 = .ok (.iload_n 2, 1) := by decide +kernel
theorem dX6_road_8 : decode cX6_road 8 = .ok (.invokestatic 63, 3) := by decide +kernel
theorem dX6_road_11 : decode cX6_road 11 = .ok (.ifCond .eq 8, 3) := by decide +kernel
theorem dX6_road_14 : decode cX6_road 14 = .ok (.iload_n 1, 1) := by decide +kernel
theorem dX6_road_15 : decode cX6_road 15 = .ok (.iload_n 2, 1) := by decide +kernel
theorem dX6_road_16 : decode cX6_road 16 = .ok (.if_icmp .ne 5, 3) := by decide +kernel
theorem dX6_road_19 : decode cX6_road 19 = .ok (.iconst (-1), 1) := by decide +kernel
theorem dX6_road_20 : decode cX6_road 20 = .ok (.ireturn, 1) := by decide +kernel
theorem dX6_road_21 : decode cX6_road 21 = .ok (.iload_n 3, 1) := by decide +kernel
theorem dX6_road_22 : decode cX6_road 22 = .ok (.iconst (-1), 1) := by decide +kernel
theorem dX6_road_23 : decode cX6_road 23 = .ok (.bipush 9, 2) := by decide +kernel
theorem dX6_road_25 : decode cX6_road 25 = .ok (.invokestatic 51, 3) := by decide +kernel
theorem dX6_road_28 : decode cX6_road 28 = .ok (.ifCond .ne 6, 3) := by decide +kernel
theorem dX6_road_31 : decode cX6_road 31 = .ok (.bipush (-2), 2) := by decide +kernel
theorem dX6_road_33 : decode cX6_road 33 = .ok (.ireturn, 1) := by decide +kernel
theorem dX6_road_34 : decode cX6_road 34 = .ok (.aload_n 0, 1) := by decide +kernel
theorem dX6_road_35 : decode cX6_road 35 = .ok (.getfield 7, 3) := by decide +kernel
theorem dX6_road_38 : decode cX6_road 38 = .ok (.bipush 9, 2) := by decide +kernel
theorem dX6_road_40 : decode cX6_road 40 = .ok (.iload_n 1, 1) := by decide +kernel
theorem dX6_road_41 : decode cX6_road 41 = .ok (.imul, 1) := by decide +kernel
theorem dX6_road_42 : decode cX6_road 42 = .ok (.iload_n 2, 1) := by decide +kernel
theorem dX6_road_43 : decode cX6_road 43 = .ok (.iadd, 1) := by decide +kernel
theorem dX6_road_44 : decode cX6_road 44 = .ok (.iload_n 3, 1) := by decide +kernel
theorem dX6_road_45 : decode cX6_road 45 = .ok (.ifCond .ge 8, 3) := by decide +kernel
theorem dX6_road_48 : decode cX6_road 48 = .ok (.bipush (-6), 2) := by decide +kernel
theorem dX6_road_50 : decode cX6_road 50 = .ok (.goto 4, 3) := by decide +kernel
theorem dX6_road_53 : decode cX6_road 53 = .ok (.iload_n 3, 1) := by decide +kernel
theorem dX6_road_54 : decode cX6_road 54 = .ok (.iastore, 1) := by decide +kernel
theorem dX6_road_55 : decode cX6_road 55 = .ok (.aload_n 0, 1) := by decide +kernel
theorem dX6_road_56 : decode cX6_road 56 = .ok (.getfield 7, 3) := by decide +kernel
theorem dX6_road_59 : decode cX6_road 59 = .ok (.bipush 9, 2) := by decide +kernel
theorem dX6_road_61 : decode cX6_road 61 = .ok (.iload_n 2, 1) := by decide +kernel
theorem dX6_road_62 : decode cX6_road 62 = .ok (.imul, 1) := by decide +kernel
theorem dX6_road_63 : decode cX6_road 63 = .ok (.iload_n 1, 1) := by decide +kernel
theorem dX6_road_64 : decode cX6_road 64 = .ok (.iadd, 1) := by decide +kernel
theorem dX6_road_65 : decode cX6_road 65 = .ok (.iload_n 3, 1) := by decide +kernel
theorem dX6_road_66 : decode cX6_road 66 = .ok (.ifCond .ge 8, 3) := by decide +kernel
theorem dX6_road_69 : decode cX6_road 69 = .ok (.bipush (-6), 2) := by decide +kernel
theorem dX6_road_71 : decode cX6_road 71 = .ok (.goto 4, 3) := by decide +kernel
theorem dX6_road_74 : decode cX6_road 74 = .ok (.iload_n 3, 1) := by decide +kernel
theorem dX6_road_75 : decode cX6_road 75 = .ok (.iastore, 1) := by decide +kernel
theorem dX6_road_76 : decode cX6_road 76 = .ok (.aload_n 0, 1) := by decide +kernel
theorem dX6_road_77 : decode cX6_road 77 = .ok (.invokevirtual 67, 3) := by decide +kernel
theorem dX6_road_80 : decode cX6_road 80 = .ok (.aload_n 0, 1) := by decide +kernel
theorem dX6_road_81 : decode cX6_road 81 = .ok (.invokevirtual 70, 3) := by decide +kernel
theorem dX6_road_84 : decode cX6_road 84 = .ok (.ireturn, 1) := by decide +kernel
theorem dX6_roadsOf_0 : decode cX6_roadsOf 0 = .ok (.iconst 0, 1) := by decide +kernel
theorem dX6_roadsOf_1 : decode cX6_roadsOf 1 = .ok (.istore_n 1, 1) := by decide +kernel
theorem dX6_roadsOf_2 : decode cX6_roadsOf 2 = .ok (.iconst 0, 1) := by decide +kernel
theorem dX6_roadsOf_3 : decode cX6_roadsOf 3 = .ok (.istore_n 2, 1) := by decide +kernel
theorem dX6_roadsOf_4 : decode cX6_roadsOf 4 = .ok (.iload_n 2, 1) := by decide +kernel
theorem dX6_roadsOf_5 : decode cX6_roadsOf 5 = .ok (.bipush 81, 2) := by decide +kernel
theorem dX6_roadsOf_7 : decode cX6_roadsOf 7 = .ok (.if_icmp .ge 26, 3) := by decide +kernel
theorem dX6_roadsOf_10 : decode cX6_roadsOf 10 = .ok (.iload_n 1, 1) := by decide +kernel
theorem dX6_roadsOf_11 : decode cX6_roadsOf 11 = .ok (.aload_n 0, 1) := by decide +kernel
theorem dX6_roadsOf_12 : decode cX6_roadsOf 12 = .ok (.getfield 13, 3) := by decide +kernel
theorem dX6_roadsOf_15 : decode cX6_roadsOf 15 = .ok (.iload_n 2, 1) := by decide +kernel
theorem dX6_roadsOf_16 : decode cX6_roadsOf 16 = .ok (.iaload, 1) := by decide +kernel
theorem dX6_roadsOf_17 : decode cX6_roadsOf 17 = .ok (.ifCond .lt 7, 3) := by decide +kernel
theorem dX6_roadsOf_20 : decode cX6_roadsOf 20 = .ok (.iconst 1, 1) := by decide +kernel
theorem dX6_roadsOf_21 : decode cX6_roadsOf 21 = .ok (.goto 4, 3) := by decide +kernel
theorem dX6_roadsOf_24 : decode cX6_roadsOf 24 = .ok (.iconst 0, 1) := by decide +kernel
theorem dX6_roadsOf_25 : decode cX6_roadsOf 25 = .ok (.iadd, 1) := by decide +kernel
theorem dX6_roadsOf_26 : decode cX6_roadsOf 26 = .ok (.istore_n 1, 1) := by decide +kernel
theorem dX6_roadsOf_27 : decode cX6_roadsOf 27 = .ok (.iinc 2 1, 3) := by decide +kernel
theorem dX6_roadsOf_30 : decode cX6_roadsOf 30 = .ok (.goto (-26), 3) := by decide +kernel
theorem dX6_roadsOf_33 : decode cX6_roadsOf 33 = .ok (.iload_n 1, 1) := by decide +kernel
theorem dX6_roadsOf_34 : decode cX6_roadsOf 34 = .ok (.iconst 2, 1) := by decide +kernel
theorem dX6_roadsOf_35 : decode cX6_roadsOf 35 = .ok (.idiv, 1) := by decide +kernel
theorem dX6_roadsOf_36 : decode cX6_roadsOf 36 = .ok (.ireturn, 1) := by decide +kernel
theorem dX6_say_0 : decode cX6_say 0 = .ok (.iload_n 1, 1) := by decide +kernel
theorem dX6_say_1 : decode cX6_say 1 = .ok (.bipush 33, 2) := by decide +kernel
theorem dX6_say_3 : decode cX6_say 3 = .ok (.bipush 126, 2) := by decide +kernel
theorem dX6_say_5 : decode cX6_say 5 = .ok (.invokestatic 51, 3) := by decide +kernel
theorem dX6_say_8 : decode cX6_say 8 = .ok (.ifCond .ne 6, 3) := by decide +kernel
theorem dX6_say_11 : decode cX6_say 11 = .ok (.bipush (-2), 2) := by decide +kernel
theorem dX6_say_13 : decode cX6_say 13 = .ok (.ireturn, 1) := by decide +kernel
theorem dX6_say_14 : decode cX6_say 14 = .ok (.aload_n 0, 1) := by decide +kernel
theorem dX6_say_15 : decode cX6_say 15 = .ok (.getfield 78, 3) := by decide +kernel
theorem dX6_say_18 : decode cX6_say 18 = .ok (.bipush 60, 2) := by decide +kernel
theorem dX6_say_20 : decode cX6_say 20 = .ok (.if_icmp .ne 6, 3) := by decide +kernel
theorem dX6_say_23 : decode cX6_say 23 = .ok (.bipush (-4), 2) := by decide +kernel
theorem dX6_say_25 : decode cX6_say 25 = .ok (.ireturn, 1) := by decide +kernel
theorem dX6_say_26 : decode cX6_say 26 = .ok (.aload_n 0, 1) := by decide +kernel
theorem dX6_say_27 : decode cX6_say 27 = .ok (.getfield 19, 3) := by decide +kernel
theorem dX6_say_30 : decode cX6_say 30 = .ok (.aload_n 0, 1) := by decide +kernel
theorem dX6_say_31 : decode cX6_say 31 = .ok (.getfield 78, 3) := by decide +kernel
theorem dX6_say_34 : decode cX6_say 34 = .ok (.iload_n 1, 1) := by decide +kernel
theorem dX6_say_35 : decode cX6_say 35 = .ok (.iastore, 1) := by decide +kernel
theorem dX6_say_36 : decode cX6_say 36 = .ok (.aload_n 0, 1) := by decide +kernel
theorem dX6_say_37 : decode cX6_say 37 = .ok (.dup, 1) := by decide +kernel
theorem dX6_say_38 : decode cX6_say 38 = .ok (.getfield 78, 3) := by decide +kernel
theorem dX6_say_41 : decode cX6_say 41 = .ok (.iconst 1, 1) := by decide +kernel
theorem dX6_say_42 : decode cX6_say 42 = .ok (.iadd, 1) := by decide +kernel
theorem dX6_say_43 : decode cX6_say 43 = .ok (.putfield 78, 3) := by decide +kernel
theorem dX6_say_46 : decode cX6_say 46 = .ok (.aload_n 0, 1) := by decide +kernel
theorem dX6_say_47 : decode cX6_say 47 = .ok (.getfield 78, 3) := by decide +kernel
theorem dX6_say_50 : decode cX6_say 50 = .ok (.ireturn, 1) := by decide +kernel
theorem dX6_seen_0 : decode cX6_seen 0 = .ok (.iload_n 2, 1) := by decide +kernel
theorem dX6_seen_1 : decode cX6_seen 1 = .ok (.iconst 0, 1) := by decide +kernel
theorem dX6_seen_2 : decode cX6_seen 2 = .ok (.bipush 20, 2) := by decide +kernel
theorem dX6_seen_4 : decode cX6_seen 4 = .ok (.invokestatic 51, 3) := by decide +kernel
theorem dX6_seen_7 : decode cX6_seen 7 = .ok (.ifCond .eq 14, 3) := by decide +kernel
theorem dX6_seen_10 : decode cX6_seen 10 = .ok (.iload_n 3, 1) := by decide +kernel
theorem dX6_seen_11 : decode cX6_seen 11 = .ok (.iconst 0, 1) := by decide +kernel
theorem dX6_seen_12 : decode cX6_seen 12 = .ok (.sipush 9999, 3) := by decide +kernel
theorem dX6_seen_15 : decode cX6_seen 15 = .ok (.invokestatic 51, 3) := by decide +kernel
theorem dX6_seen_18 : decode cX6_seen 18 = .ok (.ifCond .ne 6, 3) := by decide +kernel
theorem dX6_seen_21 : decode cX6_seen 21 = .ok (.bipush (-2), 2) := by decide +kernel
theorem dX6_seen_23 : decode cX6_seen 23 = .ok (.ireturn, 1) := by decide +kernel
theorem dX6_seen_24 : decode cX6_seen 24 = .ok (.aload_n 0, 1) := by decide +kernel
theorem dX6_seen_25 : decode cX6_seen 25 = .ok (.getfield 153, 3) := by decide +kernel
theorem dX6_seen_28 : decode cX6_seen 28 = .ok (.bipush 8, 2) := by decide +kernel
theorem dX6_seen_30 : decode cX6_seen 30 = .ok (.if_icmp .ne 6, 3) := by decide +kernel
theorem dX6_seen_33 : decode cX6_seen 33 = .ok (.bipush (-4), 2) := by decide +kernel
theorem dX6_seen_35 : decode cX6_seen 35 = .ok (.ireturn, 1) := by decide +kernel
theorem dX6_seen_36 : decode cX6_seen 36 = .ok (.aload_n 0, 1) := by decide +kernel
theorem dX6_seen_37 : decode cX6_seen 37 = .ok (.getfield 16, 3) := by decide +kernel
theorem dX6_seen_40 : decode cX6_seen 40 = .ok (.iconst 3, 1) := by decide +kernel
theorem dX6_seen_41 : decode cX6_seen 41 = .ok (.aload_n 0, 1) := by decide +kernel
theorem dX6_seen_42 : decode cX6_seen 42 = .ok (.getfield 153, 3) := by decide +kernel
theorem dX6_seen_45 : decode cX6_seen 45 = .ok (.imul, 1) := by decide +kernel
theorem dX6_seen_46 : decode cX6_seen 46 = .ok (.iload_n 1, 1) := by decide +kernel
theorem dX6_seen_47 : decode cX6_seen 47 = .ok (.ifCond .eq 7, 3) := by decide +kernel
theorem dX6_seen_50 : decode cX6_seen 50 = .ok (.iconst 1, 1) := by decide +kernel
theorem dX6_seen_51 : decode cX6_seen 51 = .ok (.goto 4, 3) := by decide +kernel
theorem dX6_seen_54 : decode cX6_seen 54 = .ok (.iconst 0, 1) := by decide +kernel
theorem dX6_seen_55 : decode cX6_seen 55 = .ok (.iastore, 1) := by decide +kernel
theorem dX6_seen_56 : decode cX6_seen 56 = .ok (.aload_n 0, 1) := by decide +kernel
theorem dX6_seen_57 : decode cX6_seen 57 = .ok (.getfield 16, 3) := by decide +kernel
theorem dX6_seen_60 : decode cX6_seen 60 = .ok (.iconst 3, 1) := by decide +kernel
theorem dX6_seen_61 : decode cX6_seen 61 = .ok (.aload_n 0, 1) := by decide +kernel
theorem dX6_seen_62 : decode cX6_seen 62 = .ok (.getfield 153, 3) := by decide +kernel
theorem dX6_seen_65 : decode cX6_seen 65 = .ok (.imul, 1) := by decide +kernel
theorem dX6_seen_66 : decode cX6_seen 66 = .ok (.iconst 1, 1) := by decide +kernel
theorem dX6_seen_67 : decode cX6_seen 67 = .ok (.iadd, 1) := by decide +kernel
theorem dX6_seen_68 : decode cX6_seen 68 = .ok (.iload_n 2, 1) := by decide +kernel
theorem dX6_seen_69 : decode cX6_seen 69 = .ok (.iastore, 1) := by decide +kernel
theorem dX6_seen_70 : decode cX6_seen 70 = .ok (.aload_n 0, 1) := by decide +kernel
theorem dX6_seen_71 : decode cX6_seen 71 = .ok (.getfield 16, 3) := by decide +kernel
theorem dX6_seen_74 : decode cX6_seen 74 = .ok (.iconst 3, 1) := by decide +kernel
theorem dX6_seen_75 : decode cX6_seen 75 = .ok (.aload_n 0, 1) := by decide +kernel
theorem dX6_seen_76 : decode cX6_seen 76 = .ok (.getfield 153, 3) := by decide +kernel
theorem dX6_seen_79 : decode cX6_seen 79 = .ok (.imul, 1) := by decide +kernel
theorem dX6_seen_80 : decode cX6_seen 80 = .ok (.iconst 2, 1) := by decide +kernel
theorem dX6_seen_81 : decode cX6_seen 81 = .ok (.iadd, 1) := by decide +kernel
theorem dX6_seen_82 : decode cX6_seen 82 = .ok (.iload_n 3, 1) := by decide +kernel
theorem dX6_seen_83 : decode cX6_seen 83 = .ok (.iastore, 1) := by decide +kernel
theorem dX6_seen_84 : decode cX6_seen 84 = .ok (.aload_n 0, 1) := by decide +kernel
theorem dX6_seen_85 : decode cX6_seen 85 = .ok (.dup, 1) := by decide +kernel
theorem dX6_seen_86 : decode cX6_seen 86 = .ok (.getfield 153, 3) := by decide +kernel
theorem dX6_seen_89 : decode cX6_seen 89 = .ok (.iconst 1, 1) := by decide +kernel
theorem dX6_seen_90 : decode cX6_seen 90 = .ok (.iadd, 1) := by decide +kernel
theorem dX6_seen_91 : decode cX6_seen 91 = .ok (.putfield 153, 3) := by decide +kernel
theorem dX6_seen_94 : decode cX6_seen 94 = .ok (.aload_n 0, 1) := by decide +kernel
theorem dX6_seen_95 : decode cX6_seen 95 = .ok (.getfield 153, 3) := by decide +kernel
theorem dX6_seen_98 : decode cX6_seen 98 = .ok (.ireturn, 1) := by decide +kernel
theorem dX6_shoe_0 : decode cX6_shoe 0 = .ok (.aload_n 0, 1) := by decide +kernel
theorem dX6_shoe_1 : decode cX6_shoe 1 = .ok (.iload_n 1, 1) := by decide +kernel
theorem dX6_shoe_2 : decode cX6_shoe 2 = .ok (.invokevirtual 90, 3) := by decide +kernel
theorem dX6_shoe_5 : decode cX6_shoe 5 = .ok (.ifCond .ne 5, 3) := by decide +kernel
theorem dX6_shoe_8 : decode cX6_shoe 8 = .ok (.iconst 1, 1) := by decide +kernel
theorem dX6_shoe_9 : decode cX6_shoe 9 = .ok (.ireturn, 1) := by decide +kernel
theorem dX6_shoe_10 : decode cX6_shoe 10 = .ok (.aload_n 0, 1) := by decide +kernel
theorem dX6_shoe_11 : decode cX6_shoe 11 = .ok (.getfield 13, 3) := by decide +kernel
theorem dX6_shoe_14 : decode cX6_shoe 14 = .ok (.bipush 87, 2) := by decide +kernel
theorem dX6_shoe_16 : decode cX6_shoe 16 = .ok (.dup2, 1) := by decide +kernel
theorem dX6_shoe_17 : decode cX6_shoe 17 = .ok (.iaload, 1) := by decide +kernel
theorem dX6_shoe_18 : decode cX6_shoe 18 = .ok (.iconst 1, 1) := by decide +kernel
theorem dX6_shoe_19 : decode cX6_shoe 19 = .ok (.iload_n 1, 1) := by decide +kernel
theorem dX6_shoe_20 : decode cX6_shoe 20 = .ok (.ishl, 1) := by decide +kernel
theorem dX6_shoe_21 : decode cX6_shoe 21 = .ok (.ixor, 1) := by decide +kernel
theorem dX6_shoe_22 : decode cX6_shoe 22 = .ok (.iastore, 1) := by decide +kernel
theorem dX6_shoe_23 : decode cX6_shoe 23 = .ok (.iconst 0, 1) := by decide +kernel
theorem dX6_shoe_24 : decode cX6_shoe 24 = .ok (.ireturn, 1) := by decide +kernel
theorem dX6_shutIn_0 : decode cX6_shutIn 0 = .ok (.iconst 0, 1) := by decide +kernel
theorem dX6_shutIn_1 : decode cX6_shutIn 1 = .ok (.istore_n 1, 1) := by decide +kernel
theorem dX6_shutIn_2 : decode cX6_shutIn 2 = .ok (.iconst 0, 1) := by decide +kernel
theorem dX6_shutIn_3 : decode cX6_shutIn 3 = .ok (.istore_n 2, 1) := by decide +kernel
theorem dX6_shutIn_4 : decode cX6_shutIn 4 = .ok (.iload_n 2, 1) := by decide +kernel
theorem dX6_shutIn_5 : decode cX6_shutIn 5 = .ok (.bipush 6, 2) := by decide +kernel
theorem dX6_shutIn_7 : decode cX6_shutIn 7 = .ok (.if_icmp .ge 43, 3) := by decide +kernel
theorem dX6_shutIn_10 : decode cX6_shutIn 10 = .ok (.iload_n 1, 1) := by decide +kernel
theorem dX6_shutIn_11 : decode cX6_shutIn 11 = .ok (.aload_n 0, 1) := by decide +kernel
theorem dX6_shutIn_12 : decode cX6_shutIn 12 = .ok (.iload_n 2, 1) := by decide +kernel
theorem dX6_shutIn_13 : decode cX6_shutIn 13 = .ok (.invokevirtual 90, 3) := by decide +kernel
theorem dX6_shutIn_16 : decode cX6_shutIn 16 = .ok (.ifCond .eq 25, 3) := by decide +kernel
theorem dX6_shutIn_19 : decode cX6_shutIn 19 = .ok (.aload_n 0, 1) := by decide +kernel
theorem dX6_shutIn_20 : decode cX6_shutIn 20 = .ok (.aload_n 0, 1) := by decide +kernel
theorem dX6_shutIn_21 : decode cX6_shutIn 21 = .ok (.getfield 13, 3) := by decide +kernel
theorem dX6_shutIn_24 : decode cX6_shutIn 24 = .ok (.bipush 81, 2) := by decide +kernel
theorem dX6_shutIn_26 : decode cX6_shutIn 26 = .ok (.iload_n 2, 1) := by decide +kernel
theorem dX6_shutIn_27 : decode cX6_shutIn 27 = .ok (.iadd, 1) := by decide +kernel
theorem dX6_shutIn_28 : decode cX6_shutIn 28 = .ok (.iaload, 1) := by decide +kernel
theorem dX6_shutIn_29 : decode cX6_shutIn 29 = .ok (.invokevirtual 104, 3) := by decide +kernel
theorem dX6_shutIn_32 : decode cX6_shutIn 32 = .ok (.ifCond .ne 9, 3) := by decide +kernel
theorem dX6_shutIn_35 : decode cX6_shutIn 35 = .ok (.iconst 1, 1) := by decide +kernel
theorem dX6_shutIn_36 : decode cX6_shutIn 36 = .ok (.iload_n 2, 1) := by decide +kernel
theorem dX6_shutIn_37 : decode cX6_shutIn 37 = .ok (.ishl, 1) := by decide +kernel
theorem dX6_shutIn_38 : decode cX6_shutIn 38 = .ok (.goto 4, 3) := by decide +kernel
theorem dX6_shutIn_41 : decode cX6_shutIn 41 = .ok (.iconst 0, 1) := by decide +kernel
theorem dX6_shutIn_42 : decode cX6_shutIn 42 = .ok (.ior, 1) := by decide +kernel
theorem dX6_shutIn_43 : decode cX6_shutIn 43 = .ok (.istore_n 1, 1) := by decide +kernel
theorem dX6_shutIn_44 : decode cX6_shutIn 44 = .ok (.iinc 2 1, 3) := by decide +kernel
theorem dX6_shutIn_47 : decode cX6_shutIn 47 = .ok (.goto (-43), 3) := by decide +kernel
theorem dX6_shutIn_50 : decode cX6_shutIn 50 = .ok (.iload_n 1, 1) := by decide +kernel
theorem dX6_shutIn_51 : decode cX6_shutIn 51 = .ok (.ireturn, 1) := by decide +kernel
theorem dX6_strokes_0 : decode cX6_strokes 0 = .ok (.aload_n 0, 1) := by decide +kernel
theorem dX6_strokes_1 : decode cX6_strokes 1 = .ok (.invokevirtual 67, 3) := by decide +kernel
theorem dX6_strokes_4 : decode cX6_strokes 4 = .ok (.iconst 0, 1) := by decide +kernel
theorem dX6_strokes_5 : decode cX6_strokes 5 = .ok (.istore_n 1, 1) := by decide +kernel
theorem dX6_strokes_6 : decode cX6_strokes 6 = .ok (.iconst 0, 1) := by decide +kernel
theorem dX6_strokes_7 : decode cX6_strokes 7 = .ok (.istore_n 2, 1) := by decide +kernel
theorem dX6_strokes_8 : decode cX6_strokes 8 = .ok (.iconst 0, 1) := by decide +kernel
theorem dX6_strokes_9 : decode cX6_strokes 9 = .ok (.istore_n 3, 1) := by decide +kernel
theorem dX6_strokes_10 : decode cX6_strokes 10 = .ok (.iload_n 3, 1) := by decide +kernel
theorem dX6_strokes_11 : decode cX6_strokes 11 = .ok (.bipush 9, 2) := by decide +kernel
theorem dX6_strokes_13 : decode cX6_strokes 13 = .ok (.if_icmp .ge 107, 3) := by decide +kernel
theorem dX6_strokes_16 : decode cX6_strokes 16 = .ok (.iload_n 2, 1) := by decide +kernel
theorem dX6_strokes_17 : decode cX6_strokes 17 = .ok (.iload_n 3, 1) := by decide +kernel
theorem dX6_strokes_18 : decode cX6_strokes 18 = .ok (.invokestatic 59, 3) := by decide +kernel
theorem dX6_strokes_21 : decode cX6_strokes 21 = .ok (.ifCond .ne 93, 3) := by decide +kernel
theorem dX6_strokes_24 : decode cX6_strokes 24 = .ok (.aload_n 0, 1) := by decide +kernel
theorem dX6_strokes_25 : decode cX6_strokes 25 = .ok (.iload_n 3, 1) := by decide +kernel
theorem dX6_strokes_26 : decode cX6_strokes 26 = .ok (.invokevirtual 142, 3) := by decide +kernel
theorem dX6_strokes_29 : decode cX6_strokes 29 = .ok (.istore 4, 2) := by decide +kernel
theorem dX6_strokes_31 : decode cX6_strokes 31 = .ok (.iconst 0, 1) := by decide +kernel
theorem dX6_strokes_32 : decode cX6_strokes 32 = .ok (.istore 5, 2) := by decide +kernel
theorem dX6_strokes_34 : decode cX6_strokes 34 = .ok (.iconst 0, 1) := by decide +kernel
theorem dX6_strokes_35 : decode cX6_strokes 35 = .ok (.istore 6, 2) := by decide +kernel
theorem dX6_strokes_37 : decode cX6_strokes 37 = .ok (.iload 6, 2) := by decide +kernel
theorem dX6_strokes_39 : decode cX6_strokes 39 = .ok (.bipush 9, 2) := by decide +kernel
theorem dX6_strokes_41 : decode cX6_strokes 41 = .ok (.if_icmp .ge 39, 3) := by decide +kernel
theorem dX6_strokes_44 : decode cX6_strokes 44 = .ok (.iload 5, 2) := by decide +kernel
theorem dX6_strokes_46 : decode cX6_strokes 46 = .ok (.iload 4, 2) := by decide +kernel
theorem dX6_strokes_48 : decode cX6_strokes 48 = .ok (.iload 6, 2) := by decide +kernel
theorem dX6_strokes_50 : decode cX6_strokes 50 = .ok (.invokestatic 59, 3) := by decide +kernel
theorem dX6_strokes_53 : decode cX6_strokes 53 = .ok (.ifCond .eq 17, 3) := by decide +kernel
theorem dX6_strokes_56 : decode cX6_strokes 56 = .ok (.aload_n 0, 1) := by decide +kernel
theorem dX6_strokes_57 : decode cX6_strokes 57 = .ok (.iload 6, 2) := by decide +kernel
theorem dX6_strokes_59 : decode cX6_strokes 59 = .ok (.invokevirtual 104, 3) := by decide +kernel
theorem dX6_strokes_62 : decode cX6_strokes 62 = .ok (.invokestatic 74, 3) := by decide +kernel
theorem dX6_strokes_65 : decode cX6_strokes 65 = .ok (.iconst 2, 1) := by decide +kernel
theorem dX6_strokes_66 : decode cX6_strokes 66 = .ok (.irem, 1) := by decide +kernel
theorem dX6_strokes_67 : decode cX6_strokes 67 = .ok (.goto 4, 3) := by decide +kernel
theorem dX6_strokes_70 : decode cX6_strokes 70 = .ok (.iconst 0, 1) := by decide +kernel
theorem dX6_strokes_71 : decode cX6_strokes 71 = .ok (.iadd, 1) := by decide +kernel
theorem dX6_strokes_72 : decode cX6_strokes 72 = .ok (.istore 5, 2) := by decide +kernel
theorem dX6_strokes_74 : decode cX6_strokes 74 = .ok (.iinc 6 1, 3) := by decide +kernel
theorem dX6_strokes_77 : decode cX6_strokes 77 = .ok (.goto (-40), 3) := by decide +kernel
theorem dX6_strokes_80 : decode cX6_strokes 80 = .ok (.iload_n 2, 1) := by decide +kernel
theorem dX6_strokes_81 : decode cX6_strokes 81 = .ok (.iload 4, 2) := by decide +kernel
theorem dX6_strokes_83 : decode cX6_strokes 83 = .ok (.ior, 1) := by decide +kernel
theorem dX6_strokes_84 : decode cX6_strokes 84 = .ok (.istore_n 2, 1) := by decide +kernel
theorem dX6_strokes_85 : decode cX6_strokes 85 = .ok (.iload_n 1, 1) := by decide +kernel
theorem dX6_strokes_86 : decode cX6_strokes 86 = .ok (.iload 4, 2) := by decide +kernel
theorem dX6_strokes_88 : decode cX6_strokes 88 = .ok (.invokestatic 74, 3) := by decide +kernel
theorem dX6_strokes_91 : decode cX6_strokes 91 = .ok (.iconst 1, 1) := by decide +kernel
theorem dX6_strokes_92 : decode cX6_strokes 92 = .ok (.if_icmp .ne 7, 3) := by decide +kernel
theorem dX6_strokes_95 : decode cX6_strokes 95 = .ok (.iconst 0, 1) := by decide +kernel
theorem dX6_strokes_96 : decode cX6_strokes 96 = .ok (.goto 16, 3) := by decide +kernel
theorem dX6_strokes_99 : decode cX6_strokes 99 = .ok (.iload 5, 2) := by decide +kernel
theorem dX6_strokes_101 : decode cX6_strokes 101 = .ok (.ifCond .ne 7, 3) := by decide +kernel
theorem dX6_strokes_104 : decode cX6_strokes 104 = .ok (.iconst 1, 1) := by decide +kernel
theorem dX6_strokes_105 : decode cX6_strokes 105 = .ok (.goto 7, 3) := by decide +kernel
theorem dX6_strokes_108 : decode cX6_strokes 108 = .ok (.iload 5, 2) := by decide +kernel
theorem dX6_strokes_110 : decode cX6_strokes 110 = .ok (.iconst 2, 1) := by decide +kernel
theorem dX6_strokes_111 : decode cX6_strokes 111 = .ok (.idiv, 1) := by decide +kernel
theorem dX6_strokes_112 : decode cX6_strokes 112 = .ok (.iadd, 1) := by decide +kernel
theorem dX6_strokes_113 : decode cX6_strokes 113 = .ok (.istore_n 1, 1) := by decide +kernel
theorem dX6_strokes_114 : decode cX6_strokes 114 = .ok (.iinc 3 1, 3) := by decide +kernel
theorem dX6_strokes_117 : decode cX6_strokes 117 = .ok (.goto (-107), 3) := by decide +kernel
theorem dX6_strokes_120 : decode cX6_strokes 120 = .ok (.iload_n 1, 1) := by decide +kernel
theorem dX6_strokes_121 : decode cX6_strokes 121 = .ok (.ireturn, 1) := by decide +kernel
theorem dX6_tacks_0 : decode cX6_tacks 0 = .ok (.iload_n 1, 1) := by decide +kernel
theorem dX6_tacks_1 : decode cX6_tacks 1 = .ok (.iconst 0, 1) := by decide +kernel
theorem dX6_tacks_2 : decode cX6_tacks 2 = .ok (.bipush 99, 2) := by decide +kernel
theorem dX6_tacks_4 : decode cX6_tacks 4 = .ok (.invokestatic 51, 3) := by decide +kernel
theorem dX6_tacks_7 : decode cX6_tacks 7 = .ok (.ifCond .eq 23, 3) := by decide +kernel
theorem dX6_tacks_10 : decode cX6_tacks 10 = .ok (.iload_n 2, 1) := by decide +kernel
theorem dX6_tacks_11 : decode cX6_tacks 11 = .ok (.iconst 1, 1) := by decide +kernel
theorem dX6_tacks_12 : decode cX6_tacks 12 = .ok (.sipush 511, 3) := by decide +kernel
theorem dX6_tacks_15 : decode cX6_tacks 15 = .ok (.invokestatic 51, 3) := by decide +kernel
theorem dX6_tacks_18 : decode cX6_tacks 18 = .ok (.ifCond .eq 12, 3) := by decide +kernel
theorem dX6_tacks_21 : decode cX6_tacks 21 = .ok (.iload_n 3, 1) := by decide +kernel
theorem dX6_tacks_22 : decode cX6_tacks 22 = .ok (.iconst 0, 1) := by decide +kernel
theorem dX6_tacks_23 : decode cX6_tacks 23 = .ok (.iconst 1, 1) := by decide +kernel
theorem dX6_tacks_24 : decode cX6_tacks 24 = .ok (.invokestatic 51, 3) := by decide +kernel
theorem dX6_tacks_27 : decode cX6_tacks 27 = .ok (.ifCond .ne 6, 3) := by decide +kernel
theorem dX6_tacks_30 : decode cX6_tacks 30 = .ok (.bipush (-2), 2) := by decide +kernel
theorem dX6_tacks_32 : decode cX6_tacks 32 = .ok (.ireturn, 1) := by decide +kernel
theorem dX6_tacks_33 : decode cX6_tacks 33 = .ok (.bipush (-6), 2) := by decide +kernel
theorem dX6_tacks_35 : decode cX6_tacks 35 = .ok (.istore 4, 2) := by decide +kernel
theorem dX6_tacks_37 : decode cX6_tacks 37 = .ok (.iconst 0, 1) := by decide +kernel
theorem dX6_tacks_38 : decode cX6_tacks 38 = .ok (.istore 5, 2) := by decide +kernel
theorem dX6_tacks_40 : decode cX6_tacks 40 = .ok (.iload 5, 2) := by decide +kernel
theorem dX6_tacks_42 : decode cX6_tacks 42 = .ok (.iload_n 1, 1) := by decide +kernel
theorem dX6_tacks_43 : decode cX6_tacks 43 = .ok (.if_icmp .gt 85, 3) := by decide +kernel
theorem dX6_tacks_46 : decode cX6_tacks 46 = .ok (.bipush (-6), 2) := by decide +kernel
theorem dX6_tacks_48 : decode cX6_tacks 48 = .ok (.istore 4, 2) := by decide +kernel
theorem dX6_tacks_50 : decode cX6_tacks 50 = .ok (.bipush 9, 2) := by decide +kernel
theorem dX6_tacks_52 : decode cX6_tacks 52 = .ok (.istore 6, 2) := by decide +kernel
theorem dX6_tacks_54 : decode cX6_tacks 54 = .ok (.iload 6, 2) := by decide +kernel
theorem dX6_tacks_56 : decode cX6_tacks 56 = .ok (.ifCond .le 49, 3) := by decide +kernel
theorem dX6_tacks_59 : decode cX6_tacks 59 = .ok (.iload_n 2, 1) := by decide +kernel
theorem dX6_tacks_60 : decode cX6_tacks 60 = .ok (.iload 6, 2) := by decide +kernel
theorem dX6_tacks_62 : decode cX6_tacks 62 = .ok (.iconst 1, 1) := by decide +kernel
theorem dX6_tacks_63 : decode cX6_tacks 63 = .ok (.isub, 1) := by decide +kernel
theorem dX6_tacks_64 : decode cX6_tacks 64 = .ok (.invokestatic 59, 3) := by decide +kernel
theorem dX6_tacks_67 : decode cX6_tacks 67 = .ok (.ifCond .eq 28, 3) := by decide +kernel
theorem dX6_tacks_70 : decode cX6_tacks 70 = .ok (.iload 6, 2) := by decide +kernel
theorem dX6_tacks_72 : decode cX6_tacks 72 = .ok (.iload 5, 2) := by decide +kernel
theorem dX6_tacks_74 : decode cX6_tacks 74 = .ok (.if_icmp .gt 21, 3) := by decide +kernel
theorem dX6_tacks_77 : decode cX6_tacks 77 = .ok (.aload_n 0, 1) := by decide +kernel
theorem dX6_tacks_78 : decode cX6_tacks 78 = .ok (.getfield 37, 3) := by decide +kernel
theorem dX6_tacks_81 : decode cX6_tacks 81 = .ok (.iload 5, 2) := by decide +kernel
theorem dX6_tacks_83 : decode cX6_tacks 83 = .ok (.iload 6, 2) := by decide +kernel
theorem dX6_tacks_85 : decode cX6_tacks 85 = .ok (.isub, 1) := by decide +kernel
theorem dX6_tacks_86 : decode cX6_tacks 86 = .ok (.baload, 1) := by decide +kernel
theorem dX6_tacks_87 : decode cX6_tacks 87 = .ok (.ifCond .ne 8, 3) := by decide +kernel
theorem dX6_tacks_90 : decode cX6_tacks 90 = .ok (.iload 6, 2) := by decide +kernel
theorem dX6_tacks_92 : decode cX6_tacks 92 = .ok (.goto 5, 3) := by decide +kernel
theorem dX6_tacks_95 : decode cX6_tacks 95 = .ok (.iload 4, 2) := by decide +kernel
theorem dX6_tacks_97 : decode cX6_tacks 97 = .ok (.istore 4, 2) := by decide +kernel
theorem dX6_tacks_99 : decode cX6_tacks 99 = .ok (.iinc 6 (-1), 3) := by decide +kernel
theorem dX6_tacks_102 : decode cX6_tacks 102 = .ok (.goto (-48), 3) := by decide +kernel
theorem dX6_tacks_105 : decode cX6_tacks 105 = .ok (.aload_n 0, 1) := by decide +kernel
theorem dX6_tacks_106 : decode cX6_tacks 106 = .ok (.getfield 37, 3) := by decide +kernel
theorem dX6_tacks_109 : decode cX6_tacks 109 = .ok (.iload 5, 2) := by decide +kernel
theorem dX6_tacks_111 : decode cX6_tacks 111 = .ok (.iload 4, 2) := by decide +kernel
theorem dX6_tacks_113 : decode cX6_tacks 113 = .ok (.ifCond .le 7, 3) := by decide +kernel
theorem dX6_tacks_116 : decode cX6_tacks 116 = .ok (.iconst 1, 1) := by decide +kernel
theorem dX6_tacks_117 : decode cX6_tacks 117 = .ok (.goto 4, 3) := by decide +kernel
theorem dX6_tacks_120 : decode cX6_tacks 120 = .ok (.iconst 0, 1) := by decide +kernel
theorem dX6_tacks_121 : decode cX6_tacks 121 = .ok (.bastore, 1) := by decide +kernel
theorem dX6_tacks_122 : decode cX6_tacks 122 = .ok (.iinc 5 1, 3) := by decide +kernel
theorem dX6_tacks_125 : decode cX6_tacks 125 = .ok (.goto (-85), 3) := by decide +kernel
theorem dX6_tacks_128 : decode cX6_tacks 128 = .ok (.iload_n 3, 1) := by decide +kernel
theorem dX6_tacks_129 : decode cX6_tacks 129 = .ok (.iconst 1, 1) := by decide +kernel
theorem dX6_tacks_130 : decode cX6_tacks 130 = .ok (.if_icmp .ne 8, 3) := by decide +kernel
theorem dX6_tacks_133 : decode cX6_tacks 133 = .ok (.iload 4, 2) := by decide +kernel
theorem dX6_tacks_135 : decode cX6_tacks 135 = .ok (.goto 13, 3) := by decide +kernel
theorem dX6_tacks_138 : decode cX6_tacks 138 = .ok (.iload 4, 2) := by decide +kernel
theorem dX6_tacks_140 : decode cX6_tacks 140 = .ok (.ifCond .le 7, 3) := by decide +kernel
theorem dX6_tacks_143 : decode cX6_tacks 143 = .ok (.iconst 1, 1) := by decide +kernel
theorem dX6_tacks_144 : decode cX6_tacks 144 = .ok (.goto 4, 3) := by decide +kernel
theorem dX6_tacks_147 : decode cX6_tacks 147 = .ok (.iconst 0, 1) := by decide +kernel
theorem dX6_tacks_148 : decode cX6_tacks 148 = .ok (.ireturn, 1) := by decide +kernel
theorem dX6_tellOf_0 : decode cX6_tellOf 0 = .ok (.iload_n 0, 1) := by decide +kernel
theorem dX6_tellOf_1 : decode cX6_tellOf 1 = .ok (.bipush 10, 2) := by decide +kernel
theorem dX6_tellOf_3 : decode cX6_tellOf 3 = .ok (.idiv, 1) := by decide +kernel
theorem dX6_tellOf_4 : decode cX6_tellOf 4 = .ok (.bipush 10, 2) := by decide +kernel
theorem dX6_tellOf_6 : decode cX6_tellOf 6 = .ok (.irem, 1) := by decide +kernel
theorem dX6_tellOf_7 : decode cX6_tellOf 7 = .ok (.istore_n 3, 1) := by decide +kernel
theorem dX6_tellOf_8 : decode cX6_tellOf 8 = .ok (.iload_n 0, 1) := by decide +kernel
theorem dX6_tellOf_9 : decode cX6_tellOf 9 = .ok (.bipush 10, 2) := by decide +kernel
theorem dX6_tellOf_11 : decode cX6_tellOf 11 = .ok (.irem, 1) := by decide +kernel
theorem dX6_tellOf_12 : decode cX6_tellOf 12 = .ok (.istore 4, 2) := by decide +kernel
theorem dX6_tellOf_14 : decode cX6_tellOf 14 = .ok (.iload_n 1, 1) := by decide +kernel
theorem dX6_tellOf_15 : decode cX6_tellOf 15 = .ok (.iconst 1, 1) := by decide +kernel
theorem dX6_tellOf_16 : decode cX6_tellOf 16 = .ok (.if_icmp .ne 12, 3) := by decide +kernel
theorem dX6_tellOf_19 : decode cX6_tellOf 19 = .ok (.iload_n 2, 1) := by decide +kernel
theorem dX6_tellOf_20 : decode cX6_tellOf 20 = .ok (.iload_n 3, 1) := by decide +kernel
theorem dX6_tellOf_21 : decode cX6_tellOf 21 = .ok (.iload 4, 2) := by decide +kernel
theorem dX6_tellOf_23 : decode cX6_tellOf 23 = .ok (.iadd, 1) := by decide +kernel
theorem dX6_tellOf_24 : decode cX6_tellOf 24 = .ok (.imul, 1) := by decide +kernel
theorem dX6_tellOf_25 : decode cX6_tellOf 25 = .ok (.goto 16, 3) := by decide +kernel
theorem dX6_tellOf_28 : decode cX6_tellOf 28 = .ok (.iload_n 0, 1) := by decide +kernel
theorem dX6_tellOf_29 : decode cX6_tellOf 29 = .ok (.bipush 100, 2) := by decide +kernel
theorem dX6_tellOf_31 : decode cX6_tellOf 31 = .ok (.idiv, 1) := by decide +kernel
theorem dX6_tellOf_32 : decode cX6_tellOf 32 = .ok (.iload_n 2, 1) := by decide +kernel
theorem dX6_tellOf_33 : decode cX6_tellOf 33 = .ok (.iload_n 3, 1) := by decide +kernel
theorem dX6_tellOf_34 : decode cX6_tellOf 34 = .ok (.iconst 2, 1) := by decide +kernel
theorem dX6_tellOf_35 : decode cX6_tellOf 35 = .ok (.iload 4, 2) := by decide +kernel
theorem dX6_tellOf_37 : decode cX6_tellOf 37 = .ok (.imul, 1) := by decide +kernel
theorem dX6_tellOf_38 : decode cX6_tellOf 38 = .ok (.iadd, 1) := by decide +kernel
theorem dX6_tellOf_39 : decode cX6_tellOf 39 = .ok (.imul, 1) := by decide +kernel
theorem dX6_tellOf_40 : decode cX6_tellOf 40 = .ok (.iadd, 1) := by decide +kernel
theorem dX6_tellOf_41 : decode cX6_tellOf 41 = .ok (.ireturn, 1) := by decide +kernel
theorem dX6_then_0 : decode cX6_then 0 = .ok (.iload_n 1, 1) := by decide +kernel
theorem dX6_then_1 : decode cX6_then 1 = .ok (.iconst 0, 1) := by decide +kernel
theorem dX6_then_2 : decode cX6_then 2 = .ok (.iconst 5, 1) := by decide +kernel
theorem dX6_then_3 : decode cX6_then 3 = .ok (.invokestatic 51, 3) := by decide +kernel
theorem dX6_then_6 : decode cX6_then 6 = .ok (.ifCond .ne 6, 3) := by decide +kernel
theorem dX6_then_9 : decode cX6_then 9 = .ok (.bipush (-2), 2) := by decide +kernel
theorem dX6_then_11 : decode cX6_then 11 = .ok (.ireturn, 1) := by decide +kernel
theorem dX6_then_12 : decode cX6_then 12 = .ok (.aload_n 0, 1) := by decide +kernel
theorem dX6_then_13 : decode cX6_then 13 = .ok (.invokevirtual 132, 3) := by decide +kernel
theorem dX6_then_16 : decode cX6_then 16 = .ok (.ifCond .ge 6, 3) := by decide +kernel
theorem dX6_then_19 : decode cX6_then 19 = .ok (.bipush (-5), 2) := by decide +kernel
theorem dX6_then_21 : decode cX6_then 21 = .ok (.ireturn, 1) := by decide +kernel
theorem dX6_then_22 : decode cX6_then 22 = .ok (.iload_n 1, 1) := by decide +kernel
theorem dX6_then_23 : decode cX6_then 23 = .ok (.tableswitch 52 0 3 #[29, 34, 39, 44], 29) := by decide +kernel
theorem dX6_then_52 : decode cX6_then 52 = .ok (.aload_n 0, 1) := by decide +kernel
theorem dX6_then_53 : decode cX6_then 53 = .ok (.invokevirtual 70, 3) := by decide +kernel
theorem dX6_then_56 : decode cX6_then 56 = .ok (.ireturn, 1) := by decide +kernel
theorem dX6_then_57 : decode cX6_then 57 = .ok (.aload_n 0, 1) := by decide +kernel
theorem dX6_then_58 : decode cX6_then 58 = .ok (.invokevirtual 135, 3) := by decide +kernel
theorem dX6_then_61 : decode cX6_then 61 = .ok (.ireturn, 1) := by decide +kernel
theorem dX6_then_62 : decode cX6_then 62 = .ok (.aload_n 0, 1) := by decide +kernel
theorem dX6_then_63 : decode cX6_then 63 = .ok (.invokevirtual 138, 3) := by decide +kernel
theorem dX6_then_66 : decode cX6_then 66 = .ok (.ireturn, 1) := by decide +kernel
theorem dX6_then_67 : decode cX6_then 67 = .ok (.aload_n 0, 1) := by decide +kernel
theorem dX6_then_68 : decode cX6_then 68 = .ok (.getfield 13, 3) := by decide +kernel
theorem dX6_then_71 : decode cX6_then 71 = .ok (.bipush 88, 2) := by decide +kernel
theorem dX6_then_73 : decode cX6_then 73 = .ok (.iaload, 1) := by decide +kernel
theorem dX6_then_74 : decode cX6_then 74 = .ok (.ireturn, 1) := by decide +kernel
theorem dX6_then_75 : decode cX6_then 75 = .ok (.iload_n 1, 1) := by decide +kernel
theorem dX6_then_76 : decode cX6_then 76 = .ok (.iconst 4, 1) := by decide +kernel
theorem dX6_then_77 : decode cX6_then 77 = .ok (.if_icmp .ne 10, 3) := by decide +kernel
theorem dX6_then_80 : decode cX6_then 80 = .ok (.aload_n 0, 1) := by decide +kernel
theorem dX6_then_81 : decode cX6_then 81 = .ok (.getfield 84, 3) := by decide +kernel
theorem dX6_then_84 : decode cX6_then 84 = .ok (.goto 7, 3) := by decide +kernel
theorem dX6_then_87 : decode cX6_then 87 = .ok (.aload_n 0, 1) := by decide +kernel
theorem dX6_then_88 : decode cX6_then 88 = .ok (.getfield 87, 3) := by decide +kernel
theorem dX6_then_91 : decode cX6_then 91 = .ok (.ireturn, 1) := by decide +kernel
theorem dX6_told_0 : decode cX6_told 0 = .ok (.iload_n 1, 1) := by decide +kernel
theorem dX6_told_1 : decode cX6_told 1 = .ok (.bipush 100, 2) := by decide +kernel
theorem dX6_told_3 : decode cX6_told 3 = .ok (.if_icmp .lt 48, 3) := by decide +kernel
theorem dX6_told_6 : decode cX6_told 6 = .ok (.iload_n 1, 1) := by decide +kernel
theorem dX6_told_7 : decode cX6_told 7 = .ok (.bipush 10, 2) := by decide +kernel
theorem dX6_told_9 : decode cX6_told 9 = .ok (.idiv, 1) := by decide +kernel
theorem dX6_told_10 : decode cX6_told 10 = .ok (.bipush 10, 2) := by decide +kernel
theorem dX6_told_12 : decode cX6_told 12 = .ok (.isub, 1) := by decide +kernel
theorem dX6_told_13 : decode cX6_told 13 = .ok (.istore_n 2, 1) := by decide +kernel
theorem dX6_told_14 : decode cX6_told 14 = .ok (.iload_n 2, 1) := by decide +kernel
theorem dX6_told_15 : decode cX6_told 15 = .ok (.invokestatic 63, 3) := by decide +kernel
theorem dX6_told_18 : decode cX6_told 18 = .ok (.ifCond .eq 30, 3) := by decide +kernel
theorem dX6_told_21 : decode cX6_told 21 = .ok (.iload_n 1, 1) := by decide +kernel
theorem dX6_told_22 : decode cX6_told 22 = .ok (.bipush 10, 2) := by decide +kernel
theorem dX6_told_24 : decode cX6_told 24 = .ok (.irem, 1) := by decide +kernel
theorem dX6_told_25 : decode cX6_told 25 = .ok (.invokestatic 63, 3) := by decide +kernel
theorem dX6_told_28 : decode cX6_told 28 = .ok (.ifCond .eq 20, 3) := by decide +kernel
theorem dX6_told_31 : decode cX6_told 31 = .ok (.aload_n 0, 1) := by decide +kernel
theorem dX6_told_32 : decode cX6_told 32 = .ok (.getfield 7, 3) := by decide +kernel
theorem dX6_told_35 : decode cX6_told 35 = .ok (.bipush 9, 2) := by decide +kernel
theorem dX6_told_37 : decode cX6_told 37 = .ok (.iload_n 2, 1) := by decide +kernel
theorem dX6_told_38 : decode cX6_told 38 = .ok (.imul, 1) := by decide +kernel
theorem dX6_told_39 : decode cX6_told 39 = .ok (.iload_n 1, 1) := by decide +kernel
theorem dX6_told_40 : decode cX6_told 40 = .ok (.bipush 10, 2) := by decide +kernel
theorem dX6_told_42 : decode cX6_told 42 = .ok (.irem, 1) := by decide +kernel
theorem dX6_told_43 : decode cX6_told 43 = .ok (.iadd, 1) := by decide +kernel
theorem dX6_told_44 : decode cX6_told 44 = .ok (.iaload, 1) := by decide +kernel
theorem dX6_told_45 : decode cX6_told 45 = .ok (.goto 5, 3) := by decide +kernel
theorem dX6_told_48 : decode cX6_told 48 = .ok (.bipush (-2), 2) := by decide +kernel
theorem dX6_told_50 : decode cX6_told 50 = .ok (.ireturn, 1) := by decide +kernel
theorem dX6_told_51 : decode cX6_told 51 = .ok (.aload_n 0, 1) := by decide +kernel
theorem dX6_told_52 : decode cX6_told 52 = .ok (.invokevirtual 67, 3) := by decide +kernel
theorem dX6_told_55 : decode cX6_told 55 = .ok (.iload_n 1, 1) := by decide +kernel
theorem dX6_told_56 : decode cX6_told 56 = .ok (.bipush 30, 2) := by decide +kernel
theorem dX6_told_58 : decode cX6_told 58 = .ok (.if_icmp .lt 28, 3) := by decide +kernel
theorem dX6_told_61 : decode cX6_told 61 = .ok (.iload_n 1, 1) := by decide +kernel
theorem dX6_told_62 : decode cX6_told 62 = .ok (.bipush 30, 2) := by decide +kernel
theorem dX6_told_64 : decode cX6_told 64 = .ok (.bipush 38, 2) := by decide +kernel
theorem dX6_told_66 : decode cX6_told 66 = .ok (.invokestatic 51, 3) := by decide +kernel
theorem dX6_told_69 : decode cX6_told 69 = .ok (.ifCond .eq 14, 3) := by decide +kernel
theorem dX6_told_72 : decode cX6_told 72 = .ok (.aload_n 0, 1) := by decide +kernel
theorem dX6_told_73 : decode cX6_told 73 = .ok (.iload_n 1, 1) := by decide +kernel
theorem dX6_told_74 : decode cX6_told 74 = .ok (.bipush 30, 2) := by decide +kernel
theorem dX6_told_76 : decode cX6_told 76 = .ok (.isub, 1) := by decide +kernel
theorem dX6_told_77 : decode cX6_told 77 = .ok (.invokevirtual 104, 3) := by decide +kernel
theorem dX6_told_80 : decode cX6_told 80 = .ok (.goto 5, 3) := by decide +kernel
theorem dX6_told_83 : decode cX6_told 83 = .ok (.bipush (-2), 2) := by decide +kernel
theorem dX6_told_85 : decode cX6_told 85 = .ok (.ireturn, 1) := by decide +kernel
theorem dX6_told_86 : decode cX6_told 86 = .ok (.iload_n 1, 1) := by decide +kernel
theorem dX6_told_87 : decode cX6_told 87 = .ok (.bipush 10, 2) := by decide +kernel
theorem dX6_told_89 : decode cX6_told 89 = .ok (.if_icmp .lt 51, 3) := by decide +kernel
theorem dX6_told_92 : decode cX6_told 92 = .ok (.iload_n 1, 1) := by decide +kernel
theorem dX6_told_93 : decode cX6_told 93 = .ok (.bipush 10, 2) := by decide +kernel
theorem dX6_told_95 : decode cX6_told 95 = .ok (.irem, 1) := by decide +kernel
theorem dX6_told_96 : decode cX6_told 96 = .ok (.istore_n 2, 1) := by decide +kernel
theorem dX6_told_97 : decode cX6_told 97 = .ok (.aload_n 0, 1) := by decide +kernel
theorem dX6_told_98 : decode cX6_told 98 = .ok (.iload_n 2, 1) := by decide +kernel
theorem dX6_told_99 : decode cX6_told 99 = .ok (.invokevirtual 90, 3) := by decide +kernel
theorem dX6_told_102 : decode cX6_told 102 = .ok (.ifCond .ne 8, 3) := by decide +kernel
theorem dX6_told_105 : decode cX6_told 105 = .ok (.bipush (-2), 2) := by decide +kernel
theorem dX6_told_107 : decode cX6_told 107 = .ok (.goto 32, 3) := by decide +kernel
theorem dX6_told_110 : decode cX6_told 110 = .ok (.iload_n 1, 1) := by decide +kernel
theorem dX6_told_111 : decode cX6_told 111 = .ok (.bipush 20, 2) := by decide +kernel
theorem dX6_told_113 : decode cX6_told 113 = .ok (.if_icmp .ge 15, 3) := by decide +kernel
theorem dX6_told_116 : decode cX6_told 116 = .ok (.aload_n 0, 1) := by decide +kernel
theorem dX6_told_117 : decode cX6_told 117 = .ok (.getfield 7, 3) := by decide +kernel
theorem dX6_told_120 : decode cX6_told 120 = .ok (.bipush 81, 2) := by decide +kernel
theorem dX6_told_122 : decode cX6_told 122 = .ok (.iload_n 2, 1) := by decide +kernel
theorem dX6_told_123 : decode cX6_told 123 = .ok (.iadd, 1) := by decide +kernel
theorem dX6_told_124 : decode cX6_told 124 = .ok (.iaload, 1) := by decide +kernel
theorem dX6_told_125 : decode cX6_told 125 = .ok (.goto 14, 3) := by decide +kernel
theorem dX6_told_128 : decode cX6_told 128 = .ok (.aload_n 0, 1) := by decide +kernel
theorem dX6_told_129 : decode cX6_told 129 = .ok (.getfield 7, 3) := by decide +kernel
theorem dX6_told_132 : decode cX6_told 132 = .ok (.bipush 87, 2) := by decide +kernel
theorem dX6_told_134 : decode cX6_told 134 = .ok (.iaload, 1) := by decide +kernel
theorem dX6_told_135 : decode cX6_told 135 = .ok (.iload_n 2, 1) := by decide +kernel
theorem dX6_told_136 : decode cX6_told 136 = .ok (.ishr, 1) := by decide +kernel
theorem dX6_told_137 : decode cX6_told 137 = .ok (.iconst 1, 1) := by decide +kernel
theorem dX6_told_138 : decode cX6_told 138 = .ok (.iand, 1) := by decide +kernel
theorem dX6_told_139 : decode cX6_told 139 = .ok (.ireturn, 1) := by decide +kernel
theorem dX6_told_140 : decode cX6_told 140 = .ok (.iload_n 1, 1) := by decide +kernel
theorem dX6_told_141 : decode cX6_told 141 = .ok (.tableswitch 45 0 2 #[27, 32, 37], 27) := by decide +kernel
theorem dX6_told_168 : decode cX6_told 168 = .ok (.aload_n 0, 1) := by decide +kernel
theorem dX6_told_169 : decode cX6_told 169 = .ok (.getfield 78, 3) := by decide +kernel
theorem dX6_told_172 : decode cX6_told 172 = .ok (.ireturn, 1) := by decide +kernel
theorem dX6_told_173 : decode cX6_told 173 = .ok (.aload_n 0, 1) := by decide +kernel
theorem dX6_told_174 : decode cX6_told 174 = .ok (.getfield 55, 3) := by decide +kernel
theorem dX6_told_177 : decode cX6_told 177 = .ok (.ireturn, 1) := by decide +kernel
theorem dX6_told_178 : decode cX6_told 178 = .ok (.aload_n 0, 1) := by decide +kernel
theorem dX6_told_179 : decode cX6_told 179 = .ok (.getfield 7, 3) := by decide +kernel
theorem dX6_told_182 : decode cX6_told 182 = .ok (.bipush 88, 2) := by decide +kernel
theorem dX6_told_184 : decode cX6_told 184 = .ok (.iaload, 1) := by decide +kernel
theorem dX6_told_185 : decode cX6_told 185 = .ok (.ireturn, 1) := by decide +kernel
theorem dX6_told_186 : decode cX6_told 186 = .ok (.iload_n 1, 1) := by decide +kernel
theorem dX6_told_187 : decode cX6_told 187 = .ok (.iconst 3, 1) := by decide +kernel
theorem dX6_told_188 : decode cX6_told 188 = .ok (.if_icmp .ne 10, 3) := by decide +kernel
theorem dX6_told_191 : decode cX6_told 191 = .ok (.aload_n 0, 1) := by decide +kernel
theorem dX6_told_192 : decode cX6_told 192 = .ok (.getfield 153, 3) := by decide +kernel
theorem dX6_told_195 : decode cX6_told 195 = .ok (.goto 5, 3) := by decide +kernel
theorem dX6_told_198 : decode cX6_told 198 = .ok (.bipush (-2), 2) := by decide +kernel
theorem dX6_told_200 : decode cX6_told 200 = .ok (.ireturn, 1) := by decide +kernel
theorem dX6_walk_0 : decode cX6_walk 0 = .ok (.aload_n 0, 1) := by decide +kernel
theorem dX6_walk_1 : decode cX6_walk 1 = .ok (.iload_n 1, 1) := by decide +kernel
theorem dX6_walk_2 : decode cX6_walk 2 = .ok (.invokevirtual 90, 3) := by decide +kernel
theorem dX6_walk_5 : decode cX6_walk 5 = .ok (.ifCond .ne 5, 3) := by decide +kernel
theorem dX6_walk_8 : decode cX6_walk 8 = .ok (.iconst 1, 1) := by decide +kernel
theorem dX6_walk_9 : decode cX6_walk 9 = .ok (.ireturn, 1) := by decide +kernel
theorem dX6_walk_10 : decode cX6_walk 10 = .ok (.aload_n 0, 1) := by decide +kernel
theorem dX6_walk_11 : decode cX6_walk 11 = .ok (.getfield 13, 3) := by decide +kernel
theorem dX6_walk_14 : decode cX6_walk 14 = .ok (.bipush 81, 2) := by decide +kernel
theorem dX6_walk_16 : decode cX6_walk 16 = .ok (.iload_n 1, 1) := by decide +kernel
theorem dX6_walk_17 : decode cX6_walk 17 = .ok (.iadd, 1) := by decide +kernel
theorem dX6_walk_18 : decode cX6_walk 18 = .ok (.iaload, 1) := by decide +kernel
theorem dX6_walk_19 : decode cX6_walk 19 = .ok (.istore_n 3, 1) := by decide +kernel
theorem dX6_walk_20 : decode cX6_walk 20 = .ok (.iload_n 3, 1) := by decide +kernel
theorem dX6_walk_21 : decode cX6_walk 21 = .ok (.iload_n 2, 1) := by decide +kernel
theorem dX6_walk_22 : decode cX6_walk 22 = .ok (.if_icmp .ne 5, 3) := by decide +kernel
theorem dX6_walk_25 : decode cX6_walk 25 = .ok (.iconst 2, 1) := by decide +kernel
theorem dX6_walk_26 : decode cX6_walk 26 = .ok (.ireturn, 1) := by decide +kernel
theorem dX6_walk_27 : decode cX6_walk 27 = .ok (.aload_n 0, 1) := by decide +kernel
theorem dX6_walk_28 : decode cX6_walk 28 = .ok (.iload_n 3, 1) := by decide +kernel
theorem dX6_walk_29 : decode cX6_walk 29 = .ok (.iload_n 2, 1) := by decide +kernel
theorem dX6_walk_30 : decode cX6_walk 30 = .ok (.invokevirtual 93, 3) := by decide +kernel
theorem dX6_walk_33 : decode cX6_walk 33 = .ok (.istore 4, 2) := by decide +kernel
theorem dX6_walk_35 : decode cX6_walk 35 = .ok (.aload_n 0, 1) := by decide +kernel
theorem dX6_walk_36 : decode cX6_walk 36 = .ok (.getfield 13, 3) := by decide +kernel
theorem dX6_walk_39 : decode cX6_walk 39 = .ok (.bipush 9, 2) := by decide +kernel
theorem dX6_walk_41 : decode cX6_walk 41 = .ok (.iload_n 3, 1) := by decide +kernel
theorem dX6_walk_42 : decode cX6_walk 42 = .ok (.imul, 1) := by decide +kernel
theorem dX6_walk_43 : decode cX6_walk 43 = .ok (.iload_n 2, 1) := by decide +kernel
theorem dX6_walk_44 : decode cX6_walk 44 = .ok (.iadd, 1) := by decide +kernel
theorem dX6_walk_45 : decode cX6_walk 45 = .ok (.iaload, 1) := by decide +kernel
theorem dX6_walk_46 : decode cX6_walk 46 = .ok (.istore 5, 2) := by decide +kernel
theorem dX6_walk_48 : decode cX6_walk 48 = .ok (.iload 4, 2) := by decide +kernel
theorem dX6_walk_50 : decode cX6_walk 50 = .ok (.ifCond .gt 10, 3) := by decide +kernel
theorem dX6_walk_53 : decode cX6_walk 53 = .ok (.iload 5, 2) := by decide +kernel
theorem dX6_walk_55 : decode cX6_walk 55 = .ok (.bipush 9, 2) := by decide +kernel
theorem dX6_walk_57 : decode cX6_walk 57 = .ok (.if_icmp .ne 15, 3) := by decide +kernel
theorem dX6_walk_60 : decode cX6_walk 60 = .ok (.iload 4, 2) := by decide +kernel
theorem dX6_walk_62 : decode cX6_walk 62 = .ok (.ifCond .le 8, 3) := by decide +kernel
theorem dX6_walk_65 : decode cX6_walk 65 = .ok (.iload 4, 2) := by decide +kernel
theorem dX6_walk_67 : decode cX6_walk 67 = .ok (.goto 4, 3) := by decide +kernel
theorem dX6_walk_70 : decode cX6_walk 70 = .ok (.iconst 5, 1) := by decide +kernel
theorem dX6_walk_71 : decode cX6_walk 71 = .ok (.ireturn, 1) := by decide +kernel
theorem dX6_walk_72 : decode cX6_walk 72 = .ok (.iload 5, 2) := by decide +kernel
theorem dX6_walk_74 : decode cX6_walk 74 = .ok (.aload_n 0, 1) := by decide +kernel
theorem dX6_walk_75 : decode cX6_walk 75 = .ok (.getfield 13, 3) := by decide +kernel
theorem dX6_walk_78 : decode cX6_walk 78 = .ok (.bipush 87, 2) := by decide +kernel
theorem dX6_walk_80 : decode cX6_walk 80 = .ok (.iaload, 1) := by decide +kernel
theorem dX6_walk_81 : decode cX6_walk 81 = .ok (.iload_n 1, 1) := by decide +kernel
theorem dX6_walk_82 : decode cX6_walk 82 = .ok (.invokestatic 59, 3) := by decide +kernel
theorem dX6_walk_85 : decode cX6_walk 85 = .ok (.ifCond .eq 7, 3) := by decide +kernel
theorem dX6_walk_88 : decode cX6_walk 88 = .ok (.iconst 2, 1) := by decide +kernel
theorem dX6_walk_89 : decode cX6_walk 89 = .ok (.goto 4, 3) := by decide +kernel
theorem dX6_walk_92 : decode cX6_walk 92 = .ok (.iconst 1, 1) := by decide +kernel
theorem dX6_walk_93 : decode cX6_walk 93 = .ok (.iadd, 1) := by decide +kernel
theorem dX6_walk_94 : decode cX6_walk 94 = .ok (.istore 5, 2) := by decide +kernel
theorem dX6_walk_96 : decode cX6_walk 96 = .ok (.aload_n 0, 1) := by decide +kernel
theorem dX6_walk_97 : decode cX6_walk 97 = .ok (.iload_n 3, 1) := by decide +kernel
theorem dX6_walk_98 : decode cX6_walk 98 = .ok (.iload_n 2, 1) := by decide +kernel
theorem dX6_walk_99 : decode cX6_walk 99 = .ok (.iload 5, 2) := by decide +kernel
theorem dX6_walk_101 : decode cX6_walk 101 = .ok (.bipush 9, 2) := by decide +kernel
theorem dX6_walk_103 : decode cX6_walk 103 = .ok (.if_icmp .le 8, 3) := by decide +kernel
theorem dX6_walk_106 : decode cX6_walk 106 = .ok (.bipush 9, 2) := by decide +kernel
theorem dX6_walk_108 : decode cX6_walk 108 = .ok (.goto 5, 3) := by decide +kernel
theorem dX6_walk_111 : decode cX6_walk 111 = .ok (.iload 5, 2) := by decide +kernel
theorem dX6_walk_113 : decode cX6_walk 113 = .ok (.invokevirtual 97, 3) := by decide +kernel
theorem dX6_walk_116 : decode cX6_walk 116 = .ok (.aload_n 0, 1) := by decide +kernel
theorem dX6_walk_117 : decode cX6_walk 117 = .ok (.getfield 13, 3) := by decide +kernel
theorem dX6_walk_120 : decode cX6_walk 120 = .ok (.bipush 81, 2) := by decide +kernel
theorem dX6_walk_122 : decode cX6_walk 122 = .ok (.iload_n 1, 1) := by decide +kernel
theorem dX6_walk_123 : decode cX6_walk 123 = .ok (.iadd, 1) := by decide +kernel
theorem dX6_walk_124 : decode cX6_walk 124 = .ok (.iload_n 2, 1) := by decide +kernel
theorem dX6_walk_125 : decode cX6_walk 125 = .ok (.iastore, 1) := by decide +kernel
theorem dX6_walk_126 : decode cX6_walk 126 = .ok (.iconst 0, 1) := by decide +kernel
theorem dX6_walk_127 : decode cX6_walk 127 = .ok (.ireturn, 1) := by decide +kernel
theorem dX6_walker_0 : decode cX6_walker 0 = .ok (.iload_n 1, 1) := by decide +kernel
theorem dX6_walker_1 : decode cX6_walker 1 = .ok (.iconst 0, 1) := by decide +kernel
theorem dX6_walker_2 : decode cX6_walker 2 = .ok (.iconst 5, 1) := by decide +kernel
theorem dX6_walker_3 : decode cX6_walker 3 = .ok (.invokestatic 51, 3) := by decide +kernel
theorem dX6_walker_6 : decode cX6_walker 6 = .ok (.ifCond .eq 10, 3) := by decide +kernel
theorem dX6_walker_9 : decode cX6_walker 9 = .ok (.iload_n 2, 1) := by decide +kernel
theorem dX6_walker_10 : decode cX6_walker 10 = .ok (.invokestatic 63, 3) := by decide +kernel
theorem dX6_walker_13 : decode cX6_walker 13 = .ok (.ifCond .ne 5, 3) := by decide +kernel
theorem dX6_walker_16 : decode cX6_walker 16 = .ok (.iconst (-1), 1) := by decide +kernel
theorem dX6_walker_17 : decode cX6_walker 17 = .ok (.ireturn, 1) := by decide +kernel
theorem dX6_walker_18 : decode cX6_walker 18 = .ok (.aload_n 0, 1) := by decide +kernel
theorem dX6_walker_19 : decode cX6_walker 19 = .ok (.dup, 1) := by decide +kernel
theorem dX6_walker_20 : decode cX6_walker 20 = .ok (.getfield 55, 3) := by decide +kernel
theorem dX6_walker_23 : decode cX6_walker 23 = .ok (.iconst 1, 1) := by decide +kernel
theorem dX6_walker_24 : decode cX6_walker 24 = .ok (.iload_n 1, 1) := by decide +kernel
theorem dX6_walker_25 : decode cX6_walker 25 = .ok (.ishl, 1) := by decide +kernel
theorem dX6_walker_26 : decode cX6_walker 26 = .ok (.ior, 1) := by decide +kernel
theorem dX6_walker_27 : decode cX6_walker 27 = .ok (.putfield 55, 3) := by decide +kernel
theorem dX6_walker_30 : decode cX6_walker 30 = .ok (.aload_n 0, 1) := by decide +kernel
theorem dX6_walker_31 : decode cX6_walker 31 = .ok (.getfield 7, 3) := by decide +kernel
theorem dX6_walker_34 : decode cX6_walker 34 = .ok (.bipush 81, 2) := by decide +kernel
theorem dX6_walker_36 : decode cX6_walker 36 = .ok (.iload_n 1, 1) := by decide +kernel
theorem dX6_walker_37 : decode cX6_walker 37 = .ok (.iadd, 1) := by decide +kernel
theorem dX6_walker_38 : decode cX6_walker 38 = .ok (.iload_n 2, 1) := by decide +kernel
theorem dX6_walker_39 : decode cX6_walker 39 = .ok (.iastore, 1) := by decide +kernel
theorem dX6_walker_40 : decode cX6_walker 40 = .ok (.aload_n 0, 1) := by decide +kernel
theorem dX6_walker_41 : decode cX6_walker 41 = .ok (.getfield 7, 3) := by decide +kernel
theorem dX6_walker_44 : decode cX6_walker 44 = .ok (.bipush 87, 2) := by decide +kernel
theorem dX6_walker_46 : decode cX6_walker 46 = .ok (.dup2, 1) := by decide +kernel
theorem dX6_walker_47 : decode cX6_walker 47 = .ok (.iaload, 1) := by decide +kernel
theorem dX6_walker_48 : decode cX6_walker 48 = .ok (.iconst 1, 1) := by decide +kernel
theorem dX6_walker_49 : decode cX6_walker 49 = .ok (.iload_n 1, 1) := by decide +kernel
theorem dX6_walker_50 : decode cX6_walker 50 = .ok (.ishl, 1) := by decide +kernel
theorem dX6_walker_51 : decode cX6_walker 51 = .ok (.iconst (-1), 1) := by decide +kernel
theorem dX6_walker_52 : decode cX6_walker 52 = .ok (.ixor, 1) := by decide +kernel
theorem dX6_walker_53 : decode cX6_walker 53 = .ok (.iand, 1) := by decide +kernel
theorem dX6_walker_54 : decode cX6_walker 54 = .ok (.iastore, 1) := by decide +kernel
theorem dX6_walker_55 : decode cX6_walker 55 = .ok (.aload_n 0, 1) := by decide +kernel
theorem dX6_walker_56 : decode cX6_walker 56 = .ok (.getfield 7, 3) := by decide +kernel
theorem dX6_walker_59 : decode cX6_walker 59 = .ok (.bipush 87, 2) := by decide +kernel
theorem dX6_walker_61 : decode cX6_walker 61 = .ok (.dup2, 1) := by decide +kernel
theorem dX6_walker_62 : decode cX6_walker 62 = .ok (.iaload, 1) := by decide +kernel
theorem dX6_walker_63 : decode cX6_walker 63 = .ok (.iload_n 3, 1) := by decide +kernel
theorem dX6_walker_64 : decode cX6_walker 64 = .ok (.ifCond .eq 9, 3) := by decide +kernel
theorem dX6_walker_67 : decode cX6_walker 67 = .ok (.iconst 1, 1) := by decide +kernel
theorem dX6_walker_68 : decode cX6_walker 68 = .ok (.iload_n 1, 1) := by decide +kernel
theorem dX6_walker_69 : decode cX6_walker 69 = .ok (.ishl, 1) := by decide +kernel
theorem dX6_walker_70 : decode cX6_walker 70 = .ok (.goto 4, 3) := by decide +kernel
theorem dX6_walker_73 : decode cX6_walker 73 = .ok (.iconst 0, 1) := by decide +kernel
theorem dX6_walker_74 : decode cX6_walker 74 = .ok (.ior, 1) := by decide +kernel
theorem dX6_walker_75 : decode cX6_walker 75 = .ok (.iastore, 1) := by decide +kernel
theorem dX6_walker_76 : decode cX6_walker 76 = .ok (.aload_n 0, 1) := by decide +kernel
theorem dX6_walker_77 : decode cX6_walker 77 = .ok (.getfield 55, 3) := by decide +kernel
theorem dX6_walker_80 : decode cX6_walker 80 = .ok (.invokestatic 74, 3) := by decide +kernel
theorem dX6_walker_83 : decode cX6_walker 83 = .ok (.ireturn, 1) := by decide +kernel
theorem dX6_way_0 : decode cX6_way 0 = .ok (.iload_n 1, 1) := by decide +kernel
theorem dX6_way_1 : decode cX6_way 1 = .ok (.invokestatic 63, 3) := by decide +kernel
theorem dX6_way_4 : decode cX6_way 4 = .ok (.ifCond .eq 10, 3) := by decide +kernel
theorem dX6_way_7 : decode cX6_way 7 = .ok (.iload_n 2, 1) := by decide +kernel
theorem dX6_way_8 : decode cX6_way 8 = .ok (.invokestatic 63, 3) := by decide +kernel
theorem dX6_way_11 : decode cX6_way 11 = .ok (.ifCond .ne 5, 3) := by decide +kernel
theorem dX6_way_14 : decode cX6_way 14 = .ok (.iconst (-1), 1) := by decide +kernel
theorem dX6_way_15 : decode cX6_way 15 = .ok (.ireturn, 1) := by decide +kernel
theorem dX6_way_16 : decode cX6_way 16 = .ok (.iload_n 3, 1) := by decide +kernel
theorem dX6_way_17 : decode cX6_way 17 = .ok (.iconst 0, 1) := by decide +kernel
theorem dX6_way_18 : decode cX6_way 18 = .ok (.iconst 1, 1) := by decide +kernel
theorem dX6_way_19 : decode cX6_way 19 = .ok (.invokestatic 51, 3) := by decide +kernel
theorem dX6_way_22 : decode cX6_way 22 = .ok (.ifCond .ne 6, 3) := by decide +kernel
theorem dX6_way_25 : decode cX6_way 25 = .ok (.bipush (-2), 2) := by decide +kernel
theorem dX6_way_27 : decode cX6_way 27 = .ok (.ireturn, 1) := by decide +kernel
theorem dX6_way_28 : decode cX6_way 28 = .ok (.aload_n 0, 1) := by decide +kernel
theorem dX6_way_29 : decode cX6_way 29 = .ok (.invokevirtual 67, 3) := by decide +kernel
theorem dX6_way_32 : decode cX6_way 32 = .ok (.iconst 0, 1) := by decide +kernel
theorem dX6_way_33 : decode cX6_way 33 = .ok (.istore 4, 2) := by decide +kernel
theorem dX6_way_35 : decode cX6_way 35 = .ok (.iload 4, 2) := by decide +kernel
theorem dX6_way_37 : decode cX6_way 37 = .ok (.bipush 9, 2) := by decide +kernel
theorem dX6_way_39 : decode cX6_way 39 = .ok (.if_icmp .ge 28, 3) := by decide +kernel
theorem dX6_way_42 : decode cX6_way 42 = .ok (.aload_n 0, 1) := by decide +kernel
theorem dX6_way_43 : decode cX6_way 43 = .ok (.getfield 22, 3) := by decide +kernel
theorem dX6_way_46 : decode cX6_way 46 = .ok (.iload 4, 2) := by decide +kernel
theorem dX6_way_48 : decode cX6_way 48 = .ok (.iload 4, 2) := by decide +kernel
theorem dX6_way_50 : decode cX6_way 50 = .ok (.iload_n 1, 1) := by decide +kernel
theorem dX6_way_51 : decode cX6_way 51 = .ok (.if_icmp .ne 7, 3) := by decide +kernel
theorem dX6_way_54 : decode cX6_way 54 = .ok (.iconst 0, 1) := by decide +kernel
theorem dX6_way_55 : decode cX6_way 55 = .ok (.goto 5, 3) := by decide +kernel
theorem dX6_way_58 : decode cX6_way 58 = .ok (.ldc 141, 2) := by decide +kernel
theorem dX6_way_60 : decode cX6_way 60 = .ok (.iastore, 1) := by decide +kernel
theorem dX6_way_61 : decode cX6_way 61 = .ok (.iinc 4 1, 3) := by decide +kernel
theorem dX6_way_64 : decode cX6_way 64 = .ok (.goto (-29), 3) := by decide +kernel
theorem dX6_way_67 : decode cX6_way 67 = .ok (.iconst 0, 1) := by decide +kernel
theorem dX6_way_68 : decode cX6_way 68 = .ok (.istore 4, 2) := by decide +kernel
theorem dX6_way_70 : decode cX6_way 70 = .ok (.iload 4, 2) := by decide +kernel
theorem dX6_way_72 : decode cX6_way 72 = .ok (.bipush 9, 2) := by decide +kernel
theorem dX6_way_74 : decode cX6_way 74 = .ok (.if_icmp .ge 119, 3) := by decide +kernel
theorem dX6_way_77 : decode cX6_way 77 = .ok (.iconst 0, 1) := by decide +kernel
theorem dX6_way_78 : decode cX6_way 78 = .ok (.istore 5, 2) := by decide +kernel
theorem dX6_way_80 : decode cX6_way 80 = .ok (.iload 5, 2) := by decide +kernel
theorem dX6_way_82 : decode cX6_way 82 = .ok (.bipush 9, 2) := by decide +kernel
theorem dX6_way_84 : decode cX6_way 84 = .ok (.if_icmp .ge 103, 3) := by decide +kernel
theorem dX6_way_87 : decode cX6_way 87 = .ok (.iconst 0, 1) := by decide +kernel
theorem dX6_way_88 : decode cX6_way 88 = .ok (.istore 6, 2) := by decide +kernel
theorem dX6_way_90 : decode cX6_way 90 = .ok (.iload 6, 2) := by decide +kernel
theorem dX6_way_92 : decode cX6_way 92 = .ok (.bipush 9, 2) := by decide +kernel
theorem dX6_way_94 : decode cX6_way 94 = .ok (.if_icmp .ge 87, 3) := by decide +kernel
theorem dX6_way_97 : decode cX6_way 97 = .ok (.aload_n 0, 1) := by decide +kernel
theorem dX6_way_98 : decode cX6_way 98 = .ok (.iload 5, 2) := by decide +kernel
theorem dX6_way_100 : decode cX6_way 100 = .ok (.iload 6, 2) := by decide +kernel
theorem dX6_way_102 : decode cX6_way 102 = .ok (.invokevirtual 101, 3) := by decide +kernel
theorem dX6_way_105 : decode cX6_way 105 = .ok (.ifCond .eq 35, 3) := by decide +kernel
theorem dX6_way_108 : decode cX6_way 108 = .ok (.aload_n 0, 1) := by decide +kernel
theorem dX6_way_109 : decode cX6_way 109 = .ok (.getfield 22, 3) := by decide +kernel
theorem dX6_way_112 : decode cX6_way 112 = .ok (.iload 5, 2) := by decide +kernel
theorem dX6_way_114 : decode cX6_way 114 = .ok (.iaload, 1) := by decide +kernel
theorem dX6_way_115 : decode cX6_way 115 = .ok (.iload_n 3, 1) := by decide +kernel
theorem dX6_way_116 : decode cX6_way 116 = .ok (.ifCond .ne 7, 3) := by decide +kernel
theorem dX6_way_119 : decode cX6_way 119 = .ok (.iconst 1, 1) := by decide +kernel
theorem dX6_way_120 : decode cX6_way 120 = .ok (.goto 16, 3) := by decide +kernel
theorem dX6_way_123 : decode cX6_way 123 = .ok (.aload_n 0, 1) := by decide +kernel
theorem dX6_way_124 : decode cX6_way 124 = .ok (.getfield 13, 3) := by decide +kernel
theorem dX6_way_127 : decode cX6_way 127 = .ok (.bipush 9, 2) := by decide +kernel
theorem dX6_way_129 : decode cX6_way 129 = .ok (.iload 5, 2) := by decide +kernel
theorem dX6_way_131 : decode cX6_way 131 = .ok (.imul, 1) := by decide +kernel
theorem dX6_way_132 : decode cX6_way 132 = .ok (.iload 6, 2) := by decide +kernel
theorem dX6_way_134 : decode cX6_way 134 = .ok (.iadd, 1) := by decide +kernel
theorem dX6_way_135 : decode cX6_way 135 = .ok (.iaload, 1) := by decide +kernel
theorem dX6_way_136 : decode cX6_way 136 = .ok (.iadd, 1) := by decide +kernel
theorem dX6_way_137 : decode cX6_way 137 = .ok (.goto 5, 3) := by decide +kernel
theorem dX6_way_140 : decode cX6_way 140 = .ok (.ldc 141, 2) := by decide +kernel
theorem dX6_way_142 : decode cX6_way 142 = .ok (.istore 7, 2) := by decide +kernel
theorem dX6_way_144 : decode cX6_way 144 = .ok (.aload_n 0, 1) := by decide +kernel
theorem dX6_way_145 : decode cX6_way 145 = .ok (.getfield 22, 3) := by decide +kernel
theorem dX6_way_148 : decode cX6_way 148 = .ok (.iload 6, 2) := by decide +kernel
theorem dX6_way_150 : decode cX6_way 150 = .ok (.iload 7, 2) := by decide +kernel
theorem dX6_way_152 : decode cX6_way 152 = .ok (.aload_n 0, 1) := by decide +kernel
theorem dX6_way_153 : decode cX6_way 153 = .ok (.getfield 22, 3) := by decide +kernel
theorem dX6_way_156 : decode cX6_way 156 = .ok (.iload 6, 2) := by decide +kernel
theorem dX6_way_158 : decode cX6_way 158 = .ok (.iaload, 1) := by decide +kernel
theorem dX6_way_159 : decode cX6_way 159 = .ok (.if_icmp .ge 8, 3) := by decide +kernel
theorem dX6_way_162 : decode cX6_way 162 = .ok (.iload 7, 2) := by decide +kernel
theorem dX6_way_164 : decode cX6_way 164 = .ok (.goto 10, 3) := by decide +kernel
theorem dX6_way_167 : decode cX6_way 167 = .ok (.aload_n 0, 1) := by decide +kernel
theorem dX6_way_168 : decode cX6_way 168 = .ok (.getfield 22, 3) := by decide +kernel
theorem dX6_way_171 : decode cX6_way 171 = .ok (.iload 6, 2) := by decide +kernel
theorem dX6_way_173 : decode cX6_way 173 = .ok (.iaload, 1) := by decide +kernel
theorem dX6_way_174 : decode cX6_way 174 = .ok (.iastore, 1) := by decide +kernel
theorem dX6_way_175 : decode cX6_way 175 = .ok (.iinc 6 1, 3) := by decide +kernel
theorem dX6_way_178 : decode cX6_way 178 = .ok (.goto (-88), 3) := by decide +kernel
theorem dX6_way_181 : decode cX6_way 181 = .ok (.iinc 5 1, 3) := by decide +kernel
theorem dX6_way_184 : decode cX6_way 184 = .ok (.goto (-104), 3) := by decide +kernel
theorem dX6_way_187 : decode cX6_way 187 = .ok (.iinc 4 1, 3) := by decide +kernel
theorem dX6_way_190 : decode cX6_way 190 = .ok (.goto (-120), 3) := by decide +kernel
theorem dX6_way_193 : decode cX6_way 193 = .ok (.aload_n 0, 1) := by decide +kernel
theorem dX6_way_194 : decode cX6_way 194 = .ok (.getfield 22, 3) := by decide +kernel
theorem dX6_way_197 : decode cX6_way 197 = .ok (.iload_n 2, 1) := by decide +kernel
theorem dX6_way_198 : decode cX6_way 198 = .ok (.iaload, 1) := by decide +kernel
theorem dX6_way_199 : decode cX6_way 199 = .ok (.ldc 141, 2) := by decide +kernel
theorem dX6_way_201 : decode cX6_way 201 = .ok (.if_icmp .ge 12, 3) := by decide +kernel
theorem dX6_way_204 : decode cX6_way 204 = .ok (.aload_n 0, 1) := by decide +kernel
theorem dX6_way_205 : decode cX6_way 205 = .ok (.getfield 22, 3) := by decide +kernel
theorem dX6_way_208 : decode cX6_way 208 = .ok (.iload_n 2, 1) := by decide +kernel
theorem dX6_way_209 : decode cX6_way 209 = .ok (.iaload, 1) := by decide +kernel
theorem dX6_way_210 : decode cX6_way 210 = .ok (.goto 5, 3) := by decide +kernel
theorem dX6_way_213 : decode cX6_way 213 = .ok (.bipush (-6), 2) := by decide +kernel
theorem dX6_way_215 : decode cX6_way 215 = .ok (.ireturn, 1) := by decide +kernel
theorem dX6_wearOf_0 : decode cX6_wearOf 0 = .ok (.iconst 0, 1) := by decide +kernel
theorem dX6_wearOf_1 : decode cX6_wearOf 1 = .ok (.istore_n 1, 1) := by decide +kernel
theorem dX6_wearOf_2 : decode cX6_wearOf 2 = .ok (.iconst 0, 1) := by decide +kernel
theorem dX6_wearOf_3 : decode cX6_wearOf 3 = .ok (.istore_n 2, 1) := by decide +kernel
theorem dX6_wearOf_4 : decode cX6_wearOf 4 = .ok (.iload_n 2, 1) := by decide +kernel
theorem dX6_wearOf_5 : decode cX6_wearOf 5 = .ok (.bipush 81, 2) := by decide +kernel
theorem dX6_wearOf_7 : decode cX6_wearOf 7 = .ok (.if_icmp .ge 37, 3) := by decide +kernel
theorem dX6_wearOf_10 : decode cX6_wearOf 10 = .ok (.iload_n 1, 1) := by decide +kernel
theorem dX6_wearOf_11 : decode cX6_wearOf 11 = .ok (.aload_n 0, 1) := by decide +kernel
theorem dX6_wearOf_12 : decode cX6_wearOf 12 = .ok (.getfield 13, 3) := by decide +kernel
theorem dX6_wearOf_15 : decode cX6_wearOf 15 = .ok (.iload_n 2, 1) := by decide +kernel
theorem dX6_wearOf_16 : decode cX6_wearOf 16 = .ok (.iaload, 1) := by decide +kernel
theorem dX6_wearOf_17 : decode cX6_wearOf 17 = .ok (.iconst 0, 1) := by decide +kernel
theorem dX6_wearOf_18 : decode cX6_wearOf 18 = .ok (.bipush 9, 2) := by decide +kernel
theorem dX6_wearOf_20 : decode cX6_wearOf 20 = .ok (.invokestatic 51, 3) := by decide +kernel
theorem dX6_wearOf_23 : decode cX6_wearOf 23 = .ok (.ifCond .eq 12, 3) := by decide +kernel
theorem dX6_wearOf_26 : decode cX6_wearOf 26 = .ok (.aload_n 0, 1) := by decide +kernel
theorem dX6_wearOf_27 : decode cX6_wearOf 27 = .ok (.getfield 13, 3) := by decide +kernel
theorem dX6_wearOf_30 : decode cX6_wearOf 30 = .ok (.iload_n 2, 1) := by decide +kernel
theorem dX6_wearOf_31 : decode cX6_wearOf 31 = .ok (.iaload, 1) := by decide +kernel
theorem dX6_wearOf_32 : decode cX6_wearOf 32 = .ok (.goto 4, 3) := by decide +kernel
theorem dX6_wearOf_35 : decode cX6_wearOf 35 = .ok (.iconst 0, 1) := by decide +kernel
theorem dX6_wearOf_36 : decode cX6_wearOf 36 = .ok (.iadd, 1) := by decide +kernel
theorem dX6_wearOf_37 : decode cX6_wearOf 37 = .ok (.istore_n 1, 1) := by decide +kernel
theorem dX6_wearOf_38 : decode cX6_wearOf 38 = .ok (.iinc 2 1, 3) := by decide +kernel
theorem dX6_wearOf_41 : decode cX6_wearOf 41 = .ok (.goto (-37), 3) := by decide +kernel
theorem dX6_wearOf_44 : decode cX6_wearOf 44 = .ok (.iload_n 1, 1) := by decide +kernel
theorem dX6_wearOf_45 : decode cX6_wearOf 45 = .ok (.iconst 2, 1) := by decide +kernel
theorem dX6_wearOf_46 : decode cX6_wearOf 46 = .ok (.idiv, 1) := by decide +kernel
theorem dX6_wearOf_47 : decode cX6_wearOf 47 = .ok (.ireturn, 1) := by decide +kernel
theorem dX6_wet_0 : decode cX6_wet 0 = .ok (.iload_n 1, 1) := by decide +kernel
theorem dX6_wet_1 : decode cX6_wet 1 = .ok (.iconst 0, 1) := by decide +kernel
theorem dX6_wet_2 : decode cX6_wet 2 = .ok (.bipush 16, 2) := by decide +kernel
theorem dX6_wet_4 : decode cX6_wet 4 = .ok (.invokestatic 51, 3) := by decide +kernel
theorem dX6_wet_7 : decode cX6_wet 7 = .ok (.ifCond .eq 43, 3) := by decide +kernel
theorem dX6_wet_10 : decode cX6_wet 10 = .ok (.iload_n 2, 1) := by decide +kernel
theorem dX6_wet_11 : decode cX6_wet 11 = .ok (.iconst 0, 1) := by decide +kernel
theorem dX6_wet_12 : decode cX6_wet 12 = .ok (.bipush 10, 2) := by decide +kernel
theorem dX6_wet_14 : decode cX6_wet 14 = .ok (.invokestatic 51, 3) := by decide +kernel
theorem dX6_wet_17 : decode cX6_wet 17 = .ok (.ifCond .eq 33, 3) := by decide +kernel
theorem dX6_wet_20 : decode cX6_wet 20 = .ok (.iload_n 3, 1) := by decide +kernel
theorem dX6_wet_21 : decode cX6_wet 21 = .ok (.iconst 0, 1) := by decide +kernel
theorem dX6_wet_22 : decode cX6_wet 22 = .ok (.bipush 40, 2) := by decide +kernel
theorem dX6_wet_24 : decode cX6_wet 24 = .ok (.invokestatic 51, 3) := by decide +kernel
theorem dX6_wet_27 : decode cX6_wet 27 = .ok (.ifCond .eq 23, 3) := by decide +kernel
theorem dX6_wet_30 : decode cX6_wet 30 = .ok (.iload 4, 2) := by decide +kernel
theorem dX6_wet_32 : decode cX6_wet 32 = .ok (.iconst 0, 1) := by decide +kernel
theorem dX6_wet_33 : decode cX6_wet 33 = .ok (.iconst 1, 1) := by decide +kernel
theorem dX6_wet_34 : decode cX6_wet 34 = .ok (.invokestatic 51, 3) := by decide +kernel
theorem dX6_wet_37 : decode cX6_wet 37 = .ok (.ifCond .eq 13, 3) := by decide +kernel
theorem dX6_wet_40 : decode cX6_wet 40 = .ok (.iload 5, 2) := by decide +kernel
theorem dX6_wet_42 : decode cX6_wet 42 = .ok (.iconst 0, 1) := by decide +kernel
theorem dX6_wet_43 : decode cX6_wet 43 = .ok (.iconst 1, 1) := by decide +kernel
theorem dX6_wet_44 : decode cX6_wet 44 = .ok (.invokestatic 51, 3) := by decide +kernel
theorem dX6_wet_47 : decode cX6_wet 47 = .ok (.ifCond .ne 7, 3) := by decide +kernel
theorem dX6_wet_50 : decode cX6_wet 50 = .ok (.ldc2_w 145, 3) := by decide +kernel
theorem dX6_wet_53 : decode cX6_wet 53 = .ok (.lreturn, 1) := by decide +kernel
theorem dX6_wet_54 : decode cX6_wet 54 = .ok (.iload 4, 2) := by decide +kernel
theorem dX6_wet_56 : decode cX6_wet 56 = .ok (.iconst 1, 1) := by decide +kernel
theorem dX6_wet_57 : decode cX6_wet 57 = .ok (.if_icmp .ne 20, 3) := by decide +kernel
theorem dX6_wet_60 : decode cX6_wet 60 = .ok (.iload_n 1, 1) := by decide +kernel
theorem dX6_wet_61 : decode cX6_wet 61 = .ok (.i2l, 1) := by decide +kernel
theorem dX6_wet_62 : decode cX6_wet 62 = .ok (.bipush 10, 2) := by decide +kernel
theorem dX6_wet_64 : decode cX6_wet 64 = .ok (.iload_n 2, 1) := by decide +kernel
theorem dX6_wet_65 : decode cX6_wet 65 = .ok (.iadd, 1) := by decide +kernel
theorem dX6_wet_66 : decode cX6_wet 66 = .ok (.i2l, 1) := by decide +kernel
theorem dX6_wet_67 : decode cX6_wet 67 = .ok (.lmul, 1) := by decide +kernel
theorem dX6_wet_68 : decode cX6_wet 68 = .ok (.ldc2_w 163, 3) := by decide +kernel
theorem dX6_wet_71 : decode cX6_wet 71 = .ok (.iload 5, 2) := by decide +kernel
theorem dX6_wet_73 : decode cX6_wet 73 = .ok (.invokestatic 149, 3) := by decide +kernel
theorem dX6_wet_76 : decode cX6_wet 76 = .ok (.lreturn, 1) := by decide +kernel
theorem dX6_wet_77 : decode cX6_wet 77 = .ok (.lconst 1, 1) := by decide +kernel
theorem dX6_wet_78 : decode cX6_wet 78 = .ok (.lstore 6, 2) := by decide +kernel
theorem dX6_wet_80 : decode cX6_wet 80 = .ok (.iconst 0, 1) := by decide +kernel
theorem dX6_wet_81 : decode cX6_wet 81 = .ok (.istore 8, 2) := by decide +kernel
theorem dX6_wet_83 : decode cX6_wet 83 = .ok (.iload 8, 2) := by decide +kernel
theorem dX6_wet_85 : decode cX6_wet 85 = .ok (.bipush 18, 2) := by decide +kernel
theorem dX6_wet_87 : decode cX6_wet 87 = .ok (.if_icmp .ge 26, 3) := by decide +kernel
theorem dX6_wet_90 : decode cX6_wet 90 = .ok (.aload_n 0, 1) := by decide +kernel
theorem dX6_wet_91 : decode cX6_wet 91 = .ok (.getfield 41, 3) := by decide +kernel
theorem dX6_wet_94 : decode cX6_wet 94 = .ok (.iload 8, 2) := by decide +kernel
theorem dX6_wet_96 : decode cX6_wet 96 = .ok (.iload 8, 2) := by decide +kernel
theorem dX6_wet_98 : decode cX6_wet 98 = .ok (.ifCond .ne 7, 3) := by decide +kernel
theorem dX6_wet_101 : decode cX6_wet 101 = .ok (.lconst 1, 1) := by decide +kernel
theorem dX6_wet_102 : decode cX6_wet 102 = .ok (.goto 4, 3) := by decide +kernel
theorem dX6_wet_105 : decode cX6_wet 105 = .ok (.lconst 0, 1) := by decide +kernel
theorem dX6_wet_106 : decode cX6_wet 106 = .ok (.lastore, 1) := by decide +kernel
theorem dX6_wet_107 : decode cX6_wet 107 = .ok (.iinc 8 1, 3) := by decide +kernel
theorem dX6_wet_110 : decode cX6_wet 110 = .ok (.goto (-27), 3) := by decide +kernel
theorem dX6_wet_113 : decode cX6_wet 113 = .ok (.iconst 0, 1) := by decide +kernel
theorem dX6_wet_114 : decode cX6_wet 114 = .ok (.istore 8, 2) := by decide +kernel
theorem dX6_wet_116 : decode cX6_wet 116 = .ok (.iload 8, 2) := by decide +kernel
theorem dX6_wet_118 : decode cX6_wet 118 = .ok (.iload_n 1, 1) := by decide +kernel
theorem dX6_wet_119 : decode cX6_wet 119 = .ok (.if_icmp .ge 74, 3) := by decide +kernel
theorem dX6_wet_122 : decode cX6_wet 122 = .ok (.lload 6, 2) := by decide +kernel
theorem dX6_wet_124 : decode cX6_wet 124 = .ok (.ldc2_w 163, 3) := by decide +kernel
theorem dX6_wet_127 : decode cX6_wet 127 = .ok (.lmul, 1) := by decide +kernel
theorem dX6_wet_128 : decode cX6_wet 128 = .ok (.lstore 6, 2) := by decide +kernel
theorem dX6_wet_130 : decode cX6_wet 130 = .ok (.bipush 17, 2) := by decide +kernel
theorem dX6_wet_132 : decode cX6_wet 132 = .ok (.istore 9, 2) := by decide +kernel
theorem dX6_wet_134 : decode cX6_wet 134 = .ok (.iload 9, 2) := by decide +kernel
theorem dX6_wet_136 : decode cX6_wet 136 = .ok (.ifCond .lt 51, 3) := by decide +kernel
theorem dX6_wet_139 : decode cX6_wet 139 = .ok (.aload_n 0, 1) := by decide +kernel
theorem dX6_wet_140 : decode cX6_wet 140 = .ok (.getfield 41, 3) := by decide +kernel
theorem dX6_wet_143 : decode cX6_wet 143 = .ok (.iload 9, 2) := by decide +kernel
theorem dX6_wet_145 : decode cX6_wet 145 = .ok (.aload_n 0, 1) := by decide +kernel
theorem dX6_wet_146 : decode cX6_wet 146 = .ok (.getfield 41, 3) := by decide +kernel
theorem dX6_wet_149 : decode cX6_wet 149 = .ok (.iload 9, 2) := by decide +kernel
theorem dX6_wet_151 : decode cX6_wet 151 = .ok (.laload, 1) := by decide +kernel
theorem dX6_wet_152 : decode cX6_wet 152 = .ok (.bipush 10, 2) := by decide +kernel
theorem dX6_wet_154 : decode cX6_wet 154 = .ok (.iload_n 2, 1) := by decide +kernel
theorem dX6_wet_155 : decode cX6_wet 155 = .ok (.isub, 1) := by decide +kernel
theorem dX6_wet_156 : decode cX6_wet 156 = .ok (.i2l, 1) := by decide +kernel
theorem dX6_wet_157 : decode cX6_wet 157 = .ok (.lmul, 1) := by decide +kernel
theorem dX6_wet_158 : decode cX6_wet 158 = .ok (.iload 9, 2) := by decide +kernel
theorem dX6_wet_160 : decode cX6_wet 160 = .ok (.ifCond .le 18, 3) := by decide +kernel
theorem dX6_wet_163 : decode cX6_wet 163 = .ok (.aload_n 0, 1) := by decide +kernel
theorem dX6_wet_164 : decode cX6_wet 164 = .ok (.getfield 41, 3) := by decide +kernel
theorem dX6_wet_167 : decode cX6_wet 167 = .ok (.iload 9, 2) := by decide +kernel
theorem dX6_wet_169 : decode cX6_wet 169 = .ok (.iconst 1, 1) := by decide +kernel
theorem dX6_wet_170 : decode cX6_wet 170 = .ok (.isub, 1) := by decide +kernel
theorem dX6_wet_171 : decode cX6_wet 171 = .ok (.laload, 1) := by decide +kernel
theorem dX6_wet_172 : decode cX6_wet 172 = .ok (.iload_n 2, 1) := by decide +kernel
theorem dX6_wet_173 : decode cX6_wet 173 = .ok (.i2l, 1) := by decide +kernel
theorem dX6_wet_174 : decode cX6_wet 174 = .ok (.lmul, 1) := by decide +kernel
theorem dX6_wet_175 : decode cX6_wet 175 = .ok (.goto 4, 3) := by decide +kernel
theorem dX6_wet_178 : decode cX6_wet 178 = .ok (.lconst 0, 1) := by decide +kernel
theorem dX6_wet_179 : decode cX6_wet 179 = .ok (.ladd, 1) := by decide +kernel
theorem dX6_wet_180 : decode cX6_wet 180 = .ok (.lastore, 1) := by decide +kernel
theorem dX6_wet_181 : decode cX6_wet 181 = .ok (.iinc 9 (-1), 3) := by decide +kernel
theorem dX6_wet_184 : decode cX6_wet 184 = .ok (.goto (-50), 3) := by decide +kernel
theorem dX6_wet_187 : decode cX6_wet 187 = .ok (.iinc 8 1, 3) := by decide +kernel
theorem dX6_wet_190 : decode cX6_wet 190 = .ok (.goto (-74), 3) := by decide +kernel
theorem dX6_wet_193 : decode cX6_wet 193 = .ok (.lconst 0, 1) := by decide +kernel
theorem dX6_wet_194 : decode cX6_wet 194 = .ok (.lstore 8, 2) := by decide +kernel
theorem dX6_wet_196 : decode cX6_wet 196 = .ok (.iconst 0, 1) := by decide +kernel
theorem dX6_wet_197 : decode cX6_wet 197 = .ok (.istore 10, 2) := by decide +kernel
theorem dX6_wet_199 : decode cX6_wet 199 = .ok (.iload 10, 2) := by decide +kernel
theorem dX6_wet_201 : decode cX6_wet 201 = .ok (.bipush 18, 2) := by decide +kernel
theorem dX6_wet_203 : decode cX6_wet 203 = .ok (.if_icmp .ge 33, 3) := by decide +kernel
theorem dX6_wet_206 : decode cX6_wet 206 = .ok (.lload 8, 2) := by decide +kernel
theorem dX6_wet_208 : decode cX6_wet 208 = .ok (.iload_n 1, 1) := by decide +kernel
theorem dX6_wet_209 : decode cX6_wet 209 = .ok (.iload 10, 2) := by decide +kernel
theorem dX6_wet_211 : decode cX6_wet 211 = .ok (.iadd, 1) := by decide +kernel
theorem dX6_wet_212 : decode cX6_wet 212 = .ok (.iload_n 3, 1) := by decide +kernel
theorem dX6_wet_213 : decode cX6_wet 213 = .ok (.if_icmp .lt 13, 3) := by decide +kernel
theorem dX6_wet_216 : decode cX6_wet 216 = .ok (.aload_n 0, 1) := by decide +kernel
theorem dX6_wet_217 : decode cX6_wet 217 = .ok (.getfield 41, 3) := by decide +kernel
theorem dX6_wet_220 : decode cX6_wet 220 = .ok (.iload 10, 2) := by decide +kernel
theorem dX6_wet_222 : decode cX6_wet 222 = .ok (.laload, 1) := by decide +kernel
theorem dX6_wet_223 : decode cX6_wet 223 = .ok (.goto 4, 3) := by decide +kernel
theorem dX6_wet_226 : decode cX6_wet 226 = .ok (.lconst 0, 1) := by decide +kernel
theorem dX6_wet_227 : decode cX6_wet 227 = .ok (.ladd, 1) := by decide +kernel
theorem dX6_wet_228 : decode cX6_wet 228 = .ok (.lstore 8, 2) := by decide +kernel
theorem dX6_wet_230 : decode cX6_wet 230 = .ok (.iinc 10 1, 3) := by decide +kernel
theorem dX6_wet_233 : decode cX6_wet 233 = .ok (.goto (-34), 3) := by decide +kernel
theorem dX6_wet_236 : decode cX6_wet 236 = .ok (.lload 8, 2) := by decide +kernel
theorem dX6_wet_238 : decode cX6_wet 238 = .ok (.lload 6, 2) := by decide +kernel
theorem dX6_wet_240 : decode cX6_wet 240 = .ok (.iload 5, 2) := by decide +kernel
theorem dX6_wet_242 : decode cX6_wet 242 = .ok (.invokestatic 149, 3) := by decide +kernel
theorem dX6_wet_245 : decode cX6_wet 245 = .ok (.lreturn, 1) := by decide +kernel
theorem dX6_who_0 : decode cX6_who 0 = .ok (.iconst 0, 1) := by decide +kernel
theorem dX6_who_1 : decode cX6_who 1 = .ok (.istore_n 2, 1) := by decide +kernel
theorem dX6_who_2 : decode cX6_who 2 = .ok (.iconst 0, 1) := by decide +kernel
theorem dX6_who_3 : decode cX6_who 3 = .ok (.istore_n 3, 1) := by decide +kernel
theorem dX6_who_4 : decode cX6_who 4 = .ok (.iload_n 3, 1) := by decide +kernel
theorem dX6_who_5 : decode cX6_who 5 = .ok (.sipush 1000, 3) := by decide +kernel
theorem dX6_who_8 : decode cX6_who 8 = .ok (.if_icmp .ge 27, 3) := by decide +kernel
theorem dX6_who_11 : decode cX6_who 11 = .ok (.aload_n 0, 1) := by decide +kernel
theorem dX6_who_12 : decode cX6_who 12 = .ok (.iload_n 3, 1) := by decide +kernel
theorem dX6_who_13 : decode cX6_who 13 = .ok (.invokevirtual 160, 3) := by decide +kernel
theorem dX6_who_16 : decode cX6_who 16 = .ok (.ifCond .eq 13, 3) := by decide +kernel
theorem dX6_who_19 : decode cX6_who 19 = .ok (.iload_n 2, 1) := by decide +kernel
theorem dX6_who_20 : decode cX6_who 20 = .ok (.iload_n 1, 1) := by decide +kernel
theorem dX6_who_21 : decode cX6_who 21 = .ok (.if_icmp .ne 5, 3) := by decide +kernel
theorem dX6_who_24 : decode cX6_who 24 = .ok (.iload_n 3, 1) := by decide +kernel
theorem dX6_who_25 : decode cX6_who 25 = .ok (.ireturn, 1) := by decide +kernel
theorem dX6_who_26 : decode cX6_who 26 = .ok (.iinc 2 1, 3) := by decide +kernel
theorem dX6_who_29 : decode cX6_who 29 = .ok (.iinc 3 1, 3) := by decide +kernel
theorem dX6_who_32 : decode cX6_who 32 = .ok (.goto (-28), 3) := by decide +kernel
theorem dX6_who_35 : decode cX6_who 35 = .ok (.iload_n 1, 1) := by decide +kernel
theorem dX6_who_36 : decode cX6_who 36 = .ok (.iconst (-1), 1) := by decide +kernel
theorem dX6_who_37 : decode cX6_who 37 = .ok (.if_icmp .ne 7, 3) := by decide +kernel
theorem dX6_who_40 : decode cX6_who 40 = .ok (.iload_n 2, 1) := by decide +kernel
theorem dX6_who_41 : decode cX6_who 41 = .ok (.goto 5, 3) := by decide +kernel
theorem dX6_who_44 : decode cX6_who 44 = .ok (.bipush (-6), 2) := by decide +kernel
theorem dX6_who_46 : decode cX6_who 46 = .ok (.ireturn, 1) := by decide +kernel
theorem dX6_wipe_0 : decode cX6_wipe 0 = .ok (.aload_n 0, 1) := by decide +kernel
theorem dX6_wipe_1 : decode cX6_wipe 1 = .ok (.getfield 78, 3) := by decide +kernel
theorem dX6_wipe_4 : decode cX6_wipe 4 = .ok (.istore_n 1, 1) := by decide +kernel
theorem dX6_wipe_5 : decode cX6_wipe 5 = .ok (.aload_n 0, 1) := by decide +kernel
theorem dX6_wipe_6 : decode cX6_wipe 6 = .ok (.iconst 0, 1) := by decide +kernel
theorem dX6_wipe_7 : decode cX6_wipe 7 = .ok (.putfield 78, 3) := by decide +kernel
theorem dX6_wipe_10 : decode cX6_wipe 10 = .ok (.iload_n 1, 1) := by decide +kernel
theorem dX6_wipe_11 : decode cX6_wipe 11 = .ok (.ireturn, 1) := by decide +kernel
theorem dX6_year_0 : decode cX6_year 0 = .ok (.iload_n 1, 1) := by decide +kernel
theorem dX6_year_1 : decode cX6_year 1 = .ok (.iconst 0, 1) := by decide +kernel
theorem dX6_year_2 : decode cX6_year 2 = .ok (.sipush 9999, 3) := by decide +kernel
theorem dX6_year_5 : decode cX6_year 5 = .ok (.invokestatic 51, 3) := by decide +kernel
theorem dX6_year_8 : decode cX6_year 8 = .ok (.ifCond .eq 22, 3) := by decide +kernel
theorem dX6_year_11 : decode cX6_year 11 = .ok (.iload_n 2, 1) := by decide +kernel
theorem dX6_year_12 : decode cX6_year 12 = .ok (.iconst 1, 1) := by decide +kernel
theorem dX6_year_13 : decode cX6_year 13 = .ok (.bipush 99, 2) := by decide +kernel
theorem dX6_year_15 : decode cX6_year 15 = .ok (.invokestatic 51, 3) := by decide +kernel
theorem dX6_year_18 : decode cX6_year 18 = .ok (.ifCond .eq 12, 3) := by decide +kernel
theorem dX6_year_21 : decode cX6_year 21 = .ok (.iload_n 3, 1) := by decide +kernel
theorem dX6_year_22 : decode cX6_year 22 = .ok (.iconst 0, 1) := by decide +kernel
theorem dX6_year_23 : decode cX6_year 23 = .ok (.iconst 2, 1) := by decide +kernel
theorem dX6_year_24 : decode cX6_year 24 = .ok (.invokestatic 51, 3) := by decide +kernel
theorem dX6_year_27 : decode cX6_year 27 = .ok (.ifCond .ne 6, 3) := by decide +kernel
theorem dX6_year_30 : decode cX6_year 30 = .ok (.bipush (-2), 2) := by decide +kernel
theorem dX6_year_32 : decode cX6_year 32 = .ok (.ireturn, 1) := by decide +kernel
theorem dX6_year_33 : decode cX6_year 33 = .ok (.aload_n 0, 1) := by decide +kernel
theorem dX6_year_34 : decode cX6_year 34 = .ok (.invokevirtual 67, 3) := by decide +kernel
theorem dX6_year_37 : decode cX6_year 37 = .ok (.iload_n 1, 1) := by decide +kernel
theorem dX6_year_38 : decode cX6_year 38 = .ok (.istore 4, 2) := by decide +kernel
theorem dX6_year_40 : decode cX6_year 40 = .ok (.iconst 0, 1) := by decide +kernel
theorem dX6_year_41 : decode cX6_year 41 = .ok (.istore 5, 2) := by decide +kernel
theorem dX6_year_43 : decode cX6_year 43 = .ok (.iload 5, 2) := by decide +kernel
theorem dX6_year_45 : decode cX6_year 45 = .ok (.iload_n 2, 1) := by decide +kernel
theorem dX6_year_46 : decode cX6_year 46 = .ok (.if_icmp .ge 123, 3) := by decide +kernel
theorem dX6_year_49 : decode cX6_year 49 = .ok (.bipush 75, 2) := by decide +kernel
theorem dX6_year_51 : decode cX6_year 51 = .ok (.iload 4, 2) := by decide +kernel
theorem dX6_year_53 : decode cX6_year 53 = .ok (.imul, 1) := by decide +kernel
theorem dX6_year_54 : decode cX6_year 54 = .ok (.bipush 74, 2) := by decide +kernel
theorem dX6_year_56 : decode cX6_year 56 = .ok (.iadd, 1) := by decide +kernel
theorem dX6_year_57 : decode cX6_year 57 = .ok (.ldc 165, 2) := by decide +kernel
theorem dX6_year_59 : decode cX6_year 59 = .ok (.irem, 1) := by decide +kernel
theorem dX6_year_60 : decode cX6_year 60 = .ok (.istore 4, 2) := by decide +kernel
theorem dX6_year_62 : decode cX6_year 62 = .ok (.iload 4, 2) := by decide +kernel
theorem dX6_year_64 : decode cX6_year 64 = .ok (.bipush 6, 2) := by decide +kernel
theorem dX6_year_66 : decode cX6_year 66 = .ok (.idiv, 1) := by decide +kernel
theorem dX6_year_67 : decode cX6_year 67 = .ok (.bipush 8, 2) := by decide +kernel
theorem dX6_year_69 : decode cX6_year 69 = .ok (.irem, 1) := by decide +kernel
theorem dX6_year_70 : decode cX6_year 70 = .ok (.istore 6, 2) := by decide +kernel
theorem dX6_year_72 : decode cX6_year 72 = .ok (.iload 4, 2) := by decide +kernel
theorem dX6_year_74 : decode cX6_year 74 = .ok (.bipush 48, 2) := by decide +kernel
theorem dX6_year_76 : decode cX6_year 76 = .ok (.idiv, 1) := by decide +kernel
theorem dX6_year_77 : decode cX6_year 77 = .ok (.istore 7, 2) := by decide +kernel
theorem dX6_year_79 : decode cX6_year 79 = .ok (.iload 6, 2) := by decide +kernel
theorem dX6_year_81 : decode cX6_year 81 = .ok (.iconst 5, 1) := by decide +kernel
theorem dX6_year_82 : decode cX6_year 82 = .ok (.if_icmp .ge 24, 3) := by decide +kernel
theorem dX6_year_85 : decode cX6_year 85 = .ok (.aload_n 0, 1) := by decide +kernel
theorem dX6_year_86 : decode cX6_year 86 = .ok (.aload_n 0, 1) := by decide +kernel
theorem dX6_year_87 : decode cX6_year 87 = .ok (.iload 4, 2) := by decide +kernel
theorem dX6_year_89 : decode cX6_year 89 = .ok (.bipush 6, 2) := by decide +kernel
theorem dX6_year_91 : decode cX6_year 91 = .ok (.irem, 1) := by decide +kernel
theorem dX6_year_92 : decode cX6_year 92 = .ok (.iload 7, 2) := by decide +kernel
theorem dX6_year_94 : decode cX6_year 94 = .ok (.bipush 9, 2) := by decide +kernel
theorem dX6_year_96 : decode cX6_year 96 = .ok (.irem, 1) := by decide +kernel
theorem dX6_year_97 : decode cX6_year 97 = .ok (.invokevirtual 123, 3) := by decide +kernel
theorem dX6_year_100 : decode cX6_year 100 = .ok (.putfield 113, 3) := by decide +kernel
theorem dX6_year_103 : decode cX6_year 103 = .ok (.goto 60, 3) := by decide +kernel
theorem dX6_year_106 : decode cX6_year 106 = .ok (.iload 6, 2) := by decide +kernel
theorem dX6_year_108 : decode cX6_year 108 = .ok (.iconst 5, 1) := by decide +kernel
theorem dX6_year_109 : decode cX6_year 109 = .ok (.if_icmp .ne 19, 3) := by decide +kernel
theorem dX6_year_112 : decode cX6_year 112 = .ok (.aload_n 0, 1) := by decide +kernel
theorem dX6_year_113 : decode cX6_year 113 = .ok (.aload_n 0, 1) := by decide +kernel
theorem dX6_year_114 : decode cX6_year 114 = .ok (.iload 4, 2) := by decide +kernel
theorem dX6_year_116 : decode cX6_year 116 = .ok (.bipush 6, 2) := by decide +kernel
theorem dX6_year_118 : decode cX6_year 118 = .ok (.irem, 1) := by decide +kernel
theorem dX6_year_119 : decode cX6_year 119 = .ok (.invokevirtual 126, 3) := by decide +kernel
theorem dX6_year_122 : decode cX6_year 122 = .ok (.putfield 113, 3) := by decide +kernel
theorem dX6_year_125 : decode cX6_year 125 = .ok (.goto 38, 3) := by decide +kernel
theorem dX6_year_128 : decode cX6_year 128 = .ok (.aload_n 0, 1) := by decide +kernel
theorem dX6_year_129 : decode cX6_year 129 = .ok (.iload 6, 2) := by decide +kernel
theorem dX6_year_131 : decode cX6_year 131 = .ok (.bipush 6, 2) := by decide +kernel
theorem dX6_year_133 : decode cX6_year 133 = .ok (.if_icmp .ne 23, 3) := by decide +kernel
theorem dX6_year_136 : decode cX6_year 136 = .ok (.aload_n 0, 1) := by decide +kernel
theorem dX6_year_137 : decode cX6_year 137 = .ok (.iload 7, 2) := by decide +kernel
theorem dX6_year_139 : decode cX6_year 139 = .ok (.bipush 9, 2) := by decide +kernel
theorem dX6_year_141 : decode cX6_year 141 = .ok (.irem, 1) := by decide +kernel
theorem dX6_year_142 : decode cX6_year 142 = .ok (.iload 7, 2) := by decide +kernel
theorem dX6_year_144 : decode cX6_year 144 = .ok (.bipush 9, 2) := by decide +kernel
theorem dX6_year_146 : decode cX6_year 146 = .ok (.idiv, 1) := by decide +kernel
theorem dX6_year_147 : decode cX6_year 147 = .ok (.bipush 9, 2) := by decide +kernel
theorem dX6_year_149 : decode cX6_year 149 = .ok (.irem, 1) := by decide +kernel
theorem dX6_year_150 : decode cX6_year 150 = .ok (.invokevirtual 116, 3) := by decide +kernel
theorem dX6_year_153 : decode cX6_year 153 = .ok (.goto 7, 3) := by decide +kernel
theorem dX6_year_156 : decode cX6_year 156 = .ok (.aload_n 0, 1) := by decide +kernel
theorem dX6_year_157 : decode cX6_year 157 = .ok (.invokevirtual 110, 3) := by decide +kernel
theorem dX6_year_160 : decode cX6_year 160 = .ok (.putfield 113, 3) := by decide +kernel
theorem dX6_year_163 : decode cX6_year 163 = .ok (.iinc 5 1, 3) := by decide +kernel
theorem dX6_year_166 : decode cX6_year 166 = .ok (.goto (-123), 3) := by decide +kernel
theorem dX6_year_169 : decode cX6_year 169 = .ok (.iconst 0, 1) := by decide +kernel
theorem dX6_year_170 : decode cX6_year 170 = .ok (.istore 5, 2) := by decide +kernel
theorem dX6_year_172 : decode cX6_year 172 = .ok (.iconst 0, 1) := by decide +kernel
theorem dX6_year_173 : decode cX6_year 173 = .ok (.istore 6, 2) := by decide +kernel
theorem dX6_year_175 : decode cX6_year 175 = .ok (.iload 6, 2) := by decide +kernel
theorem dX6_year_177 : decode cX6_year 177 = .ok (.bipush 9, 2) := by decide +kernel
theorem dX6_year_179 : decode cX6_year 179 = .ok (.if_icmp .ge 23, 3) := by decide +kernel
theorem dX6_year_182 : decode cX6_year 182 = .ok (.iload 5, 2) := by decide +kernel
theorem dX6_year_184 : decode cX6_year 184 = .ok (.aload_n 0, 1) := by decide +kernel
theorem dX6_year_185 : decode cX6_year 185 = .ok (.iload 6, 2) := by decide +kernel
theorem dX6_year_187 : decode cX6_year 187 = .ok (.invokevirtual 104, 3) := by decide +kernel
theorem dX6_year_190 : decode cX6_year 190 = .ok (.invokestatic 74, 3) := by decide +kernel
theorem dX6_year_193 : decode cX6_year 193 = .ok (.iadd, 1) := by decide +kernel
theorem dX6_year_194 : decode cX6_year 194 = .ok (.istore 5, 2) := by decide +kernel
theorem dX6_year_196 : decode cX6_year 196 = .ok (.iinc 6 1, 3) := by decide +kernel
theorem dX6_year_199 : decode cX6_year 199 = .ok (.goto (-24), 3) := by decide +kernel
theorem dX6_year_202 : decode cX6_year 202 = .ok (.iload_n 3, 1) := by decide +kernel
theorem dX6_year_203 : decode cX6_year 203 = .ok (.ifCond .ne 10, 3) := by decide +kernel
theorem dX6_year_206 : decode cX6_year 206 = .ok (.aload_n 0, 1) := by decide +kernel
theorem dX6_year_207 : decode cX6_year 207 = .ok (.invokevirtual 135, 3) := by decide +kernel
theorem dX6_year_210 : decode cX6_year 210 = .ok (.goto 22, 3) := by decide +kernel
theorem dX6_year_213 : decode cX6_year 213 = .ok (.iload_n 3, 1) := by decide +kernel
theorem dX6_year_214 : decode cX6_year 214 = .ok (.iconst 1, 1) := by decide +kernel
theorem dX6_year_215 : decode cX6_year 215 = .ok (.if_icmp .ne 13, 3) := by decide +kernel
theorem dX6_year_218 : decode cX6_year 218 = .ok (.aload_n 0, 1) := by decide +kernel
theorem dX6_year_219 : decode cX6_year 219 = .ok (.invokevirtual 138, 3) := by decide +kernel
theorem dX6_year_222 : decode cX6_year 222 = .ok (.invokestatic 74, 3) := by decide +kernel
theorem dX6_year_225 : decode cX6_year 225 = .ok (.goto 7, 3) := by decide +kernel
theorem dX6_year_228 : decode cX6_year 228 = .ok (.iload 5, 2) := by decide +kernel
theorem dX6_year_230 : decode cX6_year 230 = .ok (.iconst 2, 1) := by decide +kernel
theorem dX6_year_231 : decode cX6_year 231 = .ok (.idiv, 1) := by decide +kernel
theorem dX6_year_232 : decode cX6_year 232 = .ok (.ireturn, 1) := by decide +kernel
end
section
/-! THE CORE: a world as a function of a plain heap (ints and longs by a cell's number and a place), the judgement J over it, a row an instruction. -/
/-- a plain heap: ints (fields and arrays) by cell and place, longs by cell and place -/
abbrev Hp : Type := (Nat → Nat → Int32) × (Nat → Nat → Int64)
def ip (h : Hp) (r j : Nat) (v : Int32) : Hp := (fun a => if a = r then upd (h.1 r) j v else h.1 a, h.2)
def lp (h : Hp) (r j : Nat) (v : Int64) : Hp := (h.1, fun a => if a = r then vp_updL (h.2 r) j v else h.2 a)
/-- addresses, class numbers and slots, the three array classes -/
abbrev Om : Type := (Nat → Nat) × va_G × ClassId × ClassId × ClassId
def tyO (o : Om) : List (ClassId × FieldType) := [(o.2.2.1, .int), (o.2.2.2.1, .long), (o.2.2.2.2, .boolean)]
/-- an int array: cell r, n places -/
def EI (o : Om) (emb : Hp → va_W) (r n : Nat) : Prop := ∃ q : Nat, ∀ h : Hp, (emb h)[q]? = some (o.1 r, .inl (o.2.2.1, n, .inl (h.1 r))) ∧ ∀ (j : Nat) (x : Int32), (emb h).set q (o.1 r, .inl (o.2.2.1, n, .inl (upd (h.1 r) j x))) = emb (ip h r j x)
def EZ (o : Om) (emb : Hp → va_W) (r n : Nat) : Prop := ∃ q : Nat, ∀ h : Hp, (emb h)[q]? = some (o.1 r, .inl (o.2.2.2.2, n, .inl (h.1 r))) ∧ ∀ (j : Nat) (x : Int32), (emb h).set q (o.1 r, .inl (o.2.2.2.2, n, .inl (upd (h.1 r) j x))) = emb (ip h r j x)
def EL (o : Om) (emb : Hp → va_W) (r n : Nat) : Prop := ∃ q : Nat, ∀ h : Hp, (emb h)[q]? = some (o.1 r, .inl (o.2.2.2.1, n, .inr (.inl (h.2 r)))) ∧ ∀ (j : Nat) (x : Int64), (emb h).set q (o.1 r, .inl (o.2.2.2.1, n, .inr (.inl (vp_updL (h.2 r) j x)))) = emb (lp h r j x)
/-- an object: cell r of class ci, its fields, those of them that are written -/
def EO (o : Om) (emb : Hp → va_W) (r ci : Nat) (fs : Hp → List Value) (wk : List Nat) : Prop := ∃ q : Nat, ∀ h : Hp, (emb h)[q]? = some (o.1 r, .inr (ci, fs h)) ∧ ∀ k ∈ wk, ∀ x : Int32, (emb h).set q (o.1 r, .inr (ci, (fs h).set k (.int x))) = emb (ip h r k x)
/-- what holds at the entry of a method all along its body -/
def Cx (p : Program) (s : State) (m : MethodId) (args : Array Value) (meth : Method) (c : Code) (own : String) (cc : ByteArray) (nL : Nat) (rt : Option FieldType) (o : Om) : Prop :=
  p.tables.exec = Jvm.exec ∧ c.code = cc ∧ c.maxLocals = nL ∧ s.vm.findClass own = some m.cls ∧ (∀ w ∈ TT, w.before args s = true) ∧ va_K o.2.1 vwCl (tyO o) s ∧ (∀ w ∈ NW, va_Nw w s) ∧ meth.sig.returnType = rt ∧ meth.locks = false
def Mem (o : Om) (emb : Hp → va_W) (A : Nat → Prop) (H0 : Heap) (h : Hp) (H : Heap) (locs : List Loc) : Prop := va_P o.2.1 vwCl (emb h) H ∧ va_S A H0 H locs ∧ ∀ h : Hp, va_D A (emb h)
/-- the machine, at the frame (pc, locals, stack) over the heap h, comes to a state with Z -/
def J (p : Program) (l : Launch) (e : Env) (R : Room) (s : State) (m : MethodId) (args : Array Value) (below : List Frame) (meth : Method) (c : Code) (cells slots : Nat) (Z : State → Prop) (o : Om) (emb : Hp → va_W) (A : Nat → Prop) (H0 : Heap) (nL pc : Nat) (lo : List (Nat × Value)) (st : List Value) (h : Hp) : Prop :=
  ∀ (H : Heap) (locs : List Loc) (ls : Array Slot), Mem o emb A H0 h H locs → lv_has ls nL lo → W p l e R s m args below meth c H locs cells slots Z (F0 m pc ls st)
/-- a method's contract: from the heap h it returns rv over the heap h' -/
def WdPc (o : Om) (emb : Hp → va_W) (h : Hp) (av : List Value) : Array Value → State → Prop := va_Pc av (fun U => va_P o.2.1 vwCl (emb h) U.heap ∧ va_K o.2.1 vwCl (tyO o) U ∧ ∀ w ∈ NW, va_Nw w U)
def WdQ (o : Om) (emb : Hp → va_W) (A : Nat → Prop) (rv : Option Value) (h' : Hp) : Array Value → State → Outcome → State → Prop := fun _ st oc t => (oc = .returned rv ∧ va_P o.2.1 vwCl (emb h') t.heap) ∧ va_F A st t
def rmf (f n : Nat) : Room := { frames := f, cells := 0, slots := 0, locals := n }
def Ct (l : Launch) (o : Om) (emb : Hp → va_W) (A : Nat → Prop) (y : MethodName) (cc : ByteArray) (nL : Nat) (rt : Option FieldType) (f n : Nat) (av : List Value) (h : Hp) (rv : Option Value) (h' : Hp) : Prop :=
  Met l y (.code y cc nL rt :: TT) (rmf f n) (WdPc o emb h av) (WdQ o emb A rv h') 0 0 A
theorem nest_on : ∀ w ∈ NW, w.onTables = true := by decide +kernel
theorem nw_moved {u U : State} (h : u.vm = U.vm) (hn : ∀ w ∈ NW, va_Nw w u) : ∀ w ∈ NW, va_Nw w U := fun w hw => va_Nw.same (nest_on w hw) h (hn w hw)
theorem nw_warm {s U : State} (hW : s.WarmedH U.vm) (hn : ∀ w ∈ NW, va_Nw w s) : ∀ w ∈ NW, va_Nw w U := by
  intro w hw
  have h1 := hn w hw
  have h2 := (List.mem_filter.mp hw).2
  cases w <;> first | exact va_Nw.warmF hW h1 | exact va_Nw.warmM hW h1 | (simp [isNest] at h2; done)
theorem wd_blind {o : Om} {emb : Hp → va_W} {h : Hp} {av : List Value} : FrameBlind (WdPc o emb h av) := by
  intro a U g mk hq
  obtain ⟨q0, qP, qK, qN⟩ := hq
  exact ⟨q0, qP, va_K.moved (u := U) (U := U.calling g mk a) (Vm.Alike.refl U.vm) qK, nw_moved (u := U) (U := U.calling g mk a) rfl qN⟩
theorem goodTT {y : MethodName} {cc : ByteArray} {nL : Nat} {rt : Option FieldType} (hc : Cond.code y cc nL rt ∈ TT) : GoodIn TT (.code y cc nL rt :: TT) := by
  intro w hw
  rcases List.mem_cons.mp hw with rfl | hw
  · exact ⟨hc, Or.inl rfl⟩
  · exact ⟨hw, TTgood w hw⟩
section CORE
variable {p : Program} {l : Launch} {e : Env} {R : Room} {s : State} {m : MethodId} {args : Array Value} {below : List Frame} {meth : Method} {c : Code} {cells slots : Nat} {Z : State → Prop} {o : Om} {emb : Hp → va_W} {A : Nat → Prop} {H0 : Heap} {nL pc : Nat} {lo : List (Nat × Value)} {st rest : List Value} {h : Hp} {own : String} {cc : ByteArray} {rt : Option FieldType}
theorem J_const (X : Cx p s m args meth c own cc nL rt o) {n : Int} (v : Int32) (hd : decode cc pc = .ok (.iconst n, 1)) (hv : Int32.ofInt n = v) (k : J p l e R s m args below meth c cells slots Z o emb A H0 nL (pc + 1) lo (.int v :: st) h) : J p l e R s m args below meth c cells slots Z o emb A H0 nL pc lo st h :=
  fun H locs ls hm hl => lv_iconst X.1 X.2.1 hd hv (k H locs ls hm hl)
theorem J_bipush (X : Cx p s m args meth c own cc nL rt o) {n : Int} (v : Int32) (hd : decode cc pc = .ok (.bipush n, 2)) (hv : (Int8.ofInt n).toInt32 = v) (k : J p l e R s m args below meth c cells slots Z o emb A H0 nL (pc + 2) lo (.int v :: st) h) : J p l e R s m args below meth c cells slots Z o emb A H0 nL pc lo st h :=
  fun H locs ls hm hl => lv_bipush X.1 X.2.1 hd hv (k H locs ls hm hl)
theorem J_sipush (X : Cx p s m args meth c own cc nL rt o) {n : Int} (v : Int32) (hd : decode cc pc = .ok (.sipush n, 3)) (hv : (Int16.ofInt n).toInt32 = v) (k : J p l e R s m args below meth c cells slots Z o emb A H0 nL (pc + 3) lo (.int v :: st) h) : J p l e R s m args below meth c cells slots Z o emb A H0 nL pc lo st h :=
  fun H locs ls hm hl => lv_sipush X.1 X.2.1 hd hv (k H locs ls hm hl)
theorem J_lconst (X : Cx p s m args meth c own cc nL rt o) {n : Fin 2} (v : Int64) (hd : decode cc pc = .ok (.lconst n, 1)) (hv : Int64.ofNat (n : Nat) = v) (k : J p l e R s m args below meth c cells slots Z o emb A H0 nL (pc + 1) lo (.long v :: st) h) : J p l e R s m args below meth c cells slots Z o emb A H0 nL pc lo st h :=
  fun H locs ls hm hl => lv_lconst X.1 X.2.1 hd hv (k H locs ls hm hl)
theorem J_ldc (X : Cx p s m args meth c own cc nL rt o) {i : Nat} {v : Int32} (hw : Cond.constant own i v ∈ TT) (hd : decode cc pc = .ok (.ldc i, 2)) (k : J p l e R s m args below meth c cells slots Z o emb A H0 nL (pc + 2) lo (.int v :: st) h) : J p l e R s m args below meth c cells slots Z o emb A H0 nL pc lo st h :=
  fun H locs ls hm hl => lv_ldc X.1 X.2.1 X.2.2.2.1 (X.2.2.2.2.1 _ hw) hd (k H locs ls hm hl)
theorem J_ldcw (X : Cx p s m args meth c own cc nL rt o) {i : Nat} {v : Int32} (hw : Cond.constant own i v ∈ TT) (hd : decode cc pc = .ok (.ldc_w i, 3)) (k : J p l e R s m args below meth c cells slots Z o emb A H0 nL (pc + 3) lo (.int v :: st) h) : J p l e R s m args below meth c cells slots Z o emb A H0 nL pc lo st h :=
  fun H locs ls hm hl => lv_ldcw X.1 X.2.1 X.2.2.2.1 (X.2.2.2.2.1 _ hw) hd (k H locs ls hm hl)
theorem J_ldc2 (X : Cx p s m args meth c own cc nL rt o) {i : Nat} {v : Int64} (hw : Cond.constantLong own i v ∈ TT) (hd : decode cc pc = .ok (.ldc2_w i, 3)) (k : J p l e R s m args below meth c cells slots Z o emb A H0 nL (pc + 3) lo (.long v :: st) h) : J p l e R s m args below meth c cells slots Z o emb A H0 nL pc lo st h :=
  fun H locs ls hm hl => lv_ldc2 X.1 X.2.1 X.2.2.2.1 (X.2.2.2.2.1 _ hw) hd (k H locs ls hm hl)
theorem J_iload_n (X : Cx p s m args meth c own cc nL rt o) {n : Fin 4} {i : Nat} {x : Int32} (q : Nat) (hd : decode cc pc = .ok (.iload_n n, 1)) (hn : (n : Nat) = i) (hq : lo[q]? = some (i, .int x)) (k : J p l e R s m args below meth c cells slots Z o emb A H0 nL (pc + 1) lo (.int x :: st) h) : J p l e R s m args below meth c cells slots Z o emb A H0 nL pc lo st h :=
  fun H locs ls hm hl => lv_iload_n X.1 X.2.1 hd hn (lv_at hl q hq) (k H locs ls hm hl)
theorem J_iload (X : Cx p s m args meth c own cc nL rt o) {i : Nat} {x : Int32} (q : Nat) (hd : decode cc pc = .ok (.iload i, 2)) (hq : lo[q]? = some (i, .int x)) (k : J p l e R s m args below meth c cells slots Z o emb A H0 nL (pc + 2) lo (.int x :: st) h) : J p l e R s m args below meth c cells slots Z o emb A H0 nL pc lo st h :=
  fun H locs ls hm hl => lv_iload X.1 X.2.1 hd (lv_at hl q hq) (k H locs ls hm hl)
theorem J_lload_n (X : Cx p s m args meth c own cc nL rt o) {n : Fin 4} {i : Nat} {x : Int64} (q : Nat) (hd : decode cc pc = .ok (.lload_n n, 1)) (hn : (n : Nat) = i) (hq : lo[q]? = some (i, .long x)) (k : J p l e R s m args below meth c cells slots Z o emb A H0 nL (pc + 1) lo (.long x :: st) h) : J p l e R s m args below meth c cells slots Z o emb A H0 nL pc lo st h :=
  fun H locs ls hm hl => lv_lload_n X.1 X.2.1 hd hn (lv_at hl q hq) (k H locs ls hm hl)
theorem J_lload (X : Cx p s m args meth c own cc nL rt o) {i : Nat} {x : Int64} (q : Nat) (hd : decode cc pc = .ok (.lload i, 2)) (hq : lo[q]? = some (i, .long x)) (k : J p l e R s m args below meth c cells slots Z o emb A H0 nL (pc + 2) lo (.long x :: st) h) : J p l e R s m args below meth c cells slots Z o emb A H0 nL pc lo st h :=
  fun H locs ls hm hl => lv_lload X.1 X.2.1 hd (lv_at hl q hq) (k H locs ls hm hl)
theorem J_aload_n (X : Cx p s m args meth c own cc nL rt o) {n : Fin 4} {i : Nat} {x : Nat} (q : Nat) (hd : decode cc pc = .ok (.aload_n n, 1)) (hn : (n : Nat) = i) (hq : lo[q]? = some (i, .ref x)) (k : J p l e R s m args below meth c cells slots Z o emb A H0 nL (pc + 1) lo (.ref x :: st) h) : J p l e R s m args below meth c cells slots Z o emb A H0 nL pc lo st h :=
  fun H locs ls hm hl => lv_aload_n X.1 X.2.1 hd hn (lv_at hl q hq) (k H locs ls hm hl)
theorem J_aload (X : Cx p s m args meth c own cc nL rt o) {i : Nat} {x : Nat} (q : Nat) (hd : decode cc pc = .ok (.aload i, 2)) (hq : lo[q]? = some (i, .ref x)) (k : J p l e R s m args below meth c cells slots Z o emb A H0 nL (pc + 2) lo (.ref x :: st) h) : J p l e R s m args below meth c cells slots Z o emb A H0 nL pc lo st h :=
  fun H locs ls hm hl => lv_aload X.1 X.2.1 hd (lv_at hl q hq) (k H locs ls hm hl)
/-- the locals behind a store of one slot, of two slots -/
def sto1 (i : Nat) (v : Value) (lo : List (Nat × Value)) : List (Nat × Value) := (i, v) :: lo.filter (fun q => !(q.1 == i) && !(q.1 + 1 == i && q.2.category == 2))
def sto2 (i : Nat) (v : Value) (lo : List (Nat × Value)) : List (Nat × Value) := (i, v) :: lo.filter (fun q => !(q.1 == i) && (!(q.1 == i + 1) && !(q.1 + 1 == i && q.2.category == 2)))
theorem J_istore_n (X : Cx p s m args meth c own cc nL rt o) {n : Fin 4} {i : Nat} {x : Int32} (lo' : List (Nat × Value)) (hd : decode cc pc = .ok (.istore_n n, 1)) (hn : (n : Nat) = i) (hi : i < nL) (hl' : sto1 i (.int x) lo = lo') (k : J p l e R s m args below meth c cells slots Z o emb A H0 nL (pc + 1) lo' st h) : J p l e R s m args below meth c cells slots Z o emb A H0 nL pc lo (.int x :: st) h :=
  fun H locs _ hm hl => lv_istore_n X.1 X.2.1 hd hn hl hi hl' (fun ls' h2 => k H locs ls' hm h2)
theorem J_istore (X : Cx p s m args meth c own cc nL rt o) {i : Nat} {x : Int32} (lo' : List (Nat × Value)) (hd : decode cc pc = .ok (.istore i, 2)) (hi : i < nL) (hl' : sto1 i (.int x) lo = lo') (k : J p l e R s m args below meth c cells slots Z o emb A H0 nL (pc + 2) lo' st h) : J p l e R s m args below meth c cells slots Z o emb A H0 nL pc lo (.int x :: st) h :=
  fun H locs _ hm hl => lv_istore X.1 X.2.1 hd hl hi hl' (fun ls' h2 => k H locs ls' hm h2)
theorem J_lstore_n (X : Cx p s m args meth c own cc nL rt o) {n : Fin 4} {i : Nat} {x : Int64} (lo' : List (Nat × Value)) (hd : decode cc pc = .ok (.lstore_n n, 1)) (hn : (n : Nat) = i) (hi : i + 1 < nL) (hl' : sto2 i (.long x) lo = lo') (k : J p l e R s m args below meth c cells slots Z o emb A H0 nL (pc + 1) lo' st h) : J p l e R s m args below meth c cells slots Z o emb A H0 nL pc lo (.long x :: st) h :=
  fun H locs _ hm hl => lv_lstore_n X.1 X.2.1 hd hn hl hi hl' (fun ls' h2 => k H locs ls' hm h2)
theorem J_lstore (X : Cx p s m args meth c own cc nL rt o) {i : Nat} {x : Int64} (lo' : List (Nat × Value)) (hd : decode cc pc = .ok (.lstore i, 2)) (hi : i + 1 < nL) (hl' : sto2 i (.long x) lo = lo') (k : J p l e R s m args below meth c cells slots Z o emb A H0 nL (pc + 2) lo' st h) : J p l e R s m args below meth c cells slots Z o emb A H0 nL pc lo (.long x :: st) h :=
  fun H locs _ hm hl => lv_lstore X.1 X.2.1 hd hl hi hl' (fun ls' h2 => k H locs ls' hm h2)
theorem J_astore_n (X : Cx p s m args meth c own cc nL rt o) {n : Fin 4} {i : Nat} {x : Nat} (lo' : List (Nat × Value)) (hd : decode cc pc = .ok (.astore_n n, 1)) (hn : (n : Nat) = i) (hi : i < nL) (hl' : sto1 i (.ref x) lo = lo') (k : J p l e R s m args below meth c cells slots Z o emb A H0 nL (pc + 1) lo' st h) : J p l e R s m args below meth c cells slots Z o emb A H0 nL pc lo (.ref x :: st) h :=
  fun H locs _ hm hl => lv_astore_n X.1 X.2.1 hd hn hl hi hl' (fun ls' h2 => k H locs ls' hm h2)
theorem J_iinc (X : Cx p s m args meth c own cc nL rt o) {i : Nat} {n : Int} {x v : Int32} (q : Nat) (lo' : List (Nat × Value)) (hd : decode cc pc = .ok (.iinc i n, 3)) (hq : lo[q]? = some (i, .int x)) (hv : x + Int32.ofInt n = v) (hi : i < nL) (hl' : sto1 i (.int v) lo = lo') (k : J p l e R s m args below meth c cells slots Z o emb A H0 nL (pc + 3) lo' st h) : J p l e R s m args below meth c cells slots Z o emb A H0 nL pc lo st h :=
  fun H locs _ hm hl => lv_iinc X.1 X.2.1 hd hl hq hv hi hl' (fun ls' h2 => k H locs ls' hm h2)
theorem J_sub (ks : List Nat) {lo' : List (Nat × Value)} (hl : lv_pick lo ks = lo') (k : J p l e R s m args below meth c cells slots Z o emb A H0 nL pc lo' st h) : J p l e R s m args below meth c cells slots Z o emb A H0 nL pc lo st h :=
  fun H locs ls hm h2 => k H locs ls hm (lv_sub h2 ks hl)
theorem J_iadd (X : Cx p s m args meth c own cc nL rt o) {x y : Int32} (hd : decode cc pc = .ok (.iadd, 1)) (k : J p l e R s m args below meth c cells slots Z o emb A H0 nL (pc + 1) lo (.int (x + y) :: st) h) : J p l e R s m args below meth c cells slots Z o emb A H0 nL pc lo (.int y :: .int x :: st) h :=
  fun H locs ls hm hl => lv_iadd X.1 X.2.1 hd (k H locs ls hm hl)
theorem J_isub (X : Cx p s m args meth c own cc nL rt o) {x y : Int32} (hd : decode cc pc = .ok (.isub, 1)) (k : J p l e R s m args below meth c cells slots Z o emb A H0 nL (pc + 1) lo (.int (x - y) :: st) h) : J p l e R s m args below meth c cells slots Z o emb A H0 nL pc lo (.int y :: .int x :: st) h :=
  fun H locs ls hm hl => lv_isub X.1 X.2.1 hd (k H locs ls hm hl)
theorem J_imul (X : Cx p s m args meth c own cc nL rt o) {x y : Int32} (hd : decode cc pc = .ok (.imul, 1)) (k : J p l e R s m args below meth c cells slots Z o emb A H0 nL (pc + 1) lo (.int (x * y) :: st) h) : J p l e R s m args below meth c cells slots Z o emb A H0 nL pc lo (.int y :: .int x :: st) h :=
  fun H locs ls hm hl => lv_imul X.1 X.2.1 hd (k H locs ls hm hl)
theorem J_iand (X : Cx p s m args meth c own cc nL rt o) {x y : Int32} (hd : decode cc pc = .ok (.iand, 1)) (k : J p l e R s m args below meth c cells slots Z o emb A H0 nL (pc + 1) lo (.int (x &&& y) :: st) h) : J p l e R s m args below meth c cells slots Z o emb A H0 nL pc lo (.int y :: .int x :: st) h :=
  fun H locs ls hm hl => lv_iand X.1 X.2.1 hd (k H locs ls hm hl)
theorem J_ior (X : Cx p s m args meth c own cc nL rt o) {x y : Int32} (hd : decode cc pc = .ok (.ior, 1)) (k : J p l e R s m args below meth c cells slots Z o emb A H0 nL (pc + 1) lo (.int (x ||| y) :: st) h) : J p l e R s m args below meth c cells slots Z o emb A H0 nL pc lo (.int y :: .int x :: st) h :=
  fun H locs ls hm hl => lv_ior X.1 X.2.1 hd (k H locs ls hm hl)
theorem J_ixor (X : Cx p s m args meth c own cc nL rt o) {x y : Int32} (hd : decode cc pc = .ok (.ixor, 1)) (k : J p l e R s m args below meth c cells slots Z o emb A H0 nL (pc + 1) lo (.int (x ^^^ y) :: st) h) : J p l e R s m args below meth c cells slots Z o emb A H0 nL pc lo (.int y :: .int x :: st) h :=
  fun H locs ls hm hl => lv_ixor X.1 X.2.1 hd (k H locs ls hm hl)
theorem J_ishl (X : Cx p s m args meth c own cc nL rt o) {x y : Int32} (hd : decode cc pc = .ok (.ishl, 1)) (k : J p l e R s m args below meth c cells slots Z o emb A H0 nL (pc + 1) lo (.int (x <<< (y &&& 31)) :: st) h) : J p l e R s m args below meth c cells slots Z o emb A H0 nL pc lo (.int y :: .int x :: st) h :=
  fun H locs ls hm hl => lv_ishl X.1 X.2.1 hd (k H locs ls hm hl)
theorem J_ishr (X : Cx p s m args meth c own cc nL rt o) {x y : Int32} (hd : decode cc pc = .ok (.ishr, 1)) (k : J p l e R s m args below meth c cells slots Z o emb A H0 nL (pc + 1) lo (.int (x >>> (y &&& 31)) :: st) h) : J p l e R s m args below meth c cells slots Z o emb A H0 nL pc lo (.int y :: .int x :: st) h :=
  fun H locs ls hm hl => lv_ishr X.1 X.2.1 hd (k H locs ls hm hl)
def iushr (x y : Int32) : Int32 := (x.toUInt32 >>> (y.toUInt32 &&& Int32.toUInt32 31)).toInt32
theorem J_iushr (X : Cx p s m args meth c own cc nL rt o) {x y : Int32} (hd : decode cc pc = .ok (.iushr, 1)) (k : J p l e R s m args below meth c cells slots Z o emb A H0 nL (pc + 1) lo (.int (iushr x y) :: st) h) : J p l e R s m args below meth c cells slots Z o emb A H0 nL pc lo (.int y :: .int x :: st) h :=
  fun H locs ls hm hl => lv_iushr X.1 X.2.1 hd rfl (k H locs ls hm hl)
theorem J_idiv (X : Cx p s m args meth c own cc nL rt o) {x y : Int32} (hd : decode cc pc = .ok (.idiv, 1)) (hne : ¬ y = 0) (k : J p l e R s m args below meth c cells slots Z o emb A H0 nL (pc + 1) lo (.int (x / y) :: st) h) : J p l e R s m args below meth c cells slots Z o emb A H0 nL pc lo (.int y :: .int x :: st) h :=
  fun H locs ls hm hl => lv_idiv X.1 X.2.1 hd hne (k H locs ls hm hl)
def irem (x y : Int32) : Int32 := x - x / y * y
theorem J_irem (X : Cx p s m args meth c own cc nL rt o) {x y : Int32} (hd : decode cc pc = .ok (.irem, 1)) (hne : ¬ y = 0) (k : J p l e R s m args below meth c cells slots Z o emb A H0 nL (pc + 1) lo (.int (irem x y) :: st) h) : J p l e R s m args below meth c cells slots Z o emb A H0 nL pc lo (.int y :: .int x :: st) h :=
  fun H locs ls hm hl => lv_irem X.1 X.2.1 hd hne (k H locs ls hm hl)
theorem J_ladd (X : Cx p s m args meth c own cc nL rt o) {x y : Int64} (hd : decode cc pc = .ok (.ladd, 1)) (k : J p l e R s m args below meth c cells slots Z o emb A H0 nL (pc + 1) lo (.long (x + y) :: st) h) : J p l e R s m args below meth c cells slots Z o emb A H0 nL pc lo (.long y :: .long x :: st) h :=
  fun H locs ls hm hl => lv_ladd X.1 X.2.1 hd (k H locs ls hm hl)
theorem J_lmul (X : Cx p s m args meth c own cc nL rt o) {x y : Int64} (hd : decode cc pc = .ok (.lmul, 1)) (k : J p l e R s m args below meth c cells slots Z o emb A H0 nL (pc + 1) lo (.long (x * y) :: st) h) : J p l e R s m args below meth c cells slots Z o emb A H0 nL pc lo (.long y :: .long x :: st) h :=
  fun H locs ls hm hl => lv_lmul X.1 X.2.1 hd (k H locs ls hm hl)
theorem J_ldiv (X : Cx p s m args meth c own cc nL rt o) {x y : Int64} (hd : decode cc pc = .ok (.ldiv, 1)) (hne : ¬ y = 0) (k : J p l e R s m args below meth c cells slots Z o emb A H0 nL (pc + 1) lo (.long (x / y) :: st) h) : J p l e R s m args below meth c cells slots Z o emb A H0 nL pc lo (.long y :: .long x :: st) h :=
  fun H locs ls hm hl => lv_ldiv X.1 X.2.1 hd hne (k H locs ls hm hl)
def lrem (x y : Int64) : Int64 := x - x / y * y
theorem J_lrem (X : Cx p s m args meth c own cc nL rt o) {x y : Int64} (hd : decode cc pc = .ok (.lrem, 1)) (hne : ¬ y = 0) (k : J p l e R s m args below meth c cells slots Z o emb A H0 nL (pc + 1) lo (.long (lrem x y) :: st) h) : J p l e R s m args below meth c cells slots Z o emb A H0 nL pc lo (.long y :: .long x :: st) h :=
  fun H locs ls hm hl => lv_lrem X.1 X.2.1 hd hne (k H locs ls hm hl)
theorem J_i2l (X : Cx p s m args meth c own cc nL rt o) {x : Int32} (hd : decode cc pc = .ok (.i2l, 1)) (k : J p l e R s m args below meth c cells slots Z o emb A H0 nL (pc + 1) lo (.long x.toInt64 :: st) h) : J p l e R s m args below meth c cells slots Z o emb A H0 nL pc lo (.int x :: st) h :=
  fun H locs ls hm hl => lv_i2l X.1 X.2.1 hd rfl (k H locs ls hm hl)
theorem J_lcmp (X : Cx p s m args meth c own cc nL rt o) {x y : Int64} (hd : decode cc pc = .ok (.lcmp, 1)) (k : J p l e R s m args below meth c cells slots Z o emb A H0 nL (pc + 1) lo (.int (lg_cmp x y) :: st) h) : J p l e R s m args below meth c cells slots Z o emb A H0 nL pc lo (.long y :: .long x :: st) h :=
  fun H locs ls hm hl => W.lcmp X.1 X.2.1 hd (k H locs ls hm hl)
theorem J_pop (X : Cx p s m args meth c own cc nL rt o) {v : Value} (hd : decode cc pc = .ok (.pop, 1)) (hv : v.category = 1) (k : J p l e R s m args below meth c cells slots Z o emb A H0 nL (pc + 1) lo st h) : J p l e R s m args below meth c cells slots Z o emb A H0 nL pc lo (v :: st) h :=
  fun H locs ls hm hl => lv_pop X.1 X.2.1 hd hv (k H locs ls hm hl)
theorem J_dup (X : Cx p s m args meth c own cc nL rt o) {v : Value} (hd : decode cc pc = .ok (.dup, 1)) (hv : v.category = 1) (k : J p l e R s m args below meth c cells slots Z o emb A H0 nL (pc + 1) lo (v :: v :: st) h) : J p l e R s m args below meth c cells slots Z o emb A H0 nL pc lo (v :: st) h :=
  fun H locs ls hm hl => lv_dup X.1 X.2.1 hd hv (k H locs ls hm hl)
theorem J_goto (X : Cx p s m args meth c own cc nL rt o) {off : Int} {tgt : Nat} (hd : decode cc pc = .ok (.goto off, 3)) (ht : (pc : Int) + off = (tgt : Int)) (k : J p l e R s m args below meth c cells slots Z o emb A H0 nL tgt lo st h) : J p l e R s m args below meth c cells slots Z o emb A H0 nL pc lo st h :=
  fun H locs ls hm hl => lv_goto X.1 X.2.1 hd ht (k H locs ls hm hl)
theorem J_topi {x : Int32} (y : Int32) (hy : x = y) (k : J p l e R s m args below meth c cells slots Z o emb A H0 nL pc lo (.int y :: st) h) : J p l e R s m args below meth c cells slots Z o emb A H0 nL pc lo (.int x :: st) h := hy ▸ k
theorem J_topl {x : Int64} (y : Int64) (hy : x = y) (k : J p l e R s m args below meth c cells slots Z o emb A H0 nL pc lo (.long y :: st) h) : J p l e R s m args below meth c cells slots Z o emb A H0 nL pc lo (.long x :: st) h := hy ▸ k
end CORE
end
section
/-! THE CORE, second half: branches, fields and arrays, calls, returns. -/
section CORE2
variable {p : Program} {l : Launch} {e : Env} {R : Room} {s : State} {m : MethodId} {args : Array Value} {below : List Frame} {meth : Method} {c : Code} {cells slots : Nat} {Z : State → Prop} {o : Om} {emb : Hp → va_W} {A : Nat → Prop} {H0 : Heap} {nL pc : Nat} {lo : List (Nat × Value)} {st rest : List Value} {h : Hp} {own : String} {cc : ByteArray} {rt : Option FieldType}
theorem J_if_eq (X : Cx p s m args meth c own cc nL rt o) {x : Int32} {off : Int} {tgt : Nat} (hd : decode cc pc = .ok (.ifCond .eq off, 3)) (ht : (pc : Int) + off = (tgt : Int)) (kt : x = 0 → J p l e R s m args below meth c cells slots Z o emb A H0 nL tgt lo st h) (kf : ¬ x = 0 → J p l e R s m args below meth c cells slots Z o emb A H0 nL (pc + 3) lo st h) : J p l e R s m args below meth c cells slots Z o emb A H0 nL pc lo (.int x :: st) h :=
  fun H locs ls hm hl => lv_if_eq X.1 X.2.1 hd ht (fun q => kt q H locs ls hm hl) (fun q => kf q H locs ls hm hl)
theorem J_icmp_eq (X : Cx p s m args meth c own cc nL rt o) {x y : Int32} {off : Int} {tgt : Nat} (hd : decode cc pc = .ok (.if_icmp .eq off, 3)) (ht : (pc : Int) + off = (tgt : Int)) (kt : x = y → J p l e R s m args below meth c cells slots Z o emb A H0 nL tgt lo st h) (kf : ¬ x = y → J p l e R s m args below meth c cells slots Z o emb A H0 nL (pc + 3) lo st h) : J p l e R s m args below meth c cells slots Z o emb A H0 nL pc lo (.int y :: .int x :: st) h :=
  fun H locs ls hm hl => lv_icmp_eq X.1 X.2.1 hd ht (fun q => kt q H locs ls hm hl) (fun q => kf q H locs ls hm hl)
theorem J_if_ne (X : Cx p s m args meth c own cc nL rt o) {x : Int32} {off : Int} {tgt : Nat} (hd : decode cc pc = .ok (.ifCond .ne off, 3)) (ht : (pc : Int) + off = (tgt : Int)) (kt : ¬ x = 0 → J p l e R s m args below meth c cells slots Z o emb A H0 nL tgt lo st h) (kf : x = 0 → J p l e R s m args below meth c cells slots Z o emb A H0 nL (pc + 3) lo st h) : J p l e R s m args below meth c cells slots Z o emb A H0 nL pc lo (.int x :: st) h :=
  fun H locs ls hm hl => lv_if_ne X.1 X.2.1 hd ht (fun q => kt q H locs ls hm hl) (fun q => kf q H locs ls hm hl)
theorem J_icmp_ne (X : Cx p s m args meth c own cc nL rt o) {x y : Int32} {off : Int} {tgt : Nat} (hd : decode cc pc = .ok (.if_icmp .ne off, 3)) (ht : (pc : Int) + off = (tgt : Int)) (kt : ¬ x = y → J p l e R s m args below meth c cells slots Z o emb A H0 nL tgt lo st h) (kf : x = y → J p l e R s m args below meth c cells slots Z o emb A H0 nL (pc + 3) lo st h) : J p l e R s m args below meth c cells slots Z o emb A H0 nL pc lo (.int y :: .int x :: st) h :=
  fun H locs ls hm hl => lv_icmp_ne X.1 X.2.1 hd ht (fun q => kt q H locs ls hm hl) (fun q => kf q H locs ls hm hl)
theorem J_if_lt (X : Cx p s m args meth c own cc nL rt o) {x : Int32} {off : Int} {tgt : Nat} (hd : decode cc pc = .ok (.ifCond .lt off, 3)) (ht : (pc : Int) + off = (tgt : Int)) (kt : x < 0 → J p l e R s m args below meth c cells slots Z o emb A H0 nL tgt lo st h) (kf : ¬ x < 0 → J p l e R s m args below meth c cells slots Z o emb A H0 nL (pc + 3) lo st h) : J p l e R s m args below meth c cells slots Z o emb A H0 nL pc lo (.int x :: st) h :=
  fun H locs ls hm hl => lv_if_lt X.1 X.2.1 hd ht (fun q => kt q H locs ls hm hl) (fun q => kf q H locs ls hm hl)
theorem J_icmp_lt (X : Cx p s m args meth c own cc nL rt o) {x y : Int32} {off : Int} {tgt : Nat} (hd : decode cc pc = .ok (.if_icmp .lt off, 3)) (ht : (pc : Int) + off = (tgt : Int)) (kt : x < y → J p l e R s m args below meth c cells slots Z o emb A H0 nL tgt lo st h) (kf : ¬ x < y → J p l e R s m args below meth c cells slots Z o emb A H0 nL (pc + 3) lo st h) : J p l e R s m args below meth c cells slots Z o emb A H0 nL pc lo (.int y :: .int x :: st) h :=
  fun H locs ls hm hl => lv_icmp_lt X.1 X.2.1 hd ht (fun q => kt q H locs ls hm hl) (fun q => kf q H locs ls hm hl)
theorem J_if_ge (X : Cx p s m args meth c own cc nL rt o) {x : Int32} {off : Int} {tgt : Nat} (hd : decode cc pc = .ok (.ifCond .ge off, 3)) (ht : (pc : Int) + off = (tgt : Int)) (kt : 0 ≤ x → J p l e R s m args below meth c cells slots Z o emb A H0 nL tgt lo st h) (kf : ¬ 0 ≤ x → J p l e R s m args below meth c cells slots Z o emb A H0 nL (pc + 3) lo st h) : J p l e R s m args below meth c cells slots Z o emb A H0 nL pc lo (.int x :: st) h :=
  fun H locs ls hm hl => lv_if_ge X.1 X.2.1 hd ht (fun q => kt q H locs ls hm hl) (fun q => kf q H locs ls hm hl)
theorem J_icmp_ge (X : Cx p s m args meth c own cc nL rt o) {x y : Int32} {off : Int} {tgt : Nat} (hd : decode cc pc = .ok (.if_icmp .ge off, 3)) (ht : (pc : Int) + off = (tgt : Int)) (kt : y ≤ x → J p l e R s m args below meth c cells slots Z o emb A H0 nL tgt lo st h) (kf : ¬ y ≤ x → J p l e R s m args below meth c cells slots Z o emb A H0 nL (pc + 3) lo st h) : J p l e R s m args below meth c cells slots Z o emb A H0 nL pc lo (.int y :: .int x :: st) h :=
  fun H locs ls hm hl => lv_icmp_ge X.1 X.2.1 hd ht (fun q => kt q H locs ls hm hl) (fun q => kf q H locs ls hm hl)
theorem J_if_gt (X : Cx p s m args meth c own cc nL rt o) {x : Int32} {off : Int} {tgt : Nat} (hd : decode cc pc = .ok (.ifCond .gt off, 3)) (ht : (pc : Int) + off = (tgt : Int)) (kt : 0 < x → J p l e R s m args below meth c cells slots Z o emb A H0 nL tgt lo st h) (kf : ¬ 0 < x → J p l e R s m args below meth c cells slots Z o emb A H0 nL (pc + 3) lo st h) : J p l e R s m args below meth c cells slots Z o emb A H0 nL pc lo (.int x :: st) h :=
  fun H locs ls hm hl => lv_if_gt X.1 X.2.1 hd ht (fun q => kt q H locs ls hm hl) (fun q => kf q H locs ls hm hl)
theorem J_icmp_gt (X : Cx p s m args meth c own cc nL rt o) {x y : Int32} {off : Int} {tgt : Nat} (hd : decode cc pc = .ok (.if_icmp .gt off, 3)) (ht : (pc : Int) + off = (tgt : Int)) (kt : y < x → J p l e R s m args below meth c cells slots Z o emb A H0 nL tgt lo st h) (kf : ¬ y < x → J p l e R s m args below meth c cells slots Z o emb A H0 nL (pc + 3) lo st h) : J p l e R s m args below meth c cells slots Z o emb A H0 nL pc lo (.int y :: .int x :: st) h :=
  fun H locs ls hm hl => lv_icmp_gt X.1 X.2.1 hd ht (fun q => kt q H locs ls hm hl) (fun q => kf q H locs ls hm hl)
theorem J_if_le (X : Cx p s m args meth c own cc nL rt o) {x : Int32} {off : Int} {tgt : Nat} (hd : decode cc pc = .ok (.ifCond .le off, 3)) (ht : (pc : Int) + off = (tgt : Int)) (kt : x ≤ 0 → J p l e R s m args below meth c cells slots Z o emb A H0 nL tgt lo st h) (kf : ¬ x ≤ 0 → J p l e R s m args below meth c cells slots Z o emb A H0 nL (pc + 3) lo st h) : J p l e R s m args below meth c cells slots Z o emb A H0 nL pc lo (.int x :: st) h :=
  fun H locs ls hm hl => lv_if_le X.1 X.2.1 hd ht (fun q => kt q H locs ls hm hl) (fun q => kf q H locs ls hm hl)
theorem J_icmp_le (X : Cx p s m args meth c own cc nL rt o) {x y : Int32} {off : Int} {tgt : Nat} (hd : decode cc pc = .ok (.if_icmp .le off, 3)) (ht : (pc : Int) + off = (tgt : Int)) (kt : x ≤ y → J p l e R s m args below meth c cells slots Z o emb A H0 nL tgt lo st h) (kf : ¬ x ≤ y → J p l e R s m args below meth c cells slots Z o emb A H0 nL (pc + 3) lo st h) : J p l e R s m args below meth c cells slots Z o emb A H0 nL pc lo (.int y :: .int x :: st) h :=
  fun H locs ls hm hl => lv_icmp_le X.1 X.2.1 hd ht (fun q => kt q H locs ls hm hl) (fun q => kf q H locs ls hm hl)
theorem J_tableOut (X : Cx p s m args meth c own cc nL rt o) {dflt lw hi : Int} {offs : Array Int} {len : Nat} {x : Int32} {tgt : Nat} (hd : decode cc pc = .ok (.tableswitch dflt lw hi offs, len)) (hx : x.toInt < lw ∨ hi < x.toInt) (ht : (pc : Int) + dflt = (tgt : Int)) (k : J p l e R s m args below meth c cells slots Z o emb A H0 nL tgt lo st h) : J p l e R s m args below meth c cells slots Z o emb A H0 nL pc lo (.int x :: st) h :=
  fun H locs ls hm hl => lv_tableOut X.1 X.2.1 hd hx ht (k H locs ls hm hl)
theorem J_tableIn (X : Cx p s m args meth c own cc nL rt o) {dflt lw hi : Int} {offs : Array Int} {len : Nat} {x : Int32} {off : Int} {tgt : Nat} (hd : decode cc pc = .ok (.tableswitch dflt lw hi offs, len)) (h1 : ¬ x.toInt < lw) (h2 : ¬ hi < x.toInt) (ho : offs[(x.toInt - lw).toNat]? = some off) (ht : (pc : Int) + off = (tgt : Int)) (k : J p l e R s m args below meth c cells slots Z o emb A H0 nL tgt lo st h) : J p l e R s m args below meth c cells slots Z o emb A H0 nL pc lo (.int x :: st) h :=
  fun H locs ls hm hl => lv_tableIn X.1 X.2.1 hd h1 h2 ho ht (k H locs ls hm hl)
theorem J_lookup (X : Cx p s m args meth c own cc nL rt o) {dflt : Int} {ps : Array (Int × Int)} {len : Nat} {x : Int32} {off : Int} {tgt : Nat} (hd : decode cc pc = .ok (.lookupswitch dflt ps, len)) (hp : (ps.toList.zip (ps.toList.drop 1)).all (fun (a, next) => a.1 < next.1) = true) (ho : Op.lookupswitch.offset ps.toList dflt x.toInt = off) (ht : (pc : Int) + off = (tgt : Int)) (k : J p l e R s m args below meth c cells slots Z o emb A H0 nL tgt lo st h) : J p l e R s m args below meth c cells slots Z o emb A H0 nL pc lo (.int x :: st) h :=
  fun H locs ls hm hl => lv_lookup X.1 X.2.1 hd hp ho ht (k H locs ls hm hl)
/-- fields -/
theorem J_get (X : Cx p s m args meth c own cc nL rt o) {a ci index N : Nat} {fs : Hp → List Value} {wk : List Nat} {ref C : String} {T : u_T} (hO : EO o emb a ci fs wk) (hin : ∀ w ∈ u_ws C T N, w ∈ TT) (hc : vwCl[ci]? = some (C, T, N)) (q : Nat) (hq : q < N) (hw : Cond.fieldLink own index ref (T q).2.1 (T q).2.2.1 ∈ TT) (hs : (T q).1 = ref) {v : Value} (hv : (fs h)[q]? = some v) (hd : decode cc pc = .ok (.getfield index, 3)) (k : J p l e R s m args below meth c cells slots Z o emb A H0 nL (pc + 3) lo (v :: st) h) : J p l e R s m args below meth c cells slots Z o emb A H0 nL pc lo (.ref (o.1 a) :: st) h := by
  obtain ⟨q0, hE⟩ := hO
  intro H locs ls hm hl
  exact va_get X.1 X.2.1 X.2.2.2.2.1 hin X.2.2.2.1 X.2.2.2.2.2.1 hm.1 q0 (hE h).1 hc q hq (X.2.2.2.2.1 _ hw) (fun x h9 => by rw [← hs]; exact h9) hv hd (k H locs ls hm hl)
theorem J_getN (X : Cx p s m args meth c own cc nL rt o) {a ci index N : Nat} {fs : Hp → List Value} {wk : List Nat} {ref C host : String} {T : u_T} (hO : EO o emb a ci fs wk) (hin : ∀ w ∈ u_ws C T N, w ∈ TT) (hc : vwCl[ci]? = some (C, T, N)) (q : Nat) (hq : q < N) (hw : Cond.fieldLinkNest own index ref (T q).2.1 (T q).2.2.1 host ∈ NW) (hs : (T q).1 = ref) {v : Value} (hv : (fs h)[q]? = some v) (hd : decode cc pc = .ok (.getfield index, 3)) (k : J p l e R s m args below meth c cells slots Z o emb A H0 nL (pc + 3) lo (v :: st) h) : J p l e R s m args below meth c cells slots Z o emb A H0 nL pc lo (.ref (o.1 a) :: st) h := by
  obtain ⟨q0, hE⟩ := hO
  intro H locs ls hm hl
  exact va_getN X.1 X.2.1 X.2.2.2.2.1 hin X.2.2.2.1 X.2.2.2.2.2.1 hm.1 q0 (hE h).1 hc q hq (va_Nw.use rfl (X.2.2.2.2.2.2.1 _ hw)) (fun x h9 => by rw [← hs]; exact h9) hv hd (k H locs ls hm hl)
theorem J_put (X : Cx p s m args meth c own cc nL rt o) {a ci index N : Nat} {fs : Hp → List Value} {wk : List Nat} {ref C : String} {T : u_T} (hO : EO o emb a ci fs wk) (hin : ∀ w ∈ u_ws C T N, w ∈ TT) (ty0 : Nat → FieldType) (hty : ∀ k, k < N → parseFieldDescriptor (T k).2.2.1 = some (ty0 k)) (hnm : ∀ a, a < N → ∀ b, b < N → a ≠ b → (T a).2.1 ≠ (T b).2.1) (hc : vwCl[ci]? = some (C, T, N)) (q : Nat) (hq : q < N) (hqw : q ∈ wk) (hw : Cond.fieldLink own index ref (T q).2.1 (T q).2.2.1 ∈ TT) (hs : (T q).1 = ref) (hfin : (T q).2.2.2 = false) {ty : FieldType} {v : Int32} (hd0 : parseFieldDescriptor (T q).2.2.1 = some ty) (hn : narrow ty (.int v) = .int v) (hfit : fits ty (.int v) = true) (hl0 : q < (fs h).length) (hd : decode cc pc = .ok (.putfield index, 3)) (k : J p l e R s m args below meth c cells slots Z o emb A H0 nL (pc + 3) lo st (ip h a q v)) : J p l e R s m args below meth c cells slots Z o emb A H0 nL pc lo (.int v :: .ref (o.1 a) :: st) h := by
  obtain ⟨q0, hE⟩ := hO
  intro H locs ls hm hl
  refine va_put X.1 X.2.1 X.2.2.2.2.1 hin ty0 hty hnm X.2.2.2.1 X.2.2.2.2.2.1 hm.1 (hm.2.2 h) hm.2.1 q0 (hE h).1 hc q hq (X.2.2.2.2.1 _ hw) (fun x h9 => by rw [← hs]; exact h9) hfin hd0 hn hfit hl0 hd (fun H1 locs1 hP _ hS => k H1 locs1 ls ⟨?_, hS, hm.2.2⟩ hl)
  rw [← (hE h).2 q hqw v]
  exact hP
theorem J_putN (X : Cx p s m args meth c own cc nL rt o) {a ci index N : Nat} {fs : Hp → List Value} {wk : List Nat} {ref C host : String} {T : u_T} (hO : EO o emb a ci fs wk) (hin : ∀ w ∈ u_ws C T N, w ∈ TT) (ty0 : Nat → FieldType) (hty : ∀ k, k < N → parseFieldDescriptor (T k).2.2.1 = some (ty0 k)) (hnm : ∀ a, a < N → ∀ b, b < N → a ≠ b → (T a).2.1 ≠ (T b).2.1) (hc : vwCl[ci]? = some (C, T, N)) (q : Nat) (hq : q < N) (hqw : q ∈ wk) (hw : Cond.fieldLinkNest own index ref (T q).2.1 (T q).2.2.1 host ∈ NW) (hs : (T q).1 = ref) (hfin : (T q).2.2.2 = false) {ty : FieldType} {v : Int32} (hd0 : parseFieldDescriptor (T q).2.2.1 = some ty) (hn : narrow ty (.int v) = .int v) (hfit : fits ty (.int v) = true) (hl0 : q < (fs h).length) (hd : decode cc pc = .ok (.putfield index, 3)) (k : J p l e R s m args below meth c cells slots Z o emb A H0 nL (pc + 3) lo st (ip h a q v)) : J p l e R s m args below meth c cells slots Z o emb A H0 nL pc lo (.int v :: .ref (o.1 a) :: st) h := by
  obtain ⟨q0, hE⟩ := hO
  intro H locs ls hm hl
  refine va_putN X.1 X.2.1 X.2.2.2.2.1 hin ty0 hty hnm X.2.2.2.1 X.2.2.2.2.2.1 hm.1 (hm.2.2 h) hm.2.1 q0 (hE h).1 hc q hq (va_Nw.use rfl (X.2.2.2.2.2.2.1 _ hw)) (fun x h9 => by rw [← hs]; exact h9) hfin hd0 hn hfit hl0 hd (fun H1 locs1 hP _ hS => k H1 locs1 ls ⟨?_, hS, hm.2.2⟩ hl)
  rw [← (hE h).2 q hqw v]
  exact hP
/-- arrays -/
theorem J_iald (X : Cx p s m args meth c own cc nL rt o) {a n : Nat} {i : Int32} (hE : EI o emb a n) (hi : vp_in i n) (hd : decode cc pc = .ok (.iaload, 1)) (k : J p l e R s m args below meth c cells slots Z o emb A H0 nL (pc + 1) lo (.int (h.1 a i.toNatClampNeg) :: st) h) : J p l e R s m args below meth c cells slots Z o emb A H0 nL pc lo (.int i :: .ref (o.1 a) :: st) h := by
  obtain ⟨q0, hE⟩ := hE
  intro H locs ls hm hl
  exact va_iald X.1 X.2.1 X.2.2.2.2.2.1 hm.1 q0 0 (hE h).1 rfl hi hd (k H locs ls hm hl)
theorem J_zald (X : Cx p s m args meth c own cc nL rt o) {a n : Nat} {i : Int32} (hE : EZ o emb a n) (hi : vp_in i n) (hd : decode cc pc = .ok (.baload, 1)) (k : J p l e R s m args below meth c cells slots Z o emb A H0 nL (pc + 1) lo (.int (h.1 a i.toNatClampNeg) :: st) h) : J p l e R s m args below meth c cells slots Z o emb A H0 nL pc lo (.int i :: .ref (o.1 a) :: st) h := by
  obtain ⟨q0, hE⟩ := hE
  intro H locs ls hm hl
  exact va_zald X.1 X.2.1 X.2.2.2.2.2.1 hm.1 q0 2 (hE h).1 rfl hi hd (k H locs ls hm hl)
theorem J_lald (X : Cx p s m args meth c own cc nL rt o) {a n : Nat} {i : Int32} (hE : EL o emb a n) (hi : vp_in i n) (hd : decode cc pc = .ok (.laload, 1)) (k : J p l e R s m args below meth c cells slots Z o emb A H0 nL (pc + 1) lo (.long (h.2 a i.toNatClampNeg) :: st) h) : J p l e R s m args below meth c cells slots Z o emb A H0 nL pc lo (.int i :: .ref (o.1 a) :: st) h := by
  obtain ⟨q0, hE⟩ := hE
  intro H locs ls hm hl
  exact va_lald X.1 X.2.1 X.2.2.2.2.2.1 hm.1 q0 1 (hE h).1 rfl hi hd (k H locs ls hm hl)
theorem J_iast (X : Cx p s m args meth c own cc nL rt o) {a n : Nat} {i x : Int32} (hE : EI o emb a n) (hi : vp_in i n) (hd : decode cc pc = .ok (.iastore, 1)) (k : J p l e R s m args below meth c cells slots Z o emb A H0 nL (pc + 1) lo st (ip h a i.toNatClampNeg x)) : J p l e R s m args below meth c cells slots Z o emb A H0 nL pc lo (.int x :: .int i :: .ref (o.1 a) :: st) h := by
  obtain ⟨q0, hE⟩ := hE
  intro H locs ls hm hl
  refine va_iast X.1 X.2.1 X.2.2.2.2.2.1 hm.1 (hm.2.2 h) hm.2.1 q0 0 (hE h).1 rfl hi hd (fun H1 locs1 hP _ hS => k H1 locs1 ls ⟨?_, hS, hm.2.2⟩ hl)
  rw [← (hE h).2]
  exact hP
theorem J_zast (X : Cx p s m args meth c own cc nL rt o) {a n : Nat} {i x : Int32} (hE : EZ o emb a n) (hi : vp_in i n) (hx : vp_nar .boolean x = x) (hd : decode cc pc = .ok (.bastore, 1)) (k : J p l e R s m args below meth c cells slots Z o emb A H0 nL (pc + 1) lo st (ip h a i.toNatClampNeg x)) : J p l e R s m args below meth c cells slots Z o emb A H0 nL pc lo (.int x :: .int i :: .ref (o.1 a) :: st) h := by
  obtain ⟨q0, hE⟩ := hE
  intro H locs ls hm hl
  refine va_zast X.1 X.2.1 X.2.2.2.2.2.1 hm.1 (hm.2.2 h) hm.2.1 q0 2 (hE h).1 rfl hi hd (fun H1 locs1 hP _ hS => k H1 locs1 ls ⟨?_, hS, hm.2.2⟩ hl)
  rw [← (hE h).2]
  rw [hx] at hP
  exact hP
theorem J_last (X : Cx p s m args meth c own cc nL rt o) {a n : Nat} {i : Int32} {x : Int64} (hE : EL o emb a n) (hi : vp_in i n) (hd : decode cc pc = .ok (.lastore, 1)) (k : J p l e R s m args below meth c cells slots Z o emb A H0 nL (pc + 1) lo st (lp h a i.toNatClampNeg x)) : J p l e R s m args below meth c cells slots Z o emb A H0 nL pc lo (.long x :: .int i :: .ref (o.1 a) :: st) h := by
  obtain ⟨q0, hE⟩ := hE
  intro H locs ls hm hl
  refine va_last X.1 X.2.1 X.2.2.2.2.2.1 hm.1 (hm.2.2 h) hm.2.1 q0 1 (hE h).1 rfl hi hd (fun H1 locs1 hP _ hS => k H1 locs1 ls ⟨?_, hS, hm.2.2⟩ hl)
  rw [← (hE h).2]
  exact hP
theorem J_alenI (X : Cx p s m args meth c own cc nL rt o) {a n : Nat} (hE : EI o emb a n) (v : Int32) (hv : Int32.ofNat n = v) (hd : decode cc pc = .ok (.arraylength, 1)) (k : J p l e R s m args below meth c cells slots Z o emb A H0 nL (pc + 1) lo (.int v :: st) h) : J p l e R s m args below meth c cells slots Z o emb A H0 nL pc lo (.ref (o.1 a) :: st) h := by
  obtain ⟨q0, hE⟩ := hE
  intro H locs ls hm hl
  exact va_alen X.1 X.2.1 X.2.2.2.2.2.1 hm.1 q0 0 (hE h).1 (ty := .int) rfl hv hd (k H locs ls hm hl)
theorem J_alenL (X : Cx p s m args meth c own cc nL rt o) {a n : Nat} (hE : EL o emb a n) (v : Int32) (hv : Int32.ofNat n = v) (hd : decode cc pc = .ok (.arraylength, 1)) (k : J p l e R s m args below meth c cells slots Z o emb A H0 nL (pc + 1) lo (.int v :: st) h) : J p l e R s m args below meth c cells slots Z o emb A H0 nL pc lo (.ref (o.1 a) :: st) h := by
  obtain ⟨q0, hE⟩ := hE
  intro H locs ls hm hl
  exact va_alen X.1 X.2.1 X.2.2.2.2.2.1 hm.1 q0 1 (hE h).1 (ty := .long) rfl hv hd (k H locs ls hm hl)
/-- Math.min, Math.max -/
def imin (x y : Int32) : Int32 := if y < x then y else x
def imax (x y : Int32) : Int32 := if x < y then y else x
theorem J_mmin (X : Cx p s m args meth c own cc nL rt o) {index : Nat} {x y : Int32} (h1 : Cond.methodLink own index Lib.Math.min.name ∈ TT) (h2 : Cond.static Lib.Math.min.name ∈ TT) (h3 : Cond.initialized "java/lang/Math" ∈ TT) (h4 : Cond.code Lib.Math.min.name Lib.Math.min.code 2 (some .int) ∈ TT) (hR : 1 ≤ R.frames ∧ (st.map fun v => v.category).sum + 13 ≤ R.locals ∧ cells ≤ R.cells ∧ slots ≤ R.slots) (hd : decode cc pc = .ok (.invokestatic index, 3)) (k : J p l e R s m args below meth c cells slots Z o emb A H0 nL (pc + 3) lo (.int (imin x y) :: st) h) : J p l e R s m args below meth c cells slots Z o emb A H0 nL pc lo (.int y :: .int x :: st) h :=
  fun H locs ls hm hl => va_mmin X.1 X.2.1 (by rw [X.2.2.1]; exact hl.1.symm) X.2.2.2.1 (X.2.2.2.2.1 _ h1) (X.2.2.2.2.1 _ h2) (X.2.2.2.2.1 _ h3) (X.2.2.2.2.1 _ h4) hR.1 hR.2.1 hR.2.2.1 hR.2.2.2 hd (k H locs ls hm hl)
theorem J_mmax (X : Cx p s m args meth c own cc nL rt o) {index : Nat} {x y : Int32} (h1 : Cond.methodLink own index Lib.Math.max.name ∈ TT) (h2 : Cond.static Lib.Math.max.name ∈ TT) (h3 : Cond.initialized "java/lang/Math" ∈ TT) (h4 : Cond.code Lib.Math.max.name Lib.Math.max.code 2 (some .int) ∈ TT) (hR : 1 ≤ R.frames ∧ (st.map fun v => v.category).sum + 13 ≤ R.locals ∧ cells ≤ R.cells ∧ slots ≤ R.slots) (hd : decode cc pc = .ok (.invokestatic index, 3)) (k : J p l e R s m args below meth c cells slots Z o emb A H0 nL (pc + 3) lo (.int (imax x y) :: st) h) : J p l e R s m args below meth c cells slots Z o emb A H0 nL pc lo (.int y :: .int x :: st) h :=
  fun H locs ls hm hl => va_mmax X.1 X.2.1 (by rw [X.2.2.1]; exact hl.1.symm) X.2.2.2.1 (X.2.2.2.2.1 _ h1) (X.2.2.2.2.1 _ h2) (X.2.2.2.2.1 _ h3) (X.2.2.2.2.1 _ h4) hR.1 hR.2.1 hR.2.2.1 hR.2.2.2 hd (k H locs ls hm hl)
/-- a call, once the machine's run of it is known -/
theorem J_run {rv : Option Value} {h' : Hp} {aa : Array Value} (hrun : ∀ (H : Heap) (locs : List Loc) (ls : Array Slot), Mem o emb A H0 h H locs → lv_has ls nL lo → va_Run p l e R s m args below meth c H locs cells slots 0 0 (F0 m pc ls st) rest (WdQ o emb A rv h' aa) A) (k : J p l e R s m args below meth c cells slots Z o emb A H0 nL (pc + 3) lo (rv.toList ++ rest) h') : J p l e R s m args below meth c cells slots Z o emb A H0 nL pc lo st h := by
  intro H locs ls hm hl T hT X
  obtain ⟨v, st₀, t, T', L, h0, X', hL, e1, e2, ⟨⟨hv, hP1⟩, hz, hk⟩, hst⟩ := hrun H locs ls hm hl T hT X
  cases hv
  rw [h0] at hz hk
  have hS := hm.2.1
  obtain ⟨t2, a1, b1⟩ := k T'.heap (locs ++ L) ls ⟨by rw [e1]; exact hP1, ⟨Nat.le_trans hS.1 (by rw [e1]; exact hz), fun q h1 h2 => by rw [e1, hk q (Nat.lt_of_lt_of_le h1 hS.1) h2]; exact hS.2.1 q h1 h2, fun q hq => by
      rcases List.mem_append.mp hq with h | h
      · exact hS.2.2 q h
      · exact hL q h⟩, hm.2.2⟩ hl T' rfl X'
  exact ⟨t2, hst t2 a1, b1⟩
theorem J_callV (X : Cx p s m args meth c own cc nL rt o) {C : String} {y : MethodName} {cy : ByteArray} {nLy index : Nat} {rty : Option FieldType} {f n : Nat} {b ci : Nat} {fs : Hp → List Value} {wk : List Nat} {As rs : List Value} {rv : Option Value} {h' : Hp} {q : vw_C}
    (hM : Ct l o emb A y cy nLy rty f n (.ref (o.1 b) :: As) h rv h') (hO : EO o emb b ci fs wk) (hcl : vwCl[ci]? = some q) (hqC : q.1 = C)
    (w1 : Cond.methodLink own index y ∈ TT) (w2 : Cond.instanceMethod y ∈ TT) (w3 : Cond.selects C y y ∈ TT) (w4 : Cond.initialized y.cls ∈ TT) (w5 : Cond.code y cy nLy rty ∈ TT)
    (hdy : y.cls ≠ "java/lang/invoke/MethodHandle" ∧ y.cls ≠ "java/lang/invoke/VarHandle" ∧ (parseMethodDescriptor y.desc).map (fun d => d.parameters.length) = some As.length) (hR : f + 1 ≤ R.frames ∧ 8 + (nLy + 11) + n ≤ R.locals) (hcs : cells ≤ R.cells ∧ slots ≤ R.slots) (hst : (rest.map fun v => v.category).sum ≤ 8)
    (hd : decode cc pc = .ok (.invokevirtual index, 3)) (hs1 : As.reverse ++ .ref (o.1 b) :: rest = st) (hs2 : rv.toList ++ rest = rs) (k : J p l e R s m args below meth c cells slots Z o emb A H0 nL (pc + 3) lo rs h') : J p l e R s m args below meth c cells slots Z o emb A H0 nL pc lo st h := by
  subst hs1
  subst hs2
  have hts := X.2.2.2.2.1
  obtain ⟨q0, hE⟩ := hO
  refine J_run (fun H locs ls hm hl => va_runV (As := As) (rest := rest) (b := o.1 b) (C := C) ⟨X.1, X.2.1, X.2.2.1, X.2.2.2.1, hts⟩ hM ⟨callB_of As.length hts (goodTT w5) rfl rfl rfl (hts _ w4) (hts _ w1) hdy hR, hts _ w2, hts _ w3⟩ ⟨wd_blind, ?_, fun U hU hW => ⟨rfl, by rw [hU]; exact hm.1, va_K.moved hW.alike X.2.2.2.2.2.1, nw_warm hW X.2.2.2.2.2.2.1⟩⟩ rfl rfl hl.1 rfl (lv_room hst) hd hcs) k
  rw [← hqC]
  exact va_recv X.2.2.2.2.2.1 hm.1 hcl (hE h).1
theorem J_callVN (X : Cx p s m args meth c own cc nL rt o) {C host : String} {y : MethodName} {cy : ByteArray} {nLy index : Nat} {rty : Option FieldType} {f n : Nat} {b ci : Nat} {fs : Hp → List Value} {wk : List Nat} {As rs : List Value} {rv : Option Value} {h' : Hp} {q : vw_C}
    (hM : Ct l o emb A y cy nLy rty f n (.ref (o.1 b) :: As) h rv h') (hO : EO o emb b ci fs wk) (hcl : vwCl[ci]? = some q) (hqC : q.1 = C)
    (w1 : Cond.methodLinkNest own index y host ∈ NW) (w2 : Cond.instanceMethod y ∈ TT) (w3 : Cond.selects C y y ∈ TT) (w4 : Cond.initialized y.cls ∈ TT) (w5 : Cond.code y cy nLy rty ∈ TT)
    (hdy : y.cls ≠ "java/lang/invoke/MethodHandle" ∧ y.cls ≠ "java/lang/invoke/VarHandle" ∧ (parseMethodDescriptor y.desc).map (fun d => d.parameters.length) = some As.length) (hR : f + 1 ≤ R.frames ∧ 8 + (nLy + 11) + n ≤ R.locals) (hcs : cells ≤ R.cells ∧ slots ≤ R.slots) (hst : (rest.map fun v => v.category).sum ≤ 8)
    (hd : decode cc pc = .ok (.invokevirtual index, 3)) (hs1 : As.reverse ++ .ref (o.1 b) :: rest = st) (hs2 : rv.toList ++ rest = rs) (k : J p l e R s m args below meth c cells slots Z o emb A H0 nL (pc + 3) lo rs h') : J p l e R s m args below meth c cells slots Z o emb A H0 nL pc lo st h := by
  subst hs1
  subst hs2
  have hts := X.2.2.2.2.1
  obtain ⟨q0, hE⟩ := hO
  refine J_run (fun H locs ls hm hl => va_runVN (As := As) (rest := rest) (b := o.1 b) (C := C) (host := host) ⟨X.1, X.2.1, X.2.2.1, X.2.2.2.1, hts⟩ hM ⟨va_cnB As.length hts (goodTT w5) rfl rfl rfl (X.2.2.2.2.2.2.1 _ w1) (hts _ w4) hdy hR, hts _ w2, hts _ w3⟩ ⟨wd_blind, ?_, fun U hU hW => ⟨rfl, by rw [hU]; exact hm.1, va_K.moved hW.alike X.2.2.2.2.2.1, nw_warm hW X.2.2.2.2.2.2.1⟩⟩ rfl rfl hl.1 rfl (lv_room hst) hd hcs) k
  rw [← hqC]
  exact va_recv X.2.2.2.2.2.1 hm.1 hcl (hE h).1
theorem J_callS (X : Cx p s m args meth c own cc nL rt o) {y : MethodName} {cy : ByteArray} {nLy index : Nat} {rty : Option FieldType} {f n : Nat} {As rs : List Value} {rv : Option Value} {h' : Hp}
    (hM : Ct l o emb A y cy nLy rty f n As h rv h')
    (w1 : Cond.methodLink own index y ∈ TT) (w2 : Cond.static y ∈ TT) (w4 : Cond.initialized y.cls ∈ TT) (w5 : Cond.code y cy nLy rty ∈ TT)
    (hdy : y.cls ≠ "java/lang/invoke/MethodHandle" ∧ y.cls ≠ "java/lang/invoke/VarHandle" ∧ (parseMethodDescriptor y.desc).map (fun d => d.parameters.length) = some As.length) (hR : f + 1 ≤ R.frames ∧ 8 + (nLy + 11) + n ≤ R.locals) (hcs : cells ≤ R.cells ∧ slots ≤ R.slots) (hst : (rest.map fun v => v.category).sum ≤ 8)
    (hd : decode cc pc = .ok (.invokestatic index, 3)) (hs1 : As.reverse ++ rest = st) (hs2 : rv.toList ++ rest = rs) (k : J p l e R s m args below meth c cells slots Z o emb A H0 nL (pc + 3) lo rs h') : J p l e R s m args below meth c cells slots Z o emb A H0 nL pc lo st h := by
  subst hs1
  subst hs2
  have hts := X.2.2.2.2.1
  exact J_run (fun H locs ls hm hl => va_runS (As := As) (rest := rest) ⟨X.1, X.2.1, X.2.2.1, X.2.2.2.1, hts⟩ hM ⟨callB_of As.length hts (goodTT w5) rfl rfl rfl (hts _ w4) (hts _ w1) hdy hR, hts _ w2⟩ ⟨wd_blind, fun U hU hW => ⟨rfl, by rw [hU]; exact hm.1, va_K.moved hW.alike X.2.2.2.2.2.1, nw_warm hW X.2.2.2.2.2.2.1⟩⟩ rfl rfl hl.1 rfl (lv_room hst) hd hcs) k
theorem J_callSN (X : Cx p s m args meth c own cc nL rt o) {host : String} {y : MethodName} {cy : ByteArray} {nLy index : Nat} {rty : Option FieldType} {f n : Nat} {As rs : List Value} {rv : Option Value} {h' : Hp}
    (hM : Ct l o emb A y cy nLy rty f n As h rv h')
    (w1 : Cond.methodLinkNest own index y host ∈ NW) (w2 : Cond.static y ∈ TT) (w4 : Cond.initialized y.cls ∈ TT) (w5 : Cond.code y cy nLy rty ∈ TT)
    (hdy : y.cls ≠ "java/lang/invoke/MethodHandle" ∧ y.cls ≠ "java/lang/invoke/VarHandle" ∧ (parseMethodDescriptor y.desc).map (fun d => d.parameters.length) = some As.length) (hR : f + 1 ≤ R.frames ∧ 8 + (nLy + 11) + n ≤ R.locals) (hcs : cells ≤ R.cells ∧ slots ≤ R.slots) (hst : (rest.map fun v => v.category).sum ≤ 8)
    (hd : decode cc pc = .ok (.invokestatic index, 3)) (hs1 : As.reverse ++ rest = st) (hs2 : rv.toList ++ rest = rs) (k : J p l e R s m args below meth c cells slots Z o emb A H0 nL (pc + 3) lo rs h') : J p l e R s m args below meth c cells slots Z o emb A H0 nL pc lo st h := by
  subst hs1
  subst hs2
  have hts := X.2.2.2.2.1
  exact J_run (fun H locs ls hm hl => va_runSN (As := As) (rest := rest) (host := host) ⟨X.1, X.2.1, X.2.2.1, X.2.2.2.1, hts⟩ hM ⟨va_cnB As.length hts (goodTT w5) rfl rfl rfl (X.2.2.2.2.2.2.1 _ w1) (hts _ w4) hdy hR, hts _ w2, trivial⟩ ⟨wd_blind, fun U hU hW => ⟨rfl, by rw [hU]; exact hm.1, va_K.moved hW.alike X.2.2.2.2.2.1, nw_warm hW X.2.2.2.2.2.2.1⟩⟩ rfl rfl hl.1 rfl (lv_room hst) hd hcs) k
/-- a method's end -/
theorem J_iret (X : Cx p s m args meth c own cc nL (some .int) o) {v : Int32} (hd : decode cc pc = .ok (.ireturn, 1)) : J p l e R s m args below meth c 0 0 (MQ below (WdQ o emb A (some (.int v)) h) args s 0 0 A) o emb A s.heap nL pc lo [.int v] h :=
  fun H locs ls hm hl => W.iret X.1 X.2.1 X.2.2.2.2.2.2.2.1 (fun t ht _ => ⟨⟨rfl, by rw [ht]; exact hm.1⟩, hm.2.1.F ht⟩) hm.2.1.2.2 hd X.2.2.2.2.2.2.2.2
theorem J_zret (X : Cx p s m args meth c own cc nL (some .boolean) o) {v : Int32} (hv : narrow .boolean (.int v) = .int v) (hd : decode cc pc = .ok (.ireturn, 1)) : J p l e R s m args below meth c 0 0 (MQ below (WdQ o emb A (some (.int v)) h) args s 0 0 A) o emb A s.heap nL pc lo [.int v] h :=
  fun H locs ls hm hl => W.zret X.1 X.2.1 X.2.2.2.2.2.2.2.1 hv (fun t ht _ => ⟨⟨rfl, by rw [ht]; exact hm.1⟩, hm.2.1.F ht⟩) hm.2.1.2.2 hd X.2.2.2.2.2.2.2.2
theorem J_lret (X : Cx p s m args meth c own cc nL (some .long) o) {v : Int64} (hd : decode cc pc = .ok (.lreturn, 1)) : J p l e R s m args below meth c 0 0 (MQ below (WdQ o emb A (some (.long v)) h) args s 0 0 A) o emb A s.heap nL pc lo [.long v] h :=
  fun H locs ls hm hl => W.lret X.1 X.2.1 X.2.2.2.2.2.2.2.1 (fun t ht _ => ⟨⟨rfl, by rw [ht]; exact hm.1⟩, hm.2.1.F ht⟩) hm.2.1.2.2 hd X.2.2.2.2.2.2.2.2
theorem J_vret (X : Cx p s m args meth c own cc nL none o) (hd : decode cc pc = .ok (.return_, 1)) : J p l e R s m args below meth c 0 0 (MQ below (WdQ o emb A none h) args s 0 0 A) o emb A s.heap nL pc lo [] h :=
  fun H locs ls hm hl => W.vret X.1 X.2.1 X.2.2.2.2.2.2.2.1 (fun t ht _ => ⟨⟨rfl, by rw [ht]; exact hm.1⟩, hm.2.1.F ht⟩) hm.2.1.2.2 hd X.2.2.2.2.2.2.2.2
/-- a contract out of a walk of the body -/
theorem Ct.of {y : MethodName} {f n : Nat} {av : List Value} {rv : Option Value} {h' : Hp} (own : String) (hown : y.cls = own) (hy : plainName y.cls = true) (hA : ∀ h : Hp, va_D A (emb h)) (hn : (lg_sl av).length ≤ nL)
    (body : ∀ (p : Program) (e : Env) (s : State) (m : MethodId) (args : Array Value) (below : List Frame) (meth : Method) (c : Code), Cx p s m args meth c own cc nL rt o → J p l e (rmf f n) s m args below meth c 0 0 (MQ below (WdQ o emb A rv h') args s 0 0 A) o emb A s.heap nL 0 (lv_args 0 av) [] h) : Ct l o emb A y cc nL rt f n av h rv h' := by
  refine Met.ofW (cc := cc) (maxL := nL) (ret := rt) hy rfl ?_
  intro p e s m args below meth c s₁ B hml hv
  obtain ⟨hav, hP, hK, hN⟩ := hv
  have hts : ∀ w ∈ TT, w.before args s = true := fun w hw => atoms_spec (ws := .code y cc nL rt :: TT) B.pre w (List.mem_cons_of_mem _ hw)
  have hcl : s.vm.findClass own = some m.cls := by rw [← hown]; exact findClass_of_methodNamed B.named
  have K := body p e s m args below meth c ⟨B.exec, B.bytes, hml, hcl, hts, hK, hN, B.returns, B.notSynchronized⟩ s.heap [] _ ⟨hP, va_S.rf, hA⟩ (lv_entry av hn)
  rw [hav, lg_entry_eq]
  rw [hav] at K
  exact K
end CORE2
theorem ob {α β : Type} {x : Option α} {f : α → Option β} {b : β} (h : x.bind f = some b) : ∃ a, x = some a ∧ f a = some b := Option.bind_eq_some_iff.mp h
/-- reads and divisions that may fail -/
def ald (n : Nat) (h : Hp) (r : Nat) (i : Int32) : Option Int32 := if i < 0 ∨ n ≤ i.toNatClampNeg then none else some (h.1 r i.toNatClampNeg)
def lald (n : Nat) (h : Hp) (r : Nat) (i : Int32) : Option Int64 := if i < 0 ∨ n ≤ i.toNatClampNeg then none else some (h.2 r i.toNatClampNeg)
def ast (n : Nat) (h : Hp) (r : Nat) (i x : Int32) : Option Hp := if i < 0 ∨ n ≤ i.toNatClampNeg then none else some (ip h r i.toNatClampNeg x)
def last (n : Nat) (h : Hp) (r : Nat) (i : Int32) (x : Int64) : Option Hp := if i < 0 ∨ n ≤ i.toNatClampNeg then none else some (lp h r i.toNatClampNeg x)
def zast (n : Nat) (h : Hp) (r : Nat) (i x : Int32) : Option Hp := if i < 0 ∨ n ≤ i.toNatClampNeg then none else if x = 0 ∨ x = 1 then some (ip h r i.toNatClampNeg x) else none
def idv (x y : Int32) : Option Int32 := if y = 0 then none else some (x / y)
def irm (x y : Int32) : Option Int32 := if y = 0 then none else some (irem x y)
def ldv (x y : Int64) : Option Int64 := if y = 0 then none else some (x / y)
def lrm (x y : Int64) : Option Int64 := if y = 0 then none else some (lrem x y)
def zck (x : Int32) : Option Int32 := if x = 0 ∨ x = 1 then some x else none
theorem ald_s {n : Nat} {h : Hp} {r : Nat} {i v : Int32} (e : ald n h r i = some v) : vp_in i n ∧ h.1 r i.toNatClampNeg = v := by
  unfold ald at e
  split at e
  · cases e
  · next q => exact ⟨q, Option.some.inj e⟩
theorem lald_s {n : Nat} {h : Hp} {r : Nat} {i : Int32} {v : Int64} (e : lald n h r i = some v) : vp_in i n ∧ h.2 r i.toNatClampNeg = v := by
  unfold lald at e
  split at e
  · cases e
  · next q => exact ⟨q, Option.some.inj e⟩
theorem ast_s {n : Nat} {h h' : Hp} {r : Nat} {i x : Int32} (e : ast n h r i x = some h') : vp_in i n ∧ ip h r i.toNatClampNeg x = h' := by
  unfold ast at e
  split at e
  · cases e
  · next q => exact ⟨q, Option.some.inj e⟩
theorem last_s {n : Nat} {h h' : Hp} {r : Nat} {i : Int32} {x : Int64} (e : last n h r i x = some h') : vp_in i n ∧ lp h r i.toNatClampNeg x = h' := by
  unfold last at e
  split at e
  · cases e
  · next q => exact ⟨q, Option.some.inj e⟩
theorem zck_n {x : Int32} (q : x = 0 ∨ x = 1) : narrow .boolean (.int x) = .int x := by
  rcases q with rfl | rfl <;> rfl
theorem zast_s {n : Nat} {h h' : Hp} {r : Nat} {i x : Int32} (e : zast n h r i x = some h') : vp_in i n ∧ vp_nar .boolean x = x ∧ ip h r i.toNatClampNeg x = h' := by
  unfold zast at e
  split at e
  · cases e
  · next q =>
    split at e
    · next q2 => exact ⟨q, by rcases q2 with rfl | rfl <;> rfl, Option.some.inj e⟩
    · cases e
theorem idv_s {x y v : Int32} (e : idv x y = some v) : ¬ y = 0 ∧ x / y = v := by
  unfold idv at e
  split at e
  · cases e
  · next q => exact ⟨q, Option.some.inj e⟩
theorem irm_s {x y v : Int32} (e : irm x y = some v) : ¬ y = 0 ∧ irem x y = v := by
  unfold irm at e
  split at e
  · cases e
  · next q => exact ⟨q, Option.some.inj e⟩
theorem ldv_s {x y v : Int64} (e : ldv x y = some v) : ¬ y = 0 ∧ x / y = v := by
  unfold ldv at e
  split at e
  · cases e
  · next q => exact ⟨q, Option.some.inj e⟩
theorem lrm_s {x y v : Int64} (e : lrm x y = some v) : ¬ y = 0 ∧ lrem x y = v := by
  unfold lrm at e
  split at e
  · cases e
  · next q => exact ⟨q, Option.some.inj e⟩
theorem zck_s {x v : Int32} (e : zck x = some v) : narrow .boolean (.int x) = .int x ∧ x = v := by
  unfold zck at e
  split at e
  · next q => exact ⟨zck_n q, Option.some.inj e⟩
  · cases e
end
section
/-! PLAIN FUNCTIONS: what each method computes over the plain heap (laid by program from the bytecode), and the shape of the objects. -/
section EXTRA
variable {p : Program} {l : Launch} {e : Env} {R : Room} {s : State} {m : MethodId} {args : Array Value} {below : List Frame} {meth : Method} {c : Code} {cells slots : Nat} {Z : State → Prop} {o : Om} {emb : Hp → va_W} {A : Nat → Prop} {H0 : Heap} {nL pc : Nat} {lo : List (Nat × Value)} {st rest : List Value} {h : Hp} {own : String} {cc : ByteArray} {rt : Option FieldType}
theorem J_hp {h0 : Hp} (h : Hp) (hy : h0 = h) (k : J p l e R s m args below meth c cells slots Z o emb A H0 nL pc lo st h) : J p l e R s m args below meth c cells slots Z o emb A H0 nL pc lo st h0 := hy ▸ k
theorem J_dup2 (X : Cx p s m args meth c own cc nL rt o) {v w : Value} (hd : decode cc pc = .ok (.dup2, 1)) (hv : v.category = 1) (hw : w.category = 1) (k : J p l e R s m args below meth c cells slots Z o emb A H0 nL (pc + 1) lo (v :: w :: v :: w :: st) h) : J p l e R s m args below meth c cells slots Z o emb A H0 nL pc lo (v :: w :: st) h :=
  fun H locs ls hm hl => lv_dup2_11 X.1 X.2.1 hd hv hw (k H locs ls hm hl)
end EXTRA
def FU : Nat := 100000
def jn {κ β : Type} (k : κ) (body : κ → β) : β := body k
theorem jn_s {κ β : Type} {k : κ} {body : κ → β} {b : β} (h : jn k body = b) : ∃ k', k' = k ∧ body k' = b := ⟨k, rfl, h⟩
def fsX2 (o : Om) (a : Nat) : Hp → List Value := fun h => [.ref (o.1 (a + 1)), .ref (o.1 (a + 2)), .ref (o.1 (a + 3)), .int (h.1 a 3), .int (h.1 a 4)]
def isX2 (o : Om) (emb : Hp → va_W) (a : Nat) : Prop := EO o emb a 2 (fsX2 o a) [3, 4] ∧ EI o emb (a + 1) 81 ∧ EI o emb (a + 2) 6 ∧ EI o emb (a + 3) 6
def fsX3 (o : Om) (a : Nat) : Hp → List Value := fun h => [.ref (o.1 (a + 1)), .ref (o.1 (a + 2)), .ref (o.1 (a + 3)), .int (h.1 a 3)]
def isX3 (o : Om) (emb : Hp → va_W) (a : Nat) : Prop := EO o emb a 3 (fsX3 o a) [3] ∧ EI o emb (a + 1) 8 ∧ EI o emb (a + 2) 8 ∧ EI o emb (a + 3) 8
def fsX1 (o : Om) : Hp → List Value := fun h => [.ref (o.1 10), .int (h.1 9 1)]
def isX1 (o : Om) (emb : Hp → va_W) : Prop := EO o emb 9 1 (fsX1 o) [1] ∧ EI o emb 10 60
def fsX4 (o : Om) : Hp → List Value := fun h => [.ref (o.1 12), .int (h.1 11 1), .int (h.1 11 2), .int (h.1 11 3), .int (h.1 11 4)]
def isX4 (o : Om) (emb : Hp → va_W) : Prop := EO o emb 11 4 (fsX4 o) [1, 2, 3, 4] ∧ isX2 o emb 12
def fsX0 (o : Om) (a : Nat) : Hp → List Value := fun h => [.ref (o.1 (a + 1)), .ref (o.1 (a + 5)), .int (h.1 a 2)]
def isX0 (o : Om) (emb : Hp → va_W) (a : Nat) : Prop := EO o emb a 0 (fsX0 o a) [2] ∧ isX2 o emb (a + 1) ∧ isX3 o emb (a + 5)
def fsX5 (o : Om) : Hp → List Value := fun h => [.ref (o.1 1), .ref (o.1 5), .ref (o.1 9), .ref (o.1 11), .ref (o.1 16), .ref (o.1 25), .ref (o.1 34), .ref (o.1 35), .ref (o.1 36), .ref (o.1 37), .ref (o.1 38), .ref (o.1 39), .ref (o.1 40)]
def isX5 (o : Om) (emb : Hp → va_W) : Prop := EO o emb 0 5 (fsX5 o) [] ∧ isX2 o emb 1 ∧ isX3 o emb 5 ∧ isX1 o emb ∧ isX4 o emb ∧ isX0 o emb 16 ∧ isX0 o emb 25 ∧ EI o emb 34 9 ∧ EI o emb 35 256 ∧ EI o emb 36 256 ∧ EI o emb 37 1000 ∧ EI o emb 38 280 ∧ EI o emb 39 100 ∧ EL o emb 40 17
def fsX6 (o : Om) : Hp → List Value := fun h => [.ref (o.1 1), .ref (o.1 2), .int (h.1 0 2), .int (h.1 0 3), .ref (o.1 3), .int (h.1 0 5), .ref (o.1 4), .int (h.1 0 7), .int (h.1 0 8), .int (h.1 0 9), .int (h.1 0 10), .ref (o.1 5), .ref (o.1 6), .ref (o.1 7), .ref (o.1 8), .ref (o.1 9), .ref (o.1 10), .ref (o.1 11), .ref (o.1 12), .ref (o.1 13)]
def isX6 (o : Om) (emb : Hp → va_W) : Prop := EO o emb 0 6 (fsX6 o) [2, 3, 5, 7, 8, 9, 10] ∧ EI o emb 1 89 ∧ EI o emb 2 89 ∧ EI o emb 3 24 ∧ EI o emb 4 60 ∧ EI o emb 5 9 ∧ EI o emb 6 9 ∧ EI o emb 7 4 ∧ EI o emb 8 600 ∧ EI o emb 9 1000 ∧ EZ o emb 10 100 ∧ EL o emb 11 18 ∧ EI o emb 12 240 ∧ EZ o emb 13 2
def f_X5_put (r1 n1 : Nat) (x2 : Int32) (x3 : Int32) (h : Hp) : Option Hp := if x2 < 0 then (some h) else (if (Int32.ofNat n1) ≤ x2 then (some h) else (Option.bind (ast n1 h r1 x2 x3) fun h1 => some h1))
def f_X1_add (x1 : Int32) (h : Hp) : Option Hp := if (h.1 9 1) < (60 : Int32) then (Option.bind (f_X5_put 10 60 (h.1 9 1) x1 h) fun h1 => Option.bind (some (ip h1 9 1 ((h1.1 9 1) + (1 : Int32)))) fun h2 => some h2) else (some h)
def f_X1_empty  (h : Hp) : Option Hp := Option.bind (some (ip h 9 1 (0 : Int32))) fun h1 => some h1
def f_X5_at (r1 n1 : Nat) (x2 : Int32) (h : Hp) : Option Int32 := if x2 < 0 then (some (0 : Int32)) else (if (Int32.ofNat n1) ≤ x2 then (some (0 : Int32)) else (Option.bind (ald n1 h r1 x2) fun v1 => some v1))
def f_X1_signAt (x1 : Int32) (h : Hp) : Option Int32 := Option.bind (f_X5_at 10 60 x1 h) fun v1 => some v1
def f_X1_placeAt (x1 : Int32) (h : Hp) : Option Int32 := Option.bind (f_X1_signAt x1 h) fun v1 => some (v1 - (97 : Int32))
def f_X5_isWalker (x1 : Int32) : Option Int32 := if x1 < 0 then (some (0 : Int32)) else (if (6 : Int32) ≤ x1 then (some (0 : Int32)) else (some (1 : Int32)))
def f_X1_actLength (x1 : Int32) (h : Hp) : Option Int32 := Option.bind (f_X1_signAt x1 h) fun v1 => Option.bind (f_X5_isWalker (v1 - (65 : Int32))) fun v2 => if v2 = 0 then (if v1 = (109 : Int32) then (some (3 : Int32)) else (if v1 = (112 : Int32) then (some (5 : Int32)) else (if v1 = (46 : Int32) then (some (1 : Int32)) else (some (0 : Int32))))) else (some (2 : Int32))
def f_X5_isPlace (x1 : Int32) : Option Int32 := if x1 < 0 then (some (0 : Int32)) else (if (9 : Int32) ≤ x1 then (some (0 : Int32)) else (some (1 : Int32)))
def f_X1_canGoOn (x1 : Int32) (x2 : Int32) (h : Hp) : Option Int32 := Option.bind (f_X1_actLength x1 h) fun v1 => Option.bind (if v1 = (2 : Int32) then (some (1 : Int32)) else (some (0 : Int32))) fun t3 => Option.bind (f_X1_placeAt x2 h) fun v4 => Option.bind (f_X5_isPlace v4) fun v5 => if v5 = 0 then (if t3 = 0 then (some (0 : Int32)) else (Option.bind (f_X1_signAt x2 h) fun v6 => if v6 = (94 : Int32) then (some (1 : Int32)) else (some (0 : Int32)))) else (some (1 : Int32))
def f_X1_faultPlace_l33 (s1 : Int32) (s2 : Int32) (s3 : Int32) (h : Hp) (kx : Int32 → Option Int32) : Nat → Int32 → Option Int32
  | 0, _ => none
  | n + 1, s4 => if s3 ≤ s4 then (kx s4) else (if (s1 + s4) < (h.1 9 1) then (Option.bind (f_X1_canGoOn s1 (s1 + s4) h) fun v2 => if v2 = 0 then (some (s1 + s4)) else (Option.bind (some (s4 + (1 : Int32))) fun v3 => f_X1_faultPlace_l33 s1 s2 s3 h kx n v3)) else (some (h.1 9 1)))
def f_X1_faultPlace_l4  (h : Hp) (kx : Int32 → Int32 → Option Int32) : Nat → Int32 → Int32 → Option Int32
  | 0, _, _ => none
  | n + 1, s1, s2 => if (60 : Int32) ≤ s2 then (kx s1 s2) else (if (h.1 9 1) ≤ s1 then (kx s1 s2) else (Option.bind (f_X1_actLength s1 h) fun v1 => if v1 = 0 then (some s1) else (f_X1_faultPlace_l33 s1 s2 v1 h (fun (w4 : Int32) => Option.bind (some (s1 + v1)) fun v5 => Option.bind (some (s2 + (1 : Int32))) fun v6 => f_X1_faultPlace_l4 h kx n v5 v6) FU (1 : Int32))))
def f_X1_faultPlace  (h : Hp) : Option Int32 := f_X1_faultPlace_l4 h (fun (w7 : Int32) (w8 : Int32) => some (-6 : Int32)) FU (0 : Int32) (0 : Int32)
def f_X5_copy_l2 {R : Type} (r1 n1 : Nat) (r2 n2 : Nat) (kx : Int32 → Hp → Option R) : Nat → Int32 → Hp → Option R
  | 0, _, _ => none
  | n + 1, s2, h => if (Int32.ofNat n2) ≤ s2 then (kx s2 h) else (if (Int32.ofNat n1) ≤ s2 then (kx s2 h) else (Option.bind (ald n1 h r1 s2) fun v1 => Option.bind (ast n2 h r2 s2 v1) fun h2 => Option.bind (some (s2 + (1 : Int32))) fun v3 => f_X5_copy_l2 r1 n1 r2 n2 kx n v3 h2))
def f_X5_copy (r1 n1 : Nat) (r2 n2 : Nat) (h : Hp) : Option Hp := f_X5_copy_l2 r1 n1 r2 n2 (fun (w4 : Int32) (h5 : Hp) => some h5) FU (0 : Int32) h
def f_X2_copyFrom (a : Nat) (b1 : Nat) (h : Hp) : Option Hp := Option.bind (f_X5_copy (b1 + 1) 81 (a + 1) 81 h) fun h1 => Option.bind (f_X5_copy (b1 + 2) 6 (a + 2) 6 h1) fun h2 => Option.bind (f_X5_copy (b1 + 3) 6 (a + 3) 6 h2) fun h3 => Option.bind (some (ip h3 a 3 (h3.1 b1 3))) fun h4 => Option.bind (some (ip h4 a 4 (-6 : Int32))) fun h5 => some h5
def f_X5_areTwoPlaces (x1 : Int32) (x2 : Int32) : Option Int32 := if x1 < 0 then (some (0 : Int32)) else (if (9 : Int32) ≤ x1 then (some (0 : Int32)) else (if x2 < 0 then (some (0 : Int32)) else (if (9 : Int32) ≤ x2 then (some (0 : Int32)) else (if x1 = x2 then (some (0 : Int32)) else (some (1 : Int32))))))
def f_X2_roadBetween (a : Nat) (x1 : Int32) (x2 : Int32) (h : Hp) : Option Int32 := Option.bind (f_X5_areTwoPlaces x1 x2) fun v1 => if v1 = 0 then (some (-6 : Int32)) else (Option.bind (f_X5_at (a + 1) 81 ((x1 * (9 : Int32)) + x2) h) fun v2 => some v2)
def f_X2_putRoad (a : Nat) (x1 : Int32) (x2 : Int32) (x3 : Int32) (h : Hp) : Option Hp := Option.bind (f_X5_areTwoPlaces x1 x2) fun v1 => if v1 = 0 then (some h) else (Option.bind (f_X5_put (a + 1) 81 ((x1 * (9 : Int32)) + x2) x3 h) fun h2 => Option.bind (f_X5_put (a + 1) 81 ((x2 * (9 : Int32)) + x1) x3 h2) fun h3 => some h3)
def f_X5_within (x1 : Int32) (x2 : Int32) (x3 : Int32) : Option Int32 := if x1 < x2 then (some (0 : Int32)) else (if x3 < x1 then (some (0 : Int32)) else (some (1 : Int32)))
def f_X2_isOpen (a : Nat) (x1 : Int32) (x2 : Int32) (h : Hp) : Option Int32 := Option.bind (f_X2_roadBetween a x1 x2 h) fun v1 => Option.bind (f_X5_within v1 (0 : Int32) (8 : Int32)) fun v2 => Option.bind (zck v2) fun v3 => some v3
def f_X2_openFrom_l4 {R : Type} (a : Nat) (s1 : Int32) (h : Hp) (kx : Int32 → Int32 → Option R) : Nat → Int32 → Int32 → Option R
  | 0, _, _ => none
  | n + 1, s2, s3 => if (9 : Int32) ≤ s3 then (kx s2 s3) else (Option.bind (f_X2_isOpen a s1 s3 h) fun v1 => if v1 = 0 then (Option.bind (some (s3 + (1 : Int32))) fun v2 => f_X2_openFrom_l4 a s1 h kx n s2 v2) else (Option.bind (some (s2 ||| ((1 : Int32) <<< (s3 &&& 31)))) fun v3 => Option.bind (some (s3 + (1 : Int32))) fun v4 => f_X2_openFrom_l4 a s1 h kx n v3 v4))
def f_X2_openFrom (a : Nat) (x1 : Int32) (h : Hp) : Option Int32 := f_X2_openFrom_l4 a x1 h (fun (w5 : Int32) (w6 : Int32) => some w5) FU (0 : Int32) (0 : Int32)
def f_X2_countRoads_l4 {R : Type} (a : Nat)  (h : Hp) (kx : Int32 → Int32 → Option R) : Nat → Int32 → Int32 → Option R
  | 0, _, _ => none
  | n + 1, s1, s2 => if (81 : Int32) ≤ s2 then (kx s1 s2) else (Option.bind (ald 81 h (a + 1) s2) fun v1 => if v1 = (-6 : Int32) then (Option.bind (some (s2 + (1 : Int32))) fun v2 => f_X2_countRoads_l4 a h kx n s1 v2) else (Option.bind (some (s1 + (1 : Int32))) fun v3 => Option.bind (some (s2 + (1 : Int32))) fun v4 => f_X2_countRoads_l4 a h kx n v3 v4))
def f_X2_countRoads (a : Nat) (h : Hp) : Option Int32 := f_X2_countRoads_l4 a h (fun (w5 : Int32) (w6 : Int32) => some (w5 / (2 : Int32))) FU (0 : Int32) (0 : Int32)
def f_J6_bitCount_0f7a4 (x1 : Int32) : Option Int32 := Option.bind (some (x1 - ((iushr x1 (1 : Int32)) &&& (1431655765 : Int32)))) fun v1 => Option.bind (some ((v1 &&& (858993459 : Int32)) + ((iushr v1 (2 : Int32)) &&& (858993459 : Int32)))) fun v2 => Option.bind (some ((v2 + (iushr v2 (4 : Int32))) &&& (252645135 : Int32))) fun v3 => Option.bind (some (v3 + (iushr v3 (8 : Int32)))) fun v4 => Option.bind (some (v4 + (iushr v4 (16 : Int32)))) fun v5 => some (v5 &&& (63 : Int32))
def f_X2_countOpen_l4 {R : Type} (a : Nat)  (h : Hp) (kx : Int32 → Int32 → Option R) : Nat → Int32 → Int32 → Option R
  | 0, _, _ => none
  | n + 1, s1, s2 => if (9 : Int32) ≤ s2 then (kx s1 s2) else (Option.bind (f_X2_openFrom a s2 h) fun v1 => Option.bind (f_J6_bitCount_0f7a4 v1) fun v2 => Option.bind (some (s1 + v2)) fun v3 => Option.bind (some (s2 + (1 : Int32))) fun v4 => f_X2_countOpen_l4 a h kx n v3 v4)
def f_X2_countOpen (a : Nat) (h : Hp) : Option Int32 := f_X2_countOpen_l4 a h (fun (w5 : Int32) (w6 : Int32) => some (w5 / (2 : Int32))) FU (0 : Int32) (0 : Int32)
def f_X2_addWear_l4 {R : Type} (a : Nat)  (h : Hp) (kx : Int32 → Int32 → Option R) : Nat → Int32 → Int32 → Option R
  | 0, _, _ => none
  | n + 1, s1, s2 => if (81 : Int32) ≤ s2 then (kx s1 s2) else (Option.bind (ald 81 h (a + 1) s2) fun v1 => Option.bind (f_X5_within v1 (0 : Int32) (9 : Int32)) fun v2 => if v2 = 0 then (Option.bind (some (s2 + (1 : Int32))) fun v3 => f_X2_addWear_l4 a h kx n s1 v3) else (Option.bind (ald 81 h (a + 1) s2) fun v4 => Option.bind (some (s1 + v4)) fun v5 => Option.bind (some (s2 + (1 : Int32))) fun v6 => f_X2_addWear_l4 a h kx n v5 v6))
def f_X2_addWear (a : Nat) (h : Hp) : Option Int32 := f_X2_addWear_l4 a h (fun (w7 : Int32) (w8 : Int32) => some (w7 / (2 : Int32))) FU (0 : Int32) (0 : Int32)
def f_X5_holds (x1 : Int32) (x2 : Int32) : Option Int32 := if ((x1 >>> (x2 &&& 31)) &&& (1 : Int32)) = (1 : Int32) then (some (1 : Int32)) else (some (0 : Int32))
def f_X2_reached_l27 {R : Type} (a : Nat) (s1 : Int32) (s4 : Int32) (h : Hp) (kx : Int32 → Int32 → Option R) : Nat → Int32 → Int32 → Option R
  | 0, _, _ => none
  | n + 1, s3, s5 => if (9 : Int32) ≤ s5 then (kx s3 s5) else (if s5 = s1 then (Option.bind (some (s5 + (1 : Int32))) fun v3 => f_X2_reached_l27 a s1 s4 h kx n s3 v3) else (Option.bind (f_X5_holds s3 s5) fun v4 => if v4 = 0 then (Option.bind (some (s5 + (1 : Int32))) fun v5 => f_X2_reached_l27 a s1 s4 h kx n s3 v5) else (Option.bind (f_X2_openFrom a s5 h) fun v6 => Option.bind (some (s3 ||| v6)) fun v7 => Option.bind (some (s5 + (1 : Int32))) fun v8 => f_X2_reached_l27 a s1 s4 h kx n v7 v8)))
def f_X2_reached_l17 {R : Type} (a : Nat) (s1 : Int32) (h : Hp) (kx : Int32 → Int32 → Option R) : Nat → Int32 → Int32 → Option R
  | 0, _, _ => none
  | n + 1, s3, s4 => if (9 : Int32) ≤ s4 then (kx s3 s4) else (f_X2_reached_l27 a s1 s4 h (fun (w9 : Int32) (w10 : Int32) => Option.bind (some (s4 + (1 : Int32))) fun v11 => f_X2_reached_l17 a s1 h kx n w9 v11) FU s3 (0 : Int32))
def f_X2_reached (a : Nat) (x1 : Int32) (x2 : Int32) (h : Hp) : Option Int32 := Option.bind (f_X2_openFrom a x1 h) fun v1 => Option.bind (some (((1 : Int32) <<< (x1 &&& 31)) ||| (v1 &&& (x2 ^^^ (-1 : Int32))))) fun v2 => f_X2_reached_l17 a x1 h (fun (w12 : Int32) (w13 : Int32) => some w12) FU v2 (1 : Int32)
def f_X2_isThere (a : Nat) (x1 : Int32) (h : Hp) : Option Int32 := Option.bind (f_X5_isWalker x1) fun v1 => if v1 = 0 then (some (0 : Int32)) else (Option.bind (f_X5_at (a + 2) 6 x1 h) fun v2 => if v2 = (-1 : Int32) then (some (0 : Int32)) else (some (1 : Int32)))
def f_X2_placeOf (a : Nat) (x1 : Int32) (h : Hp) : Option Int32 := Option.bind (f_X5_at (a + 2) 6 x1 h) fun v1 => some v1
def f_X2_ironOf (a : Nat) (x1 : Int32) (h : Hp) : Option Int32 := Option.bind (f_X5_at (a + 3) 6 x1 h) fun v1 => some v1
def f_X2_putWalker (a : Nat) (x1 : Int32) (x2 : Int32) (x3 : Int32) (h : Hp) : Option Hp := Option.bind (f_X5_put (a + 2) 6 x1 x2 h) fun h1 => if x3 = 0 then (Option.bind (f_X5_put (a + 3) 6 x1 (0 : Int32) h1) fun h2 => some h2) else (Option.bind (f_X5_put (a + 3) 6 x1 (1 : Int32) h1) fun h3 => some h3)
def f_X2_walkersThere_l4 {R : Type} (a : Nat)  (h : Hp) (kx : Int32 → Int32 → Option R) : Nat → Int32 → Int32 → Option R
  | 0, _, _ => none
  | n + 1, s1, s2 => if (6 : Int32) ≤ s2 then (kx s1 s2) else (Option.bind (f_X2_isThere a s2 h) fun v1 => if v1 = 0 then (Option.bind (some (s2 + (1 : Int32))) fun v2 => f_X2_walkersThere_l4 a h kx n s1 v2) else (Option.bind (some (s1 ||| ((1 : Int32) <<< (s2 &&& 31)))) fun v3 => Option.bind (some (s2 + (1 : Int32))) fun v4 => f_X2_walkersThere_l4 a h kx n v3 v4))
def f_X2_walkersThere (a : Nat) (h : Hp) : Option Int32 := f_X2_walkersThere_l4 a h (fun (w5 : Int32) (w6 : Int32) => some w5) FU (0 : Int32) (0 : Int32)
def f_X2_shutIn_l4 {R : Type} (a : Nat)  (h : Hp) (kx : Int32 → Int32 → Option R) : Nat → Int32 → Int32 → Option R
  | 0, _, _ => none
  | n + 1, s1, s2 => if (6 : Int32) ≤ s2 then (kx s1 s2) else (Option.bind (f_X2_isThere a s2 h) fun v1 => if v1 = 0 then (Option.bind (some (s2 + (1 : Int32))) fun v2 => f_X2_shutIn_l4 a h kx n s1 v2) else (Option.bind (f_X2_placeOf a s2 h) fun v3 => Option.bind (f_X2_openFrom a v3 h) fun v4 => if v4 = 0 then (Option.bind (some (s1 ||| ((1 : Int32) <<< (s2 &&& 31)))) fun v6 => Option.bind (some (s2 + (1 : Int32))) fun v7 => f_X2_shutIn_l4 a h kx n v6 v7) else (Option.bind (some (s2 + (1 : Int32))) fun v5 => f_X2_shutIn_l4 a h kx n s1 v5)))
def f_X2_shutIn (a : Nat) (h : Hp) : Option Int32 := f_X2_shutIn_l4 a h (fun (w8 : Int32) (w9 : Int32) => some w8) FU (0 : Int32) (0 : Int32)
def f_X5_nameOfRoad (x1 : Int32) (x2 : Int32) : Option Int32 := some (((10 : Int32) * (imin x1 x2)) + (imax x1 x2))
def f_X2_walk (a : Nat) (x1 : Int32) (x2 : Int32) (h : Hp) : Option (Int32 × Hp) := Option.bind (f_X2_isThere a x1 h) fun v1 => if v1 = 0 then (some ((1 : Int32), h)) else (Option.bind (f_X2_placeOf a x1 h) fun v2 => if v2 = x2 then (some ((2 : Int32), h)) else (Option.bind (f_X2_roadBetween a v2 x2 h) fun v3 => if v3 = (-6 : Int32) then (some ((3 : Int32), h)) else (if v3 < (100 : Int32) then (if v3 < (9 : Int32) then (Option.bind (f_X2_ironOf a x1 h) fun v4 => Option.bind (some (imin (9 : Int32) ((v3 + (1 : Int32)) + v4))) fun v5 => Option.bind (f_X2_putRoad a v2 x2 v5 h) fun h6 => Option.bind (f_X5_put (a + 2) 6 x1 x2 h6) fun h7 => if v5 = (9 : Int32) then (if (h7.1 a 4) = (-6 : Int32) then (Option.bind (f_X5_nameOfRoad v2 x2) fun v8 => Option.bind (some (ip h7 a 4 v8)) fun h9 => some ((0 : Int32), h9)) else (some ((0 : Int32), h7))) else (some ((0 : Int32), h7))) else (some ((5 : Int32), h))) else (some ((4 : Int32), h)))))
def f_X2_changeIron (a : Nat) (x1 : Int32) (h : Hp) : Option (Int32 × Hp) := Option.bind (f_X2_isThere a x1 h) fun v1 => if v1 = 0 then (some ((1 : Int32), h)) else (Option.bind (f_X2_ironOf a x1 h) fun v2 => Option.bind (f_X5_put (a + 3) 6 x1 ((1 : Int32) - v2) h) fun h3 => some ((0 : Int32), h3))
def f_X2_bringIn (a : Nat) (x1 : Int32) (x2 : Int32) (h : Hp) : Option (Int32 × Hp) := Option.bind (f_X2_roadBetween a x1 x2 h) fun v1 => if v1 = (-6 : Int32) then (some ((3 : Int32), h)) else (if v1 < (100 : Int32) then (Option.bind (f_X2_putRoad a x1 x2 (103 : Int32) h) fun h2 => some ((0 : Int32), h2)) else (some ((4 : Int32), h)))
def f_X2_patch (a : Nat) (x1 : Int32) (x2 : Int32) (x3 : Int32) (x4 : Int32) (h : Hp) : Option (Int32 × Hp) := Option.bind (f_X2_roadBetween a x1 x2 h) fun v1 => Option.bind (f_X2_roadBetween a x3 x4 h) fun v2 => if v1 = (-6 : Int32) then (some ((3 : Int32), h)) else (if v2 = (-6 : Int32) then (some ((3 : Int32), h)) else (if (100 : Int32) ≤ v1 then (some ((4 : Int32), h)) else (if v2 < (100 : Int32) then (Option.bind (f_X5_nameOfRoad x1 x2) fun v3 => Option.bind (f_X5_nameOfRoad x3 x4) fun v4 => if v3 = v4 then (some ((6 : Int32), h)) else (Option.bind (f_X2_putRoad a x1 x2 (v1 / (2 : Int32)) h) fun h5 => Option.bind (f_X2_putRoad a x3 x4 (-6 : Int32) h5) fun h6 => some ((0 : Int32), h6))) else (some ((4 : Int32), h)))))
def f_X2_passDay_l24 {R : Type} (a : Nat) (kx : Int32 → Hp → Option R) : Nat → Int32 → Hp → Option R
  | 0, _, _ => none
  | n + 1, s1, h => if (81 : Int32) ≤ s1 then (kx s1 h) else (Option.bind (ald 81 h (a + 1) s1) fun v2 => if v2 ≤ (100 : Int32) then (Option.bind (some (s1 + (1 : Int32))) fun v3 => f_X2_passDay_l24 a kx n v3 h) else (Option.bind (ald 81 h (a + 1) s1) fun v4 => Option.bind (if v4 = (101 : Int32) then (some (0 : Int32)) else (Option.bind (ald 81 h (a + 1) s1) fun v9 => some (v9 - (1 : Int32)))) fun t6 => Option.bind (ast 81 h (a + 1) s1 t6) fun h7 => Option.bind (some (s1 + (1 : Int32))) fun v8 => f_X2_passDay_l24 a kx n v8 h7))
def f_X2_passDay (a : Nat) (h : Hp) : Option (Int32 × Hp) := if (h.1 a 3) < (99 : Int32) then (Option.bind (some (ip h a 3 ((h.1 a 3) + (1 : Int32)))) fun h1 => f_X2_passDay_l24 a (fun (w10 : Int32) (h11 : Hp) => some ((0 : Int32), h11)) FU (0 : Int32) h1) else (some ((7 : Int32), h))
def f_X3_copyFrom (a : Nat) (b1 : Nat) (h : Hp) : Option Hp := Option.bind (f_X5_copy (b1 + 1) 8 (a + 1) 8 h) fun h1 => Option.bind (f_X5_copy (b1 + 2) 8 (a + 2) 8 h1) fun h2 => Option.bind (f_X5_copy (b1 + 3) 8 (a + 3) 8 h2) fun h3 => Option.bind (some (ip h3 a 3 (h3.1 b1 3))) fun h4 => some h4
def f_X3_add (a : Nat) (x1 : Int32) (x2 : Int32) (x3 : Int32) (h : Hp) : Option Hp := if (h.1 a 3) < (8 : Int32) then (Option.bind (f_X5_put (a + 1) 8 (h.1 a 3) x1 h) fun h1 => Option.bind (f_X5_put (a + 2) 8 (h1.1 a 3) x2 h1) fun h2 => Option.bind (f_X5_put (a + 3) 8 (h2.1 a 3) x3 h2) fun h3 => Option.bind (some (ip h3 a 3 ((h3.1 a 3) + (1 : Int32)))) fun h4 => some h4) else (some h)
def f_X5_reading (x1 : Int32) (x2 : Int32) (x3 : Int32) : Option Int32 := Option.bind (some (x3 / (100 : Int32))) fun v1 => Option.bind (some (irem (x3 / (10 : Int32)) (10 : Int32))) fun v2 => Option.bind (some (irem x3 (10 : Int32))) fun v3 => if x1 = (1 : Int32) then (some (x2 * (v2 + v3))) else (some (v1 + (x2 * (v2 + ((2 : Int32) * v3)))))
def f_X3_allowGuess_l2 (a : Nat) (s1 : Int32) (h : Hp) (kx : Int32 → Option Int32) : Nat → Int32 → Option Int32
  | 0, _ => none
  | n + 1, s2 => if (h.1 a 3) ≤ s2 then (kx s2) else (if (8 : Int32) ≤ s2 then (kx s2) else (Option.bind (f_X5_at (a + 1) 8 s2 h) fun v1 => Option.bind (f_X5_at (a + 2) 8 s2 h) fun v2 => Option.bind (f_X5_reading v1 v2 s1) fun v3 => Option.bind (f_X5_at (a + 3) 8 s2 h) fun v4 => if v3 = v4 then (Option.bind (some (s2 + (1 : Int32))) fun v5 => f_X3_allowGuess_l2 a s1 h kx n v5) else (some (0 : Int32))))
def f_X3_allowGuess (a : Nat) (x1 : Int32) (h : Hp) : Option Int32 := f_X3_allowGuess_l2 a x1 h (fun (w6 : Int32) => some (1 : Int32)) FU (0 : Int32)
def f_X4_begin (b1 : Nat) (h : Hp) : Option Hp := Option.bind (f_X2_copyFrom 12 b1 h) fun h1 => Option.bind (some (ip h1 11 1 (0 : Int32))) fun h2 => Option.bind (some (ip h2 11 2 (-6 : Int32))) fun h3 => Option.bind (some (ip h3 11 3 (-6 : Int32))) fun h4 => Option.bind (some (ip h4 11 4 (-6 : Int32))) fun h5 => some h5
def f_X4_take (x2 : Int32) (h : Hp) : Option (Int32 × Hp) := Option.bind (f_X1_signAt x2 h) fun v1 => if v1 = (46 : Int32) then (Option.bind (f_X2_passDay 12 h) fun t11 => some (t11.1, t11.2)) else (Option.bind (f_X1_placeAt (x2 + (1 : Int32)) h) fun v2 => Option.bind (f_X1_placeAt (x2 + (2 : Int32)) h) fun v3 => if v1 = (109 : Int32) then (Option.bind (f_X2_bringIn 12 v2 v3 h) fun t10 => some (t10.1, t10.2)) else (if v1 = (112 : Int32) then (Option.bind (f_X1_placeAt (x2 + (3 : Int32)) h) fun v7 => Option.bind (f_X1_placeAt (x2 + (4 : Int32)) h) fun v8 => Option.bind (f_X2_patch 12 v2 v3 v7 v8 h) fun t9 => some (t9.1, t9.2)) else (Option.bind (f_X1_signAt (x2 + (1 : Int32)) h) fun v4 => if v4 = (94 : Int32) then (Option.bind (f_X2_changeIron 12 (v1 - (65 : Int32)) h) fun t6 => some (t6.1, t6.2)) else (Option.bind (f_X2_walk 12 (v1 - (65 : Int32)) v2 h) fun t5 => some (t5.1, t5.2)))))
def f_X4_follow_l10 (b2 : Nat) (kx : Int32 → Int32 → Hp → Option Hp) : Nat → Int32 → Int32 → Hp → Option Hp
  | 0, _, _, _ => none
  | n + 1, s3, s4, h => if (60 : Int32) ≤ s4 then (kx s3 s4 h) else (if (h.1 9 1) ≤ s3 then (kx s3 s4 h) else (Option.bind (f_X4_take s3 h) fun t2 => if t2.1 = 0 then (Option.bind (if (t2.2.1 11 4) = (-6 : Int32) then (if (t2.2.1 12 4) = (-6 : Int32) then (some t2.2) else (Option.bind (some (ip t2.2 11 4 s4)) fun h9 => some h9)) else (some t2.2)) fun t4 => Option.bind (some (ip t4 11 1 ((t4.1 11 1) + (1 : Int32)))) fun h5 => Option.bind (f_X1_actLength s3 h5) fun v6 => Option.bind (some (s3 + v6)) fun v7 => Option.bind (some (s4 + (1 : Int32))) fun v8 => f_X4_follow_l10 b2 kx n v7 v8 h5) else (Option.bind (some (ip t2.2 11 2 s4)) fun h10 => Option.bind (some (ip h10 11 3 t2.1)) fun h11 => some h11)))
def f_X4_follow (b2 : Nat) (h : Hp) : Option Hp := Option.bind (f_X4_begin b2 h) fun h1 => f_X4_follow_l10 b2 (fun (w12 : Int32) (w13 : Int32) (h14 : Hp) => some h14) FU (0 : Int32) (0 : Int32) h1
def f_X4_takeDrawn (x1 : Int32) (h : Hp) : Option Hp := Option.bind (some (irem x1 (6 : Int32))) fun v1 => Option.bind (some (irem (x1 / (6 : Int32)) (8 : Int32))) fun v2 => Option.bind (some (x1 / (48 : Int32))) fun v3 => if v2 = (7 : Int32) then (Option.bind (f_X2_passDay 12 h) fun t7 => some t7.2) else (if v2 = (6 : Int32) then (Option.bind (f_X2_bringIn 12 (irem v3 (9 : Int32)) (irem (v3 / (9 : Int32)) (9 : Int32)) h) fun t6 => some t6.2) else (if v2 = (5 : Int32) then (Option.bind (f_X2_changeIron 12 v1 h) fun t5 => some t5.2) else (Option.bind (f_X2_walk 12 v1 (irem v3 (9 : Int32)) h) fun t4 => some t4.2)))
def f_X4_followDraws_l11 {R : Type} (b3 : Nat) (s2 : Int32) (kx : Int32 → Int32 → Hp → Option R) : Nat → Int32 → Int32 → Hp → Option R
  | 0, _, _, _ => none
  | n + 1, s4, s5, h => if s2 ≤ s5 then (kx s4 s5 h) else (Option.bind (some (irem (((75 : Int32) * s4) + (74 : Int32)) (65537 : Int32))) fun v2 => Option.bind (f_X4_takeDrawn v2 h) fun h3 => Option.bind (some (s5 + (1 : Int32))) fun v4 => f_X4_followDraws_l11 b3 s2 kx n v2 v4 h3)
def f_X4_followDraws (x1 : Int32) (x2 : Int32) (b3 : Nat) (h : Hp) : Option Hp := Option.bind (f_X4_begin b3 h) fun h1 => f_X4_followDraws_l11 b3 x2 (fun (w5 : Int32) (w6 : Int32) (h7 : Hp) => some h7) FU x1 (0 : Int32) h1
def f_X5_road (x1 : Int32) (x2 : Int32) (x3 : Int32) (h : Hp) : Option (Int32 × Hp) := Option.bind (f_X5_areTwoPlaces x1 x2) fun v1 => if v1 = 0 then (some ((-1 : Int32), h)) else (Option.bind (f_X5_within x3 (-1 : Int32) (9 : Int32)) fun v2 => if v2 = 0 then (some ((-2 : Int32), h)) else (Option.bind (if 0 ≤ x3 then (some x3) else (some (-6 : Int32))) fun t4 => Option.bind (f_X2_putRoad 1 x1 x2 t4 h) fun h5 => Option.bind (f_X2_countRoads 1 h5) fun v6 => some (v6, h5)))
def f_X5_walker (x1 : Int32) (x2 : Int32) (x3 : Int32) (h : Hp) : Option (Int32 × Hp) := Option.bind (f_X5_isWalker x1) fun v1 => if v1 = 0 then (some ((-1 : Int32), h)) else (Option.bind (f_X5_isPlace x2) fun v2 => if v2 = 0 then (some ((-1 : Int32), h)) else (Option.bind (f_X2_putWalker 1 x1 x2 x3 h) fun h3 => Option.bind (f_X2_walkersThere 1 h3) fun v4 => Option.bind (f_J6_bitCount_0f7a4 v4) fun v5 => some (v5, h3)))
def f_X5_say (x1 : Int32) (h : Hp) : Option (Int32 × Hp) := Option.bind (f_X5_within x1 (33 : Int32) (126 : Int32)) fun v1 => if v1 = 0 then (some ((-2 : Int32), h)) else (if (h.1 9 1) < (60 : Int32) then (Option.bind (f_X1_add x1 h) fun h2 => some ((h2.1 9 1), h2)) else (some ((-4 : Int32), h)))
def f_X5_wipe  (h : Hp) : Option (Int32 × Hp) := Option.bind (some (h.1 9 1)) fun v1 => Option.bind (f_X1_empty  h) fun h2 => some (v1, h2)
def f_X5_fault  (h : Hp) : Option Int32 := Option.bind (f_X1_faultPlace  h) fun v1 => some v1
def f_X5_judge (x1 : Int32) (h : Hp) : Option (Int32 × Hp) := Option.bind (f_X5_within x1 (0 : Int32) (1 : Int32)) fun v1 => if v1 = 0 then (some ((-2 : Int32), h)) else (Option.bind (f_X1_faultPlace  h) fun v2 => if v2 = (-6 : Int32) then (Option.bind (f_X4_follow 1 h) fun h3 => if x1 = 0 then (some ((h3.1 11 2), h3)) else (some ((h3.1 11 3), h3))) else (some ((-5 : Int32), h)))
def f_X5_canBeDone  (h : Hp) : Option (Int32 × Hp) := Option.bind (f_X1_faultPlace  h) fun v1 => if v1 = (-6 : Int32) then (Option.bind (f_X4_follow 1 h) fun h2 => if (h2.1 11 2) = (-6 : Int32) then (some ((1 : Int32), h2)) else (some ((0 : Int32), h2))) else (some ((0 : Int32), h))
def f_X5_done  (h : Hp) : Option (Int32 × Hp) := Option.bind (f_X5_canBeDone  h) fun t1 => if t1.1 = 0 then (some ((-5 : Int32), t1.2)) else (Option.bind (f_X2_copyFrom 1 12 t1.2) fun h2 => Option.bind (f_X1_empty  h2) fun h3 => some ((h3.1 11 1), h3))
def f_X5_behind (x1 : Int32) (x2 : Int32) (h : Hp) : Option (Int32 × Hp) := Option.bind (f_X5_areTwoPlaces x1 x2) fun v1 => if v1 = 0 then (some ((-1 : Int32), h)) else (Option.bind (f_X5_canBeDone  h) fun t2 => if t2.1 = 0 then (some ((-5 : Int32), t2.2)) else (Option.bind (f_X2_roadBetween 12 x1 x2 t2.2) fun v3 => some (v3, t2.2)))
def f_X5_goes (x1 : Int32) (x2 : Int32) (h : Hp) : Option (Int32 × Hp) := Option.bind (f_X2_isThere 1 x1 h) fun v1 => if v1 = 0 then (some ((-1 : Int32), h)) else (Option.bind (f_X5_within x2 (0 : Int32) (1 : Int32)) fun v2 => if v2 = 0 then (some ((-2 : Int32), h)) else (Option.bind (f_X5_canBeDone  h) fun t3 => if t3.1 = 0 then (some ((-5 : Int32), t3.2)) else (if x2 = 0 then (Option.bind (f_X2_placeOf 12 x1 t3.2) fun v5 => some (v5, t3.2)) else (Option.bind (f_X2_ironOf 12 x1 t3.2) fun v4 => some (v4, t3.2)))))
def f_X5_then (x1 : Int32) (h : Hp) : Option (Int32 × Hp) := Option.bind (f_X5_within x1 (0 : Int32) (5 : Int32)) fun v1 => if v1 = 0 then (some ((-2 : Int32), h)) else (Option.bind (f_X5_canBeDone  h) fun t2 => if t2.1 = 0 then (some ((-5 : Int32), t2.2)) else (if x1 = (0 : Int32) then (Option.bind (f_X2_countRoads 12 t2.2) fun v5 => some (v5, t2.2)) else (if x1 = (1 : Int32) then (Option.bind (f_X2_addWear 12 t2.2) fun v4 => some (v4, t2.2)) else (if x1 = (2 : Int32) then (Option.bind (f_X2_shutIn 12 t2.2) fun v3 => some (v3, t2.2)) else (if x1 = (3 : Int32) then (some ((t2.2.1 12 3), t2.2)) else (if x1 = (4 : Int32) then (some ((t2.2.1 11 4), t2.2)) else (some ((t2.2.1 12 4), t2.2))))))))
def f_J7_fill_53178_l5 {R : Type} (r1 n1 : Nat) (s1 : Int32) (s3 : Int32) (kx : Int32 → Hp → Option R) : Nat → Int32 → Hp → Option R
  | 0, _, _ => none
  | n + 1, s2, h => if s3 ≤ s2 then (kx s2 h) else (Option.bind (ast n1 h r1 s2 s1) fun h2 => Option.bind (some (s2 + (1 : Int32))) fun v3 => f_J7_fill_53178_l5 r1 n1 s1 s3 kx n v3 h2)
def f_J7_fill_53178 (r1 n1 : Nat) (x2 : Int32) (h : Hp) : Option Hp := Option.bind (some (Int32.ofNat n1)) fun v1 => f_J7_fill_53178_l5 r1 n1 x2 v1 (fun (w4 : Int32) (h5 : Hp) => some h5) FU (0 : Int32) h
def f_X5_lengthenFrom_l19 {R : Type} (s1 : Int32) (s2 : Int32) (s3 : Int32) (kx : Int32 → Hp → Option R) : Nat → Int32 → Hp → Option R
  | 0, _, _ => none
  | n + 1, s4, h => if (9 : Int32) ≤ s4 then (kx s4 h) else (Option.bind (f_X2_isOpen 1 s1 s4 h) fun v2 => if v2 = 0 then (Option.bind (some (s4 + (1 : Int32))) fun v3 => f_X5_lengthenFrom_l19 s1 s2 s3 kx n v3 h) else (Option.bind (if s2 = 0 then (some (1 : Int32)) else (Option.bind (f_X2_roadBetween 1 s1 s4 h) fun v13 => some v13)) fun t5 => Option.bind (some (s3 + t5)) fun v6 => Option.bind (f_X5_at 34 9 s4 h) fun v7 => jn (fun (j9 : Int32) => Option.bind (f_X5_put 34 9 j9 v6 h) fun h10 => Option.bind (some (j9 + (1 : Int32))) fun v11 => f_X5_lengthenFrom_l19 s1 s2 s3 kx n v11 h10) fun k8 => if v7 = (-6 : Int32) then (k8 s4) else (if v7 ≤ v6 then (Option.bind (some (s4 + (1 : Int32))) fun v12 => f_X5_lengthenFrom_l19 s1 s2 s3 kx n v12 h) else (k8 s4))))
def f_X5_lengthenFrom (x1 : Int32) (x2 : Int32) (h : Hp) : Option Hp := Option.bind (f_X5_at 34 9 x1 h) fun v1 => if v1 = (-6 : Int32) then (some h) else (f_X5_lengthenFrom_l19 x1 x2 v1 (fun (w14 : Int32) (h15 : Hp) => some h15) FU (0 : Int32) h)
def f_X5_leastWay_l31 {R : Type} (s2 : Int32) (s3 : Int32) (s4 : Int32) (kx : Int32 → Hp → Option R) : Nat → Int32 → Hp → Option R
  | 0, _, _ => none
  | n + 1, s5, h => if (9 : Int32) ≤ s5 then (kx s5 h) else (Option.bind (f_X5_lengthenFrom s5 s3 h) fun h3 => Option.bind (some (s5 + (1 : Int32))) fun v4 => f_X5_leastWay_l31 s2 s3 s4 kx n v4 h3)
def f_X5_leastWay_l21 {R : Type} (s2 : Int32) (s3 : Int32) (kx : Int32 → Hp → Option R) : Nat → Int32 → Hp → Option R
  | 0, _, _ => none
  | n + 1, s4, h => if (9 : Int32) ≤ s4 then (kx s4 h) else (f_X5_leastWay_l31 s2 s3 s4 (fun (w5 : Int32) (h6 : Hp) => Option.bind (some (s4 + (1 : Int32))) fun v7 => f_X5_leastWay_l21 s2 s3 kx n v7 h6) FU (0 : Int32) h)
def f_X5_leastWay (x1 : Int32) (x2 : Int32) (x3 : Int32) (h : Hp) : Option (Int32 × Hp) := Option.bind (f_J7_fill_53178 34 9 (-6 : Int32) h) fun h1 => Option.bind (f_X5_put 34 9 x1 (0 : Int32) h1) fun h2 => f_X5_leastWay_l21 x2 x3 (fun (w8 : Int32) (h9 : Hp) => Option.bind (f_X5_at 34 9 x2 h9) fun v10 => some (v10, h9)) FU (1 : Int32) h2
def f_X5_way (x1 : Int32) (x2 : Int32) (x3 : Int32) (h : Hp) : Option (Int32 × Hp) := Option.bind (f_X5_isPlace x1) fun v1 => if v1 = 0 then (some ((-1 : Int32), h)) else (Option.bind (f_X5_isPlace x2) fun v2 => if v2 = 0 then (some ((-1 : Int32), h)) else (Option.bind (f_X5_within x3 (0 : Int32) (1 : Int32)) fun v3 => if v3 = 0 then (some ((-2 : Int32), h)) else (if x3 = (1 : Int32) then (Option.bind (f_X5_leastWay x1 x2 (1 : Int32) h) fun t5 => some (t5.1, t5.2)) else (Option.bind (f_X5_leastWay x1 x2 (0 : Int32) h) fun t4 => some (t4.1, t4.2)))))
def f_X5_parts_l33 {R : Type} (s1 : Int32) (s4 : Int32) (h : Hp) (kx : Int32 → Int32 → Int32 → Option R) : Nat → Int32 → Int32 → Int32 → Option R
  | 0, _, _, _ => none
  | n + 1, s2, s3, s5 => if (9 : Int32) ≤ s5 then (kx s2 s3 s5) else (Option.bind (f_X2_isOpen 1 s4 s5 h) fun v3 => if v3 = 0 then (Option.bind (some (s5 + (1 : Int32))) fun v4 => f_X5_parts_l33 s1 s4 h kx n s2 s3 v4) else (Option.bind (f_X2_reached 1 s4 ((1 : Int32) <<< (s5 &&& 31)) h) fun v5 => Option.bind (f_X5_holds v5 s5) fun v6 => if v6 = 0 then (Option.bind (some (s2 + (1 : Int32))) fun v8 => if s3 = (-6 : Int32) then (Option.bind (f_X5_nameOfRoad s4 s5) fun v10 => Option.bind (some (s5 + (1 : Int32))) fun v11 => f_X5_parts_l33 s1 s4 h kx n v8 v10 v11) else (Option.bind (some (s5 + (1 : Int32))) fun v9 => f_X5_parts_l33 s1 s4 h kx n v8 s3 v9)) else (Option.bind (some (s5 + (1 : Int32))) fun v7 => f_X5_parts_l33 s1 s4 h kx n s2 s3 v7)))
def f_X5_parts_l20 {R : Type} (s1 : Int32) (h : Hp) (kx : Int32 → Int32 → Int32 → Option R) : Nat → Int32 → Int32 → Int32 → Option R
  | 0, _, _, _ => none
  | n + 1, s2, s3, s4 => if (9 : Int32) ≤ s4 then (kx s2 s3 s4) else (Option.bind (some (s4 + (1 : Int32))) fun v2 => f_X5_parts_l33 s1 s4 h (fun (w12 : Int32) (w13 : Int32) (w14 : Int32) => Option.bind (some (s4 + (1 : Int32))) fun v15 => f_X5_parts_l20 s1 h kx n w12 w13 v15) FU s2 s3 v2)
def f_X5_parts (x1 : Int32) (h : Hp) : Option Int32 := Option.bind (f_X5_within x1 (0 : Int32) (1 : Int32)) fun v1 => if v1 = 0 then (some (-2 : Int32)) else (f_X5_parts_l20 x1 h (fun (w16 : Int32) (w17 : Int32) (w18 : Int32) => if x1 = 0 then (some w16) else (some w17)) FU (0 : Int32) (-6 : Int32) (0 : Int32))
def f_X5_walksWithin_l7 {R : Type} (s1 : Int32) (h : Hp) (kx : Int32 → Int32 → Int32 → Option R) : Nat → Int32 → Int32 → Int32 → Option R
  | 0, _, _, _ => none
  | n + 1, s2, s3, s4 => if (9 : Int32) ≤ s4 then (kx s2 s3 s4) else (Option.bind (f_X5_holds s1 s4) fun v1 => if v1 = 0 then (Option.bind (some (s4 + (1 : Int32))) fun v2 => f_X5_walksWithin_l7 s1 h kx n s2 s3 v2) else (Option.bind (f_X2_openFrom 1 s4 h) fun v3 => Option.bind (f_J6_bitCount_0f7a4 v3) fun v4 => Option.bind (some (s2 + v4)) fun v5 => Option.bind (some (s3 + (irem v4 (2 : Int32)))) fun v6 => Option.bind (some (s4 + (1 : Int32))) fun v7 => f_X5_walksWithin_l7 s1 h kx n v5 v6 v7))
def f_X5_walksWithin (x1 : Int32) (h : Hp) : Option Int32 := f_X5_walksWithin_l7 x1 h (fun (w8 : Int32) (w9 : Int32) (w10 : Int32) => if w8 = 0 then (some (0 : Int32)) else (some (imax (1 : Int32) (w9 / (2 : Int32))))) FU (0 : Int32) (0 : Int32) (0 : Int32)
def f_X5_strokes_l6 {R : Type}  (h : Hp) (kx : Int32 → Int32 → Int32 → Option R) : Nat → Int32 → Int32 → Int32 → Option R
  | 0, _, _, _ => none
  | n + 1, s1, s2, s3 => if (9 : Int32) ≤ s3 then (kx s1 s2 s3) else (Option.bind (f_X5_holds s2 s3) fun v1 => if v1 = 0 then (Option.bind (f_X2_reached 1 s3 (0 : Int32) h) fun v3 => Option.bind (some (s2 ||| v3)) fun v4 => Option.bind (f_X5_walksWithin v3 h) fun v5 => Option.bind (some (s1 + v5)) fun v6 => Option.bind (some (s3 + (1 : Int32))) fun v7 => f_X5_strokes_l6 h kx n v6 v4 v7) else (Option.bind (some (s3 + (1 : Int32))) fun v2 => f_X5_strokes_l6 h kx n s1 s2 v2))
def f_X5_strokes  (h : Hp) : Option Int32 := f_X5_strokes_l6 h (fun (w8 : Int32) (w9 : Int32) (w10 : Int32) => some w8) FU (0 : Int32) (0 : Int32) (0 : Int32)
def f_X5_powerOfTen_l4 {R : Type} (s0 : Int32) (kx : Int64 → Int32 → Option R) : Nat → Int64 → Int32 → Option R
  | 0, _, _ => none
  | n + 1, s1, s3 => if s0 ≤ s3 then (kx s1 s3) else (Option.bind (some (s1 * (10 : Int64))) fun v1 => Option.bind (some (s3 + (1 : Int32))) fun v2 => f_X5_powerOfTen_l4 s0 kx n v1 v2)
def f_X5_powerOfTen (x1 : Int32) : Option Int64 := f_X5_powerOfTen_l4 x1 (fun (w3 : Int64) (w4 : Int32) => some w3) FU (1 : Int64) (0 : Int32)
def f_X5_digit_l4 {R : Type} (s1 : Int32) (kx : Int32 → Int32 → Option R) : Nat → Int32 → Int32 → Option R
  | 0, _, _ => none
  | n + 1, s2, s3 => if s1 ≤ s3 then (kx s2 s3) else (Option.bind (some (s2 / (10 : Int32))) fun v1 => Option.bind (some (s3 + (1 : Int32))) fun v2 => f_X5_digit_l4 s1 kx n v1 v2)
def f_X5_digit (x1 : Int32) (x2 : Int32) : Option Int32 := f_X5_digit_l4 x2 (fun (w3 : Int32) (w4 : Int32) => some (irem w3 (10 : Int32))) FU x1 (0 : Int32)
def f_X5_hasDigits_l18 (s0 : Int32) (s1 : Int32) (kx : Int32 → Option Int32) : Nat → Int32 → Option Int32
  | 0, _ => none
  | n + 1, s2 => if s1 ≤ s2 then (kx s2) else (Option.bind (f_X5_digit s0 s2) fun v2 => if v2 = 0 then (some (0 : Int32)) else (Option.bind (some (s2 + (1 : Int32))) fun v3 => f_X5_hasDigits_l18 s0 s1 kx n v3))
def f_X5_hasDigits (x1 : Int32) (x2 : Int32) : Option Int32 := if x1 < 0 then (some (0 : Int32)) else (Option.bind (f_X5_powerOfTen x2) fun v1 => if (lg_cmp (x1).toInt64 v1) < 0 then (f_X5_hasDigits_l18 x1 x2 (fun (w4 : Int32) => some (1 : Int32)) FU (0 : Int32)) else (some (0 : Int32)))
def f_X5_fillLoads_l13 {R : Type} (s1 : Int32) (s2 : Int32) (s3 : Int32) (kx : Int32 → Int32 → Option R) : Nat → Int32 → Int32 → Option R
  | 0, _, _ => none
  | n + 1, s4, s5 => if (8 : Int32) ≤ s5 then (kx s4 s5) else (Option.bind (f_X5_holds s3 s5) fun v1 => if v1 = 0 then (Option.bind (some (s5 + (1 : Int32))) fun v2 => f_X5_fillLoads_l13 s1 s2 s3 kx n s4 v2) else (Option.bind (f_X5_digit s1 s5) fun v3 => Option.bind (some (s4 + v3)) fun v4 => Option.bind (some (s5 + (1 : Int32))) fun v5 => f_X5_fillLoads_l13 s1 s2 s3 kx n v4 v5))
def f_X5_fillLoads_l2 {R : Type} (s1 : Int32) (s2 : Int32) (kx : Int32 → Hp → Option R) : Nat → Int32 → Hp → Option R
  | 0, _, _ => none
  | n + 1, s3, h => if s2 ≤ s3 then (kx s3 h) else (f_X5_fillLoads_l13 s1 s2 s3 (fun (w6 : Int32) (w7 : Int32) => Option.bind (f_X5_put 35 256 s3 w6 h) fun h8 => Option.bind (f_X5_put 36 256 s3 w6 h8) fun h9 => Option.bind (some (s3 + (1 : Int32))) fun v10 => f_X5_fillLoads_l2 s1 s2 kx n v10 h9) FU (0 : Int32) (0 : Int32))
def f_X5_fillLoads (x1 : Int32) (x2 : Int32) (h : Hp) : Option Hp := f_X5_fillLoads_l2 x1 x2 (fun (w11 : Int32) (h12 : Hp) => some h12) FU (0 : Int32) h
def f_X5_giveToOneMoreHand_l20 {R : Type} (s2 : Int32) (h : Hp) (kx : Int32 → Int32 → Option R) : Nat → Int32 → Int32 → Option R
  | 0, _, _ => none
  | n + 1, s3, s4 => if s2 < s4 then (kx s3 s4) else (if (s4 &&& s2) = s4 then (Option.bind (f_X5_at 35 256 s4 h) fun v4 => Option.bind (f_X5_at 36 256 (s2 - s4) h) fun v5 => Option.bind (some (imin s3 (imax v4 v5))) fun v6 => Option.bind (some (s4 + (1 : Int32))) fun v7 => f_X5_giveToOneMoreHand_l20 s2 h kx n v6 v7) else (Option.bind (some (s4 + (1 : Int32))) fun v3 => f_X5_giveToOneMoreHand_l20 s2 h kx n s3 v3))
def f_X5_giveToOneMoreHand_l4 {R : Type} (kx : Int32 → Hp → Option R) : Nat → Int32 → Hp → Option R
  | 0, _, _ => none
  | n + 1, s2, h => if s2 ≤ 0 then (kx s2 h) else (Option.bind (f_X5_at 36 256 s2 h) fun v2 => f_X5_giveToOneMoreHand_l20 s2 h (fun (w8 : Int32) (w9 : Int32) => Option.bind (f_X5_put 36 256 s2 w8 h) fun h10 => Option.bind (some (s2 + (-1 : Int32))) fun v11 => f_X5_giveToOneMoreHand_l4 kx n v11 h10) FU v2 (1 : Int32))
def f_X5_giveToOneMoreHand (x1 : Int32) (h : Hp) : Option Hp := Option.bind (some (x1 - (1 : Int32))) fun v1 => f_X5_giveToOneMoreHand_l4 (fun (w12 : Int32) (h13 : Hp) => some h13) FU v1 h
def f_X5_mended_l48 {R : Type} (s3 : Int32) (s4 : Int32) (kx : Int32 → Hp → Option R) : Nat → Int32 → Hp → Option R
  | 0, _, _ => none
  | n + 1, s5, h => if s3 < s5 then (kx s5 h) else (Option.bind (f_X5_giveToOneMoreHand s4 h) fun h6 => Option.bind (some (s5 + (1 : Int32))) fun v7 => f_X5_mended_l48 s3 s4 kx n v7 h6)
def f_X5_mended (x1 : Int32) (x2 : Int32) (x3 : Int32) (h : Hp) : Option (Int32 × Hp) := Option.bind (f_X5_within x2 (1 : Int32) (8 : Int32)) fun v1 => if v1 = 0 then (some ((-2 : Int32), h)) else (Option.bind (f_X5_within x3 (1 : Int32) (4 : Int32)) fun v2 => if v2 = 0 then (some ((-2 : Int32), h)) else (Option.bind (f_X5_hasDigits x1 x2) fun v3 => if v3 = 0 then (some ((-2 : Int32), h)) else (Option.bind (some ((1 : Int32) <<< (x2 &&& 31))) fun v4 => Option.bind (f_X5_fillLoads x1 v4 h) fun h5 => f_X5_mended_l48 x3 v4 (fun (w8 : Int32) (h9 : Hp) => Option.bind (f_X5_at 36 256 (v4 - (1 : Int32)) h9) fun v10 => some (v10, h9)) FU (2 : Int32) h5)))
def f_X5_countUsers_l5 {R : Type} (s0 : Int32) (s1 : Int32) (s2 : Int32) (kx : Int32 → Int32 → Option R) : Nat → Int32 → Int32 → Option R
  | 0, _, _ => none
  | n + 1, s3, s4 => if s1 ≤ s4 then (kx s3 s4) else (Option.bind (f_X5_digit s0 s4) fun v1 => if v1 < s2 then (Option.bind (some (s4 + (1 : Int32))) fun v2 => f_X5_countUsers_l5 s0 s1 s2 kx n s3 v2) else (Option.bind (some (s3 + (1 : Int32))) fun v3 => Option.bind (some (s4 + (1 : Int32))) fun v4 => f_X5_countUsers_l5 s0 s1 s2 kx n v3 v4))
def f_X5_countUsers (x1 : Int32) (x2 : Int32) (x3 : Int32) : Option Int32 := f_X5_countUsers_l5 x1 x2 x3 (fun (w5 : Int32) (w6 : Int32) => some w5) FU (0 : Int32) (0 : Int32)
def f_X5_commonDivisor_l9 {R : Type} (kx : Int64 → Int64 → Int32 → Option R) : Nat → Int64 → Int64 → Int32 → Option R
  | 0, _, _, _ => none
  | n + 1, s4, s6, s8 => if (200 : Int32) ≤ s8 then (kx s4 s6 s8) else (if (lg_cmp s6 (0 : Int64)) = 0 then (kx s4 s6 s8) else (Option.bind (lrm s4 s6) fun v1 => Option.bind (some (s8 + (1 : Int32))) fun v2 => f_X5_commonDivisor_l9 kx n s6 v1 v2))
def f_X5_commonDivisor (x1 : Int64) (x2 : Int64) : Option Int64 := f_X5_commonDivisor_l9 (fun (w3 : Int64) (w4 : Int64) (w5 : Int32) => some w3) FU x1 x2 (0 : Int32)
def f_X5_lowestTerms (x1 : Int64) (x2 : Int64) (x3 : Int32) : Option Int64 := Option.bind (f_X5_commonDivisor x1 x2) fun v1 => Option.bind (if x3 = 0 then (some x1) else (some x2)) fun t3 => if (lg_cmp v1 (0 : Int64)) ≤ 0 then (some t3) else (Option.bind (ldv t3 v1) fun v4 => some v4)
def f_X5_pays_l70 {R : Type} (s1 : Int32) (s2 : Int32) (s4 : Int32) (s5 : Int32) (kx : Int64 → Int32 → Option R) : Nat → Int64 → Int32 → Option R
  | 0, _, _ => none
  | n + 1, s6, s8 => if s5 < s8 then (kx s6 s8) else (Option.bind (f_X5_countUsers s1 s2 s8) fun v6 => if v6 ≤ 0 then (Option.bind (some (s8 + (1 : Int32))) fun v7 => f_X5_pays_l70 s1 s2 s4 s5 kx n s6 v7) else (Option.bind (idv (2520 : Int32) v6) fun v8 => Option.bind (some (s6 + (v8).toInt64)) fun v9 => Option.bind (some (s8 + (1 : Int32))) fun v10 => f_X5_pays_l70 s1 s2 s4 s5 kx n v9 v10))
def f_X5_pays (x1 : Int32) (x2 : Int32) (x3 : Int32) (x4 : Int32) : Option Int64 := Option.bind (f_X5_within x2 (1 : Int32) (9 : Int32)) fun v1 => if v1 = 0 then (some (-1000000000000000002 : Int64)) else (if x1 < 0 then (some (-1000000000000000002 : Int64)) else (Option.bind (f_X5_powerOfTen x2) fun v2 => if (lg_cmp (x1).toInt64 v2) < 0 then (Option.bind (f_X5_within x3 (0 : Int32) (x2 - (1 : Int32))) fun v3 => if v3 = 0 then (some (-1000000000000000002 : Int64)) else (Option.bind (f_X5_within x4 (0 : Int32) (1 : Int32)) fun v4 => if v4 = 0 then (some (-1000000000000000002 : Int64)) else (Option.bind (f_X5_digit x1 ((x2 - (1 : Int32)) - x3)) fun v5 => f_X5_pays_l70 x1 x2 x4 v5 (fun (w11 : Int64) (w12 : Int32) => Option.bind (f_X5_lowestTerms w11 (2520 : Int64) x4) fun v13 => some v13) FU (0 : Int64) (1 : Int32)))) else (some (-1000000000000000002 : Int64))))
def f_X5_seen (x1 : Int32) (x2 : Int32) (x3 : Int32) (h : Hp) : Option (Int32 × Hp) := Option.bind (f_X5_within x2 (0 : Int32) (20 : Int32)) fun v1 => if v1 = 0 then (some ((-2 : Int32), h)) else (Option.bind (f_X5_within x3 (0 : Int32) (9999 : Int32)) fun v2 => if v2 = 0 then (some ((-2 : Int32), h)) else (if (h.1 5 3) < (8 : Int32) then (Option.bind (if x1 = 0 then (some (0 : Int32)) else (some (1 : Int32))) fun t4 => Option.bind (f_X3_add 5 t4 x2 x3 h) fun h5 => some ((h5.1 5 3), h5)) else (some ((-4 : Int32), h))))
def f_X5_forget  (h : Hp) : Option (Int32 × Hp) := Option.bind (some (h.1 5 3)) fun v1 => Option.bind (some (ip h 5 3 (0 : Int32))) fun h2 => some (v1, h2)
def f_X5_gatherFitting_l4 {R : Type} (kx : Int32 → Int32 → Hp → Option R) : Nat → Int32 → Int32 → Hp → Option R
  | 0, _, _, _ => none
  | n + 1, s1, s2, h => if (1000 : Int32) ≤ s2 then (kx s1 s2 h) else (Option.bind (f_X3_allowGuess 5 s2 h) fun v1 => if v1 = 0 then (Option.bind (some (s2 + (1 : Int32))) fun v2 => f_X5_gatherFitting_l4 kx n s1 v2 h) else (Option.bind (f_X5_put 37 1000 s1 s2 h) fun h3 => Option.bind (some (s1 + (1 : Int32))) fun v4 => Option.bind (some (s2 + (1 : Int32))) fun v5 => f_X5_gatherFitting_l4 kx n v4 v5 h3))
def f_X5_gatherFitting  (h : Hp) : Option (Int32 × Hp) := f_X5_gatherFitting_l4 (fun (w6 : Int32) (w7 : Int32) (h8 : Hp) => some (w6, h8)) FU (0 : Int32) (0 : Int32) h
def f_X5_who (x1 : Int32) (h : Hp) : Option (Int32 × Hp) := if (-1 : Int32) ≤ x1 then (Option.bind (f_X5_gatherFitting  h) fun t1 => if x1 = (-1 : Int32) then (some (t1.1, t1.2)) else (if t1.1 ≤ x1 then (some ((-6 : Int32), t1.2)) else (Option.bind (f_X5_at 37 1000 x1 t1.2) fun v2 => some (v2, t1.2)))) else (some ((-6 : Int32), h))
def f_X5_mostLeft_l14 {R : Type} (s1 : Int32) (s2 : Int32) (s3 : Int32) (kx : Int32 → Int32 → Hp → Option R) : Nat → Int32 → Int32 → Hp → Option R
  | 0, _, _, _ => none
  | n + 1, s4, s5, h => if s3 ≤ s5 then (kx s4 s5 h) else (Option.bind (f_X5_at 37 1000 s5 h) fun v2 => Option.bind (f_X5_reading s1 s2 v2) fun v3 => Option.bind (f_X5_at 38 280 v3 h) fun v4 => Option.bind (some (v4 + (1 : Int32))) fun v5 => Option.bind (f_X5_put 38 280 v3 v5 h) fun h6 => Option.bind (some (imax s4 v5)) fun v7 => Option.bind (some (s5 + (1 : Int32))) fun v8 => f_X5_mostLeft_l14 s1 s2 s3 kx n v7 v8 h6)
def f_X5_mostLeft (x1 : Int32) (x2 : Int32) (x3 : Int32) (h : Hp) : Option (Int32 × Hp) := Option.bind (f_J7_fill_53178 38 280 (0 : Int32) h) fun h1 => f_X5_mostLeft_l14 x1 x2 x3 (fun (w9 : Int32) (w10 : Int32) (h11 : Hp) => some (w9, h11)) FU (0 : Int32) (0 : Int32) h1
def f_X5_ask_l44 {R : Type} (s1 : Int32) (s2 : Int32) (s5 : Int32) (kx : Int32 → Int32 → Int32 → Hp → Option R) : Nat → Int32 → Int32 → Int32 → Hp → Option R
  | 0, _, _, _, _ => none
  | n + 1, s3, s4, s6, h => if (1 : Int32) < s6 then (kx s3 s4 s6 h) else (Option.bind (f_X5_mostLeft s6 s5 s2 h) fun t3 => if s4 ≤ t3.1 then (Option.bind (some (s6 + (1 : Int32))) fun v4 => f_X5_ask_l44 s1 s2 s5 kx n s3 s4 v4 t3.2) else (Option.bind (some (((10 : Int32) * s5) + s6)) fun v5 => Option.bind (some (s6 + (1 : Int32))) fun v6 => f_X5_ask_l44 s1 s2 s5 kx n v5 t3.1 v6 t3.2))
def f_X5_ask_l34 {R : Type} (s1 : Int32) (s2 : Int32) (kx : Int32 → Int32 → Int32 → Hp → Option R) : Nat → Int32 → Int32 → Int32 → Hp → Option R
  | 0, _, _, _, _ => none
  | n + 1, s3, s4, s5, h => if (10 : Int32) < s5 then (kx s3 s4 s5 h) else (f_X5_ask_l44 s1 s2 s5 (fun (w7 : Int32) (w8 : Int32) (w9 : Int32) (h10 : Hp) => Option.bind (some (s5 + (1 : Int32))) fun v11 => f_X5_ask_l34 s1 s2 kx n w7 w8 v11 h10) FU s3 s4 (0 : Int32) h)
def f_X5_ask (x1 : Int32) (h : Hp) : Option (Int32 × Hp) := Option.bind (f_X5_within x1 (0 : Int32) (1 : Int32)) fun v1 => if v1 = 0 then (some ((-2 : Int32), h)) else (Option.bind (f_X5_gatherFitting  h) fun t2 => if t2.1 = 0 then (some ((-6 : Int32), t2.2)) else (f_X5_ask_l34 x1 t2.1 (fun (w12 : Int32) (w13 : Int32) (w14 : Int32) (h15 : Hp) => if x1 = 0 then (some (w12, h15)) else (some (w13, h15))) FU (0 : Int32) (1001 : Int32) (0 : Int32) t2.2))
def f_X5_winningTake_l2 (s1 : Int32) (s2 : Int32) (h : Hp) (kx : Int32 → Option Int32) : Nat → Int32 → Option Int32
  | 0, _ => none
  | n + 1, s3 => if (9 : Int32) < s3 then (kx s3) else (if s1 < s3 then (kx s3) else (Option.bind (f_X5_holds s2 (s3 - (1 : Int32))) fun v1 => if v1 = 0 then (Option.bind (some (s3 + (1 : Int32))) fun v2 => f_X5_winningTake_l2 s1 s2 h kx n v2) else (Option.bind (f_X5_at 39 100 (s1 - s3) h) fun v3 => if v3 = (-6 : Int32) then (some s3) else (Option.bind (some (s3 + (1 : Int32))) fun v4 => f_X5_winningTake_l2 s1 s2 h kx n v4))))
def f_X5_winningTake (x1 : Int32) (x2 : Int32) (h : Hp) : Option Int32 := f_X5_winningTake_l2 x1 x2 h (fun (w5 : Int32) => some (-6 : Int32)) FU (1 : Int32)
def f_X5_tacks_l36 {R : Type} (s1 : Int32) (s2 : Int32) (s3 : Int32) (kx : Int32 → Hp → Option R) : Nat → Int32 → Hp → Option R
  | 0, _, _ => none
  | n + 1, s4, h => if s1 < s4 then (kx s4 h) else (Option.bind (f_X5_winningTake s4 s2 h) fun v4 => Option.bind (f_X5_put 39 100 s4 v4 h) fun h5 => Option.bind (some (s4 + (1 : Int32))) fun v6 => f_X5_tacks_l36 s1 s2 s3 kx n v6 h5)
def f_X5_tacks (x1 : Int32) (x2 : Int32) (x3 : Int32) (h : Hp) : Option (Int32 × Hp) := Option.bind (f_X5_within x1 (0 : Int32) (99 : Int32)) fun v1 => if v1 = 0 then (some ((-2 : Int32), h)) else (Option.bind (f_X5_within x2 (1 : Int32) (511 : Int32)) fun v2 => if v2 = 0 then (some ((-2 : Int32), h)) else (Option.bind (f_X5_within x3 (0 : Int32) (1 : Int32)) fun v3 => if v3 = 0 then (some ((-2 : Int32), h)) else (f_X5_tacks_l36 x1 x2 x3 (fun (w7 : Int32) (h8 : Hp) => Option.bind (f_X5_at 39 100 x1 h8) fun v9 => if x3 = 0 then (if v9 = (-6 : Int32) then (some ((0 : Int32), h8)) else (some ((1 : Int32), h8))) else (some (v9, h8))) FU (0 : Int32) h)))
def f_J7_fill_d0a16_l6 {R : Type} (r1 n1 : Nat) (s1 : Int64) (s4 : Int32) (kx : Int32 → Hp → Option R) : Nat → Int32 → Hp → Option R
  | 0, _, _ => none
  | n + 1, s3, h => if s4 ≤ s3 then (kx s3 h) else (Option.bind (last n1 h r1 s3 s1) fun h2 => Option.bind (some (s3 + (1 : Int32))) fun v3 => f_J7_fill_d0a16_l6 r1 n1 s1 s4 kx n v3 h2)
def f_J7_fill_d0a16 (r1 n1 : Nat) (x2 : Int64) (h : Hp) : Option Hp := Option.bind (some (Int32.ofNat n1)) fun v1 => f_J7_fill_d0a16_l6 r1 n1 x2 v1 (fun (w4 : Int32) (h5 : Hp) => some h5) FU (0 : Int32) h
def f_X5_fillChances_l39 {R : Type} (s1 : Int32) (s2 : Int32) (s3 : Int32) (kx : Int32 → Hp → Option R) : Nat → Int32 → Hp → Option R
  | 0, _, _ => none
  | n + 1, s4, h => if s4 < 0 then (kx s4 h) else (Option.bind (if s4 ≤ 0 then (some (0 : Int64)) else (Option.bind (lald 17 h 40 (s4 - (1 : Int32))) fun v10 => some (v10 * (s2).toInt64))) fun t6 => Option.bind (lald 17 h 40 s4) fun v7 => Option.bind (last 17 h 40 s4 ((v7 * (((10 : Int32) - s2)).toInt64) + t6)) fun h8 => Option.bind (some (s4 + (-1 : Int32))) fun v9 => f_X5_fillChances_l39 s1 s2 s3 kx n v9 h8)
def f_X5_fillChances_l25 {R : Type} (s1 : Int32) (s2 : Int32) (kx : Int32 → Hp → Option R) : Nat → Int32 → Hp → Option R
  | 0, _, _ => none
  | n + 1, s3, h => if s1 < s3 then (kx s3 h) else (Option.bind (some ((17 : Int32) - (1 : Int32))) fun v4 => f_X5_fillChances_l39 s1 s2 s3 (fun (w11 : Int32) (h12 : Hp) => Option.bind (some (s3 + (1 : Int32))) fun v13 => f_X5_fillChances_l25 s1 s2 kx n v13 h12) FU v4 h)
def f_X5_fillChances (x1 : Int32) (x2 : Int32) (h : Hp) : Option Hp := Option.bind (f_J7_fill_d0a16 40 17 (0 : Int64) h) fun h1 => Option.bind (if (17 : Int32) ≤ 0 then (some h1) else (Option.bind (last 17 h1 40 (0 : Int32) (1 : Int64)) fun h16 => some h16)) fun t3 => f_X5_fillChances_l25 x1 x2 (fun (w14 : Int32) (h15 : Hp) => some h15) FU (1 : Int32) t3
def f_X5_wet_l92 {R : Type} (s1 : Int32) (s3 : Int32) (s5 : Int32) (h : Hp) (kx : Int64 → Int32 → Option R) : Nat → Int64 → Int32 → Option R
  | 0, _, _ => none
  | n + 1, s6, s8 => if s1 < s8 then (kx s6 s8) else (if (17 : Int32) ≤ s8 then (kx s6 s8) else (if (s1 + s8) < s3 then (Option.bind (some (s8 + (1 : Int32))) fun v7 => f_X5_wet_l92 s1 s3 s5 h kx n s6 v7) else (Option.bind (lald 17 h 40 s8) fun v8 => Option.bind (some (s6 + v8)) fun v9 => Option.bind (some (s8 + (1 : Int32))) fun v10 => f_X5_wet_l92 s1 s3 s5 h kx n v9 v10)))
def f_X5_wet (x1 : Int32) (x2 : Int32) (x3 : Int32) (x4 : Int32) (x5 : Int32) (h : Hp) : Option (Int64 × Hp) := Option.bind (f_X5_within x1 (0 : Int32) (16 : Int32)) fun v1 => if v1 = 0 then (some ((-1000000000000000002 : Int64), h)) else (Option.bind (f_X5_within x2 (0 : Int32) (10 : Int32)) fun v2 => if v2 = 0 then (some ((-1000000000000000002 : Int64), h)) else (Option.bind (f_X5_within x3 (0 : Int32) (40 : Int32)) fun v3 => if v3 = 0 then (some ((-1000000000000000002 : Int64), h)) else (Option.bind (f_X5_within x4 (0 : Int32) (1 : Int32)) fun v4 => if v4 = 0 then (some ((-1000000000000000002 : Int64), h)) else (Option.bind (f_X5_within x5 (0 : Int32) (1 : Int32)) fun v5 => if v5 = 0 then (some ((-1000000000000000002 : Int64), h)) else (if x4 = (1 : Int32) then (Option.bind (f_X5_lowestTerms ((x1 * ((10 : Int32) + x2))).toInt64 (10 : Int64) x5) fun v15 => some (v15, h)) else (Option.bind (f_X5_fillChances x1 x2 h) fun h6 => f_X5_wet_l92 x1 x3 x5 h6 (fun (w11 : Int64) (w12 : Int32) => Option.bind (f_X5_powerOfTen x1) fun v13 => Option.bind (f_X5_lowestTerms w11 v13 x5) fun v14 => some (v14, h6)) FU (0 : Int64) (0 : Int32)))))))
def f_X5_year (x1 : Int32) (x2 : Int32) (x3 : Int32) (h : Hp) : Option (Int32 × Hp) := Option.bind (f_X5_within x1 (0 : Int32) (9999 : Int32)) fun v1 => if v1 = 0 then (some ((-2 : Int32), h)) else (Option.bind (f_X5_within x2 (1 : Int32) (99 : Int32)) fun v2 => if v2 = 0 then (some ((-2 : Int32), h)) else (Option.bind (f_X5_within x3 (0 : Int32) (2 : Int32)) fun v3 => if v3 = 0 then (some ((-2 : Int32), h)) else (Option.bind (f_X4_followDraws x1 x2 1 h) fun h4 => if x3 = (0 : Int32) then (Option.bind (f_X2_addWear 12 h4) fun v8 => some (v8, h4)) else (if x3 = (1 : Int32) then (Option.bind (f_X2_shutIn 12 h4) fun v6 => Option.bind (f_J6_bitCount_0f7a4 v6) fun v7 => some (v7, h4)) else (Option.bind (f_X2_countOpen 12 h4) fun v5 => some (v5, h4))))))
def f_X5_image (x1 : Int32) (h : Hp) : Option (Int32 × Hp) := Option.bind (f_X5_within x1 (0 : Int32) (1 : Int32)) fun v1 => if v1 = 0 then (some ((-2 : Int32), h)) else (if x1 = 0 then (Option.bind (f_X2_copyFrom 17 1 h) fun h5 => Option.bind (f_X3_copyFrom 21 5 h5) fun h6 => Option.bind (some (ip h6 16 2 (1 : Int32))) fun h7 => some ((1 : Int32), h7)) else (Option.bind (f_X2_copyFrom 26 1 h) fun h2 => Option.bind (f_X3_copyFrom 30 5 h2) fun h3 => Option.bind (some (ip h3 25 2 (1 : Int32))) fun h4 => some ((1 : Int32), h4)))
def f_X5_restore (x1 : Int32) (h : Hp) : Option (Int32 × Hp) := Option.bind (f_X5_within x1 (0 : Int32) (1 : Int32)) fun v1 => if v1 = 0 then (some ((-2 : Int32), h)) else (if x1 = 0 then (if (h.1 16 2) = 0 then (some ((-3 : Int32), h)) else (Option.bind (f_X2_copyFrom 1 17 h) fun h4 => Option.bind (f_X3_copyFrom 5 21 h4) fun h5 => some ((1 : Int32), h5))) else (if (h.1 25 2) = 0 then (some ((-3 : Int32), h)) else (Option.bind (f_X2_copyFrom 1 26 h) fun h2 => Option.bind (f_X3_copyFrom 5 30 h2) fun h3 => some ((1 : Int32), h3))))
def f_X5_told (x1 : Int32) (h : Hp) : Option Int32 := if x1 = 0 then (some (h.1 9 1)) else (if x1 = (1 : Int32) then (Option.bind (f_X2_walkersThere 1 h) fun v16 => some v16) else (if x1 = (2 : Int32) then (some (h.1 1 3)) else (if x1 = (3 : Int32) then (some (h.1 5 3)) else (Option.bind (f_X5_within x1 (10 : Int32) (19 : Int32)) fun v1 => if v1 = 0 then (Option.bind (f_X5_within x1 (20 : Int32) (29 : Int32)) fun v2 => if v2 = 0 then (Option.bind (f_X5_within x1 (30 : Int32) (39 : Int32)) fun v3 => if v3 = 0 then (Option.bind (f_X5_within x1 (100 : Int32) (199 : Int32)) fun v4 => if v4 = 0 then (some (-2 : Int32)) else (Option.bind (some ((x1 - (100 : Int32)) / (10 : Int32))) fun v5 => Option.bind (some (irem (x1 - (100 : Int32)) (10 : Int32))) fun v6 => Option.bind (f_X5_isPlace v5) fun v7 => if v7 = 0 then (some (-2 : Int32)) else (Option.bind (f_X5_isPlace v6) fun v8 => if v8 = 0 then (some (-2 : Int32)) else (Option.bind (f_X2_roadBetween 1 v5 v6 h) fun v9 => some v9)))) else (Option.bind (f_X5_isPlace (x1 - (30 : Int32))) fun v10 => if v10 = 0 then (some (-2 : Int32)) else (Option.bind (f_X2_openFrom 1 (x1 - (30 : Int32)) h) fun v11 => some v11))) else (Option.bind (f_X2_isThere 1 (x1 - (20 : Int32)) h) fun v12 => if v12 = 0 then (some (-2 : Int32)) else (Option.bind (f_X2_ironOf 1 (x1 - (20 : Int32)) h) fun v13 => some v13))) else (Option.bind (f_X2_isThere 1 (x1 - (10 : Int32)) h) fun v14 => if v14 = 0 then (some (-2 : Int32)) else (Option.bind (f_X2_placeOf 1 (x1 - (10 : Int32)) h) fun v15 => some v15))))))
def f_X6_in (x1 : Int32) (x2 : Int32) (x3 : Int32) : Option Int32 := if x1 < x2 then (some (0 : Int32)) else (if x3 < x1 then (some (0 : Int32)) else (some (1 : Int32)))
def f_X6_has (x1 : Int32) (x2 : Int32) : Option Int32 := if ((x1 >>> (x2 &&& 31)) &&& (1 : Int32)) = (1 : Int32) then (some (1 : Int32)) else (some (0 : Int32))
def f_X6_bits_l4 {R : Type} (s0 : Int32) (kx : Int32 → Int32 → Option R) : Nat → Int32 → Int32 → Option R
  | 0, _, _ => none
  | n + 1, s1, s2 => if (9 : Int32) ≤ s2 then (kx s1 s2) else (Option.bind (some (s1 + ((s0 >>> (s2 &&& 31)) &&& (1 : Int32)))) fun v1 => Option.bind (some (s2 + (1 : Int32))) fun v2 => f_X6_bits_l4 s0 kx n v1 v2)
def f_X6_bits (x1 : Int32) : Option Int32 := f_X6_bits_l4 x1 (fun (w3 : Int32) (w4 : Int32) => some w3) FU (0 : Int32) (0 : Int32)
def f_X6_isPlace (x1 : Int32) : Option Int32 := Option.bind (f_X6_in x1 (0 : Int32) (8 : Int32)) fun v1 => Option.bind (zck v1) fun v2 => some v2
def f_X6_isThere (x1 : Int32) (h : Hp) : Option Int32 := Option.bind (f_X6_in x1 (0 : Int32) (5 : Int32)) fun v1 => if v1 = 0 then (some (0 : Int32)) else (Option.bind (f_X6_has (h.1 0 2) x1) fun v2 => if v2 = 0 then (some (0 : Int32)) else (some (1 : Int32)))
def f_X6_roadsOf_l4 {R : Type}  (h : Hp) (kx : Int32 → Int32 → Option R) : Nat → Int32 → Int32 → Option R
  | 0, _, _ => none
  | n + 1, s1, s2 => if (81 : Int32) ≤ s2 then (kx s1 s2) else (Option.bind (ald 89 h 2 s2) fun v1 => Option.bind (if v1 < 0 then (some (0 : Int32)) else (some (1 : Int32))) fun t3 => Option.bind (some (s1 + t3)) fun v4 => Option.bind (some (s2 + (1 : Int32))) fun v5 => f_X6_roadsOf_l4 h kx n v4 v5)
def f_X6_roadsOf  (h : Hp) : Option Int32 := f_X6_roadsOf_l4 h (fun (w6 : Int32) (w7 : Int32) => some (w6 / (2 : Int32))) FU (0 : Int32) (0 : Int32)
def f_X6_asNow_l2 {R : Type} (kx : Int32 → Hp → Option R) : Nat → Int32 → Hp → Option R
  | 0, _, _ => none
  | n + 1, s1, h => if (89 : Int32) ≤ s1 then (kx s1 h) else (Option.bind (ald 89 h 1 s1) fun v1 => Option.bind (ast 89 h 2 s1 v1) fun h2 => Option.bind (some (s1 + (1 : Int32))) fun v3 => f_X6_asNow_l2 kx n v3 h2)
def f_X6_asNow  (h : Hp) : Option Hp := f_X6_asNow_l2 (fun (w4 : Int32) (h5 : Hp) => Option.bind (some (ip h5 0 7 (-6 : Int32))) fun h6 => Option.bind (some (ip h6 0 8 (-6 : Int32))) fun h7 => some h7) FU (0 : Int32) h
def f_X6_road (x1 : Int32) (x2 : Int32) (x3 : Int32) (h : Hp) : Option (Int32 × Hp) := Option.bind (f_X6_isPlace x1) fun v1 => if v1 = 0 then (some ((-1 : Int32), h)) else (Option.bind (f_X6_isPlace x2) fun v2 => if v2 = 0 then (some ((-1 : Int32), h)) else (if x1 = x2 then (some ((-1 : Int32), h)) else (Option.bind (f_X6_in x3 (-1 : Int32) (9 : Int32)) fun v3 => if v3 = 0 then (some ((-2 : Int32), h)) else (Option.bind (if 0 ≤ x3 then (some x3) else (some (-6 : Int32))) fun t5 => Option.bind (ast 89 h 1 (((9 : Int32) * x1) + x2) t5) fun h6 => Option.bind (if 0 ≤ x3 then (some x3) else (some (-6 : Int32))) fun t8 => Option.bind (ast 89 h6 1 (((9 : Int32) * x2) + x1) t8) fun h9 => Option.bind (f_X6_asNow  h9) fun h10 => Option.bind (f_X6_roadsOf  h10) fun v11 => some (v11, h10)))))
def f_X6_walker (x1 : Int32) (x2 : Int32) (x3 : Int32) (h : Hp) : Option (Int32 × Hp) := Option.bind (f_X6_in x1 (0 : Int32) (5 : Int32)) fun v1 => if v1 = 0 then (some ((-1 : Int32), h)) else (Option.bind (f_X6_isPlace x2) fun v2 => if v2 = 0 then (some ((-1 : Int32), h)) else (Option.bind (some (ip h 0 2 ((h.1 0 2) ||| ((1 : Int32) <<< (x1 &&& 31))))) fun h3 => Option.bind (ast 89 h3 1 ((81 : Int32) + x1) x2) fun h4 => Option.bind (ald 89 h4 1 (87 : Int32)) fun v5 => Option.bind (ast 89 h4 1 (87 : Int32) (v5 &&& (((1 : Int32) <<< (x1 &&& 31)) ^^^ (-1 : Int32)))) fun h6 => Option.bind (ald 89 h6 1 (87 : Int32)) fun v7 => Option.bind (if x3 = 0 then (some (0 : Int32)) else (some ((1 : Int32) <<< (x1 &&& 31)))) fun t9 => Option.bind (ast 89 h6 1 (87 : Int32) (v7 ||| t9)) fun h10 => Option.bind (f_X6_bits (h10.1 0 2)) fun v11 => some (v11, h10)))
def f_X6_say (x1 : Int32) (h : Hp) : Option (Int32 × Hp) := Option.bind (f_X6_in x1 (33 : Int32) (126 : Int32)) fun v1 => if v1 = 0 then (some ((-2 : Int32), h)) else (if (h.1 0 5) = (60 : Int32) then (some ((-4 : Int32), h)) else (Option.bind (ast 60 h 4 (h.1 0 5) x1) fun h2 => Option.bind (some (ip h2 0 5 ((h2.1 0 5) + (1 : Int32)))) fun h3 => some ((h3.1 0 5), h3)))
def f_X6_wipe  (h : Hp) : Option (Int32 × Hp) := Option.bind (some (h.1 0 5)) fun v1 => Option.bind (some (ip h 0 5 (0 : Int32))) fun h2 => some (v1, h2)
def f_X6_faultOf_l4  (h : Hp) (kx : Int32 → Int32 → Option Int32) : Nat → Int32 → Int32 → Option Int32
  | 0, _, _ => none
  | n + 1, s1, s2 => if (h.1 0 5) ≤ s2 then (kx s1 s2) else (Option.bind (ald 60 h 4 s2) fun v1 => Option.bind (f_X6_in v1 (97 : Int32) (105 : Int32)) fun v2 => if s1 ≤ 0 then (if 0 ≤ s1 then (Option.bind (f_X6_in v1 (65 : Int32) (70 : Int32)) fun v3 => if v3 = 0 then (jn (fun (j5 : Int32) => Option.bind (if v1 = (109 : Int32) then (some (2 : Int32)) else (some (4 : Int32))) fun t7 => Option.bind (some (j5 + (1 : Int32))) fun v8 => f_X6_faultOf_l4 h kx n t7 v8) fun k4 => if v1 = (109 : Int32) then (k4 s2) else (if v1 = (112 : Int32) then (k4 s2) else (if v1 = (46 : Int32) then (Option.bind (some (s2 + (1 : Int32))) fun v9 => f_X6_faultOf_l4 h kx n s1 v9) else (some s2)))) else (Option.bind (some (s2 + (1 : Int32))) fun v10 => f_X6_faultOf_l4 h kx n (-1 : Int32) v10)) else (jn (fun (_u : Unit) => Option.bind (some (s2 + (1 : Int32))) fun v12 => f_X6_faultOf_l4 h kx n (0 : Int32) v12) fun k11 => if v2 = 0 then (if v1 = (94 : Int32) then (k11 ()) else (some s2)) else (k11 ()))) else (if v2 = 0 then (some s2) else (Option.bind (some (s1 + (-1 : Int32))) fun v13 => Option.bind (some (s2 + (1 : Int32))) fun v14 => f_X6_faultOf_l4 h kx n v13 v14)))
def f_X6_faultOf  (h : Hp) : Option Int32 := f_X6_faultOf_l4 h (fun (w15 : Int32) (w16 : Int32) => if w15 = 0 then (some (-6 : Int32)) else (some (h.1 0 5))) FU (0 : Int32) (0 : Int32)
def f_X6_fault  (h : Hp) : Option Int32 := Option.bind (f_X6_faultOf  h) fun v1 => some v1
def f_X6_lay (x1 : Int32) (x2 : Int32) (x3 : Int32) (h : Hp) : Option Hp := Option.bind (ast 89 h 2 (((9 : Int32) * x1) + x2) x3) fun h1 => Option.bind (ast 89 h1 2 (((9 : Int32) * x2) + x1) x3) fun h2 => some h2
def f_X6_barOf (x1 : Int32) (x2 : Int32) (h : Hp) : Option Int32 := Option.bind (ald 89 h 2 (((9 : Int32) * x1) + x2)) fun v1 => if 0 ≤ v1 then (if v1 ≤ (99 : Int32) then (some (0 : Int32)) else (some (4 : Int32))) else (some (3 : Int32))
def f_X6_walk (x1 : Int32) (x2 : Int32) (h : Hp) : Option (Int32 × Hp) := Option.bind (f_X6_isThere x1 h) fun v1 => if v1 = 0 then (some ((1 : Int32), h)) else (Option.bind (ald 89 h 2 ((81 : Int32) + x1)) fun v2 => if v2 = x2 then (some ((2 : Int32), h)) else (Option.bind (f_X6_barOf v2 x2 h) fun v3 => Option.bind (ald 89 h 2 (((9 : Int32) * v2) + x2)) fun v4 => jn (fun (j6 : Hp) => if v3 ≤ 0 then (some ((5 : Int32), j6)) else (some (v3, j6))) fun k5 => if 0 < v3 then (k5 h) else (if v4 = (9 : Int32) then (k5 h) else (Option.bind (ald 89 h 2 (87 : Int32)) fun v7 => Option.bind (f_X6_has v7 x1) fun v8 => Option.bind (if v8 = 0 then (some (1 : Int32)) else (some (2 : Int32))) fun t10 => Option.bind (some (v4 + t10)) fun v11 => Option.bind (if v11 ≤ (9 : Int32) then (some v11) else (some (9 : Int32))) fun t13 => Option.bind (f_X6_lay v2 x2 t13 h) fun h14 => Option.bind (ast 89 h14 2 ((81 : Int32) + x1) x2) fun h15 => some ((0 : Int32), h15)))))
def f_X6_shoe (x1 : Int32) (h : Hp) : Option (Int32 × Hp) := Option.bind (f_X6_isThere x1 h) fun v1 => if v1 = 0 then (some ((1 : Int32), h)) else (Option.bind (ald 89 h 2 (87 : Int32)) fun v2 => Option.bind (ast 89 h 2 (87 : Int32) (v2 ^^^ ((1 : Int32) <<< (x1 &&& 31)))) fun h3 => some ((0 : Int32), h3))
def f_X6_bring (x1 : Int32) (x2 : Int32) (h : Hp) : Option (Int32 × Hp) := Option.bind (f_X6_barOf x1 x2 h) fun v1 => if v1 = 0 then (Option.bind (f_X6_lay x1 x2 (103 : Int32) h) fun h2 => some (v1, h2)) else (some (v1, h))
def f_X6_patch (x1 : Int32) (x2 : Int32) (x3 : Int32) (x4 : Int32) (h : Hp) : Option (Int32 × Hp) := Option.bind (f_X6_barOf x1 x2 h) fun v1 => Option.bind (f_X6_barOf x3 x4 h) fun v2 => if v1 = (3 : Int32) then (some ((3 : Int32), h)) else (if v2 = (3 : Int32) then (some ((3 : Int32), h)) else (if v1 = (4 : Int32) then (some ((4 : Int32), h)) else (if v2 = (4 : Int32) then (some ((4 : Int32), h)) else (jn (fun (_u : Unit) => jn (fun (_u : Unit) => Option.bind (ald 89 h 2 (((9 : Int32) * x1) + x2)) fun v5 => Option.bind (f_X6_lay x1 x2 (v5 / (2 : Int32)) h) fun h6 => Option.bind (f_X6_lay x3 x4 (-6 : Int32) h6) fun h7 => some ((0 : Int32), h7)) fun k4 => if x1 = x4 then (if x2 = x3 then (some ((6 : Int32), h)) else (k4 ())) else (k4 ())) fun k3 => if x1 = x3 then (if x2 = x4 then (some ((6 : Int32), h)) else (k3 ())) else (k3 ())))))
def f_X6_endDay_l28 {R : Type} (kx : Int32 → Hp → Option R) : Nat → Int32 → Hp → Option R
  | 0, _, _ => none
  | n + 1, s1, h => if (81 : Int32) ≤ s1 then (kx s1 h) else (Option.bind (ald 89 h 2 s1) fun v4 => Option.bind (if v4 = (101 : Int32) then (some (0 : Int32)) else (Option.bind (ald 89 h 2 s1) fun v9 => if v9 ≤ (101 : Int32) then (Option.bind (ald 89 h 2 s1) fun v10 => some v10) else (Option.bind (ald 89 h 2 s1) fun v11 => some (v11 - (1 : Int32))))) fun t6 => Option.bind (ast 89 h 2 s1 t6) fun h7 => Option.bind (some (s1 + (1 : Int32))) fun v8 => f_X6_endDay_l28 kx n v8 h7)
def f_X6_endDay  (h : Hp) : Option (Int32 × Hp) := Option.bind (ald 89 h 2 (88 : Int32)) fun v1 => if v1 = (99 : Int32) then (some ((7 : Int32), h)) else (Option.bind (ald 89 h 2 (88 : Int32)) fun v2 => Option.bind (ast 89 h 2 (88 : Int32) (v2 + (1 : Int32))) fun h3 => f_X6_endDay_l28 (fun (w12 : Int32) (h13 : Hp) => some ((0 : Int32), h13)) FU (0 : Int32) h3)
def f_X6_isOpen (x1 : Int32) (x2 : Int32) (h : Hp) : Option Int32 := Option.bind (ald 89 h 2 (((9 : Int32) * x1) + x2)) fun v1 => Option.bind (f_X6_in v1 (0 : Int32) (8 : Int32)) fun v2 => Option.bind (zck v2) fun v3 => some v3
def f_X6_openFrom_l4 {R : Type} (s1 : Int32) (h : Hp) (kx : Int32 → Int32 → Option R) : Nat → Int32 → Int32 → Option R
  | 0, _, _ => none
  | n + 1, s2, s3 => if (9 : Int32) ≤ s3 then (kx s2 s3) else (Option.bind (f_X6_isOpen s1 s3 h) fun v1 => Option.bind (if v1 = 0 then (some (0 : Int32)) else (some ((1 : Int32) <<< (s3 &&& 31)))) fun t3 => Option.bind (some (s2 ||| t3)) fun v4 => Option.bind (some (s3 + (1 : Int32))) fun v5 => f_X6_openFrom_l4 s1 h kx n v4 v5)
def f_X6_openFrom (x1 : Int32) (h : Hp) : Option Int32 := f_X6_openFrom_l4 x1 h (fun (w6 : Int32) (w7 : Int32) => some w6) FU (0 : Int32) (0 : Int32)
def f_X6_shutIn_l4 {R : Type}  (h : Hp) (kx : Int32 → Int32 → Option R) : Nat → Int32 → Int32 → Option R
  | 0, _, _ => none
  | n + 1, s1, s2 => if (6 : Int32) ≤ s2 then (kx s1 s2) else (Option.bind (f_X6_isThere s2 h) fun v1 => Option.bind (if v1 = 0 then (some (0 : Int32)) else (Option.bind (ald 89 h 2 ((81 : Int32) + s2)) fun v6 => Option.bind (f_X6_openFrom v6 h) fun v7 => if v7 = 0 then (some ((1 : Int32) <<< (s2 &&& 31))) else (some (0 : Int32)))) fun t3 => Option.bind (some (s1 ||| t3)) fun v4 => Option.bind (some (s2 + (1 : Int32))) fun v5 => f_X6_shutIn_l4 h kx n v4 v5)
def f_X6_shutIn  (h : Hp) : Option Int32 := f_X6_shutIn_l4 h (fun (w8 : Int32) (w9 : Int32) => some w8) FU (0 : Int32) (0 : Int32)
def f_X6_wearOf_l4 {R : Type}  (h : Hp) (kx : Int32 → Int32 → Option R) : Nat → Int32 → Int32 → Option R
  | 0, _, _ => none
  | n + 1, s1, s2 => if (81 : Int32) ≤ s2 then (kx s1 s2) else (Option.bind (ald 89 h 2 s2) fun v1 => Option.bind (f_X6_in v1 (0 : Int32) (9 : Int32)) fun v2 => Option.bind (if v2 = 0 then (some (0 : Int32)) else (Option.bind (ald 89 h 2 s2) fun v7 => some v7)) fun t4 => Option.bind (some (s1 + t4)) fun v5 => Option.bind (some (s2 + (1 : Int32))) fun v6 => f_X6_wearOf_l4 h kx n v5 v6)
def f_X6_wearOf  (h : Hp) : Option Int32 := f_X6_wearOf_l4 h (fun (w8 : Int32) (w9 : Int32) => some (w8 / (2 : Int32))) FU (0 : Int32) (0 : Int32)
def f_X6_goDays_l11 (kx : Int32 → Hp → Option (Int32 × Hp)) : Nat → Int32 → Hp → Option (Int32 × Hp)
  | 0, _, _ => none
  | n + 1, s1, h => if (h.1 0 5) ≤ s1 then (kx s1 h) else (Option.bind (ald 60 h 4 s1) fun v3 => Option.bind (if v3 = (46 : Int32) then (Option.bind (f_X6_endDay  h) fun t41 => Option.bind (some (ip t41.2 0 9 t41.1)) fun h42 => Option.bind (some (s1 + (1 : Int32))) fun v43 => some (v43, h42)) else (if v3 = (109 : Int32) then (Option.bind (ald 60 h 4 (s1 + (1 : Int32))) fun v36 => Option.bind (ald 60 h 4 (s1 + (2 : Int32))) fun v37 => Option.bind (f_X6_bring (v36 - (97 : Int32)) (v37 - (97 : Int32)) h) fun t38 => Option.bind (some (ip t38.2 0 9 t38.1)) fun h39 => Option.bind (some (s1 + (3 : Int32))) fun v40 => some (v40, h39)) else (if v3 = (112 : Int32) then (Option.bind (ald 60 h 4 (s1 + (1 : Int32))) fun v29 => Option.bind (ald 60 h 4 (s1 + (2 : Int32))) fun v30 => Option.bind (ald 60 h 4 (s1 + (3 : Int32))) fun v31 => Option.bind (ald 60 h 4 (s1 + (4 : Int32))) fun v32 => Option.bind (f_X6_patch (v29 - (97 : Int32)) (v30 - (97 : Int32)) (v31 - (97 : Int32)) (v32 - (97 : Int32)) h) fun t33 => Option.bind (some (ip t33.2 0 9 t33.1)) fun h34 => Option.bind (some (s1 + (5 : Int32))) fun v35 => some (v35, h34)) else (Option.bind (some (v3 - (65 : Int32))) fun v7 => Option.bind (ald 60 h 4 (s1 + (1 : Int32))) fun v8 => Option.bind (some (v8 - (97 : Int32))) fun v9 => Option.bind (ald 89 h 2 ((81 : Int32) + v7)) fun v10 => Option.bind (ald 60 h 4 (s1 + (1 : Int32))) fun v11 => Option.bind (if v11 = (94 : Int32) then (some (0 : Int32)) else (some (1 : Int32))) fun t13 => Option.bind (if t13 = 0 then (Option.bind (f_X6_shoe v7 h) fun t27 => some (t27.1, t27.2)) else (Option.bind (f_X6_walk v7 v9 h) fun t28 => some (t28.1, t28.2))) fun t15 => Option.bind (some (ip t15.2 0 9 t15.1)) fun h16 => if t13 = 0 then (Option.bind (some (s1 + (2 : Int32))) fun v17 => some (v17, h16)) else (if (h16.1 0 9) = 0 then (Option.bind (ald 89 h16 2 (((9 : Int32) * v10) + v9)) fun v19 => if v19 = (9 : Int32) then (if 0 ≤ (h16.1 0 7) then (Option.bind (some (s1 + (2 : Int32))) fun v21 => some (v21, h16)) else (Option.bind (some (ip h16 0 7 (h16.1 0 10))) fun h22 => if v9 ≤ v10 then (Option.bind (some (ip h22 0 8 (((10 : Int32) * v9) + v10))) fun h23 => Option.bind (some (s1 + (2 : Int32))) fun v24 => some (v24, h23)) else (Option.bind (some (ip h22 0 8 (((10 : Int32) * v10) + v9))) fun h25 => Option.bind (some (s1 + (2 : Int32))) fun v26 => some (v26, h25)))) else (Option.bind (some (s1 + (2 : Int32))) fun v20 => some (v20, h16))) else (Option.bind (some (s1 + (2 : Int32))) fun v18 => some (v18, h16))))))) fun t5 => if (t5.2.1 0 9) ≤ 0 then (Option.bind (some (ip t5.2 0 10 ((t5.2.1 0 10) + (1 : Int32)))) fun h6 => f_X6_goDays_l11 kx n t5.1 h6) else (some ((t5.2.1 0 10), t5.2)))
def f_X6_goDays  (h : Hp) : Option (Int32 × Hp) := Option.bind (f_X6_asNow  h) fun h1 => Option.bind (some (ip h1 0 10 (0 : Int32))) fun h2 => f_X6_goDays_l11 (fun (w44 : Int32) (h45 : Hp) => some ((-6 : Int32), h45)) FU (0 : Int32) h2
def f_X6_judge (x1 : Int32) (h : Hp) : Option (Int32 × Hp) := Option.bind (f_X6_in x1 (0 : Int32) (1 : Int32)) fun v1 => if v1 = 0 then (some ((-2 : Int32), h)) else (Option.bind (f_X6_faultOf  h) fun v2 => if v2 < 0 then (Option.bind (f_X6_goDays  h) fun t3 => if t3.1 < 0 then (some (t3.1, t3.2)) else (if x1 = 0 then (some (t3.1, t3.2)) else (some ((t3.2.1 0 9), t3.2)))) else (some ((-5 : Int32), h)))
def f_X6_barOfDays  (h : Hp) : Option (Int32 × Hp) := Option.bind (f_X6_faultOf  h) fun v1 => if 0 ≤ v1 then (some ((-5 : Int32), h)) else (Option.bind (f_X6_goDays  h) fun t2 => if t2.1 < 0 then (some ((0 : Int32), t2.2)) else (some ((-5 : Int32), t2.2)))
def f_X6_done_l12 {R : Type} (kx : Int32 → Hp → Option R) : Nat → Int32 → Hp → Option R
  | 0, _, _ => none
  | n + 1, s1, h => if (89 : Int32) ≤ s1 then (kx s1 h) else (Option.bind (ald 89 h 2 s1) fun v2 => Option.bind (ast 89 h 1 s1 v2) fun h3 => Option.bind (some (s1 + (1 : Int32))) fun v4 => f_X6_done_l12 kx n v4 h3)
def f_X6_done  (h : Hp) : Option (Int32 × Hp) := Option.bind (f_X6_barOfDays  h) fun t1 => if 0 ≤ t1.1 then (f_X6_done_l12 (fun (w5 : Int32) (h6 : Hp) => Option.bind (some (ip h6 0 5 (0 : Int32))) fun h7 => some ((h7.1 0 10), h7)) FU (0 : Int32) t1.2) else (some ((-5 : Int32), t1.2))
def f_X6_behind (x1 : Int32) (x2 : Int32) (h : Hp) : Option (Int32 × Hp) := Option.bind (f_X6_isPlace x1) fun v1 => if v1 = 0 then (some ((-1 : Int32), h)) else (Option.bind (f_X6_isPlace x2) fun v2 => if v2 = 0 then (some ((-1 : Int32), h)) else (if x1 = x2 then (some ((-1 : Int32), h)) else (Option.bind (f_X6_barOfDays  h) fun t3 => if 0 ≤ t3.1 then (Option.bind (ald 89 t3.2 2 (((9 : Int32) * x1) + x2)) fun v4 => some (v4, t3.2)) else (some ((-5 : Int32), t3.2)))))
def f_X6_goes (x1 : Int32) (x2 : Int32) (h : Hp) : Option (Int32 × Hp) := Option.bind (f_X6_isThere x1 h) fun v1 => if v1 = 0 then (some ((-1 : Int32), h)) else (Option.bind (f_X6_in x2 (0 : Int32) (1 : Int32)) fun v2 => if v2 = 0 then (some ((-2 : Int32), h)) else (Option.bind (f_X6_barOfDays  h) fun t3 => if 0 ≤ t3.1 then (if x2 = 0 then (Option.bind (ald 89 t3.2 2 ((81 : Int32) + x1)) fun v5 => some (v5, t3.2)) else (Option.bind (ald 89 t3.2 2 (87 : Int32)) fun v4 => some (((v4 >>> (x1 &&& 31)) &&& (1 : Int32)), t3.2))) else (some ((-5 : Int32), t3.2))))
def f_X6_then (x1 : Int32) (h : Hp) : Option (Int32 × Hp) := Option.bind (f_X6_in x1 (0 : Int32) (5 : Int32)) fun v1 => if v1 = 0 then (some ((-2 : Int32), h)) else (Option.bind (f_X6_barOfDays  h) fun t2 => if 0 ≤ t2.1 then (if x1 = (0 : Int32) then (Option.bind (f_X6_roadsOf  t2.2) fun v6 => some (v6, t2.2)) else (if x1 = (1 : Int32) then (Option.bind (f_X6_wearOf  t2.2) fun v5 => some (v5, t2.2)) else (if x1 = (2 : Int32) then (Option.bind (f_X6_shutIn  t2.2) fun v4 => some (v4, t2.2)) else (if x1 = (3 : Int32) then (Option.bind (ald 89 t2.2 2 (88 : Int32)) fun v3 => some (v3, t2.2)) else (if x1 = (4 : Int32) then (some ((t2.2.1 0 7), t2.2)) else (some ((t2.2.1 0 8), t2.2))))))) else (some ((-5 : Int32), t2.2)))
def f_X6_way_l35 {R : Type} (s1 : Int32) (s2 : Int32) (s3 : Int32) (kx : Int32 → Hp → Option R) : Nat → Int32 → Hp → Option R
  | 0, _, _ => none
  | n + 1, s4, h => if (9 : Int32) ≤ s4 then (kx s4 h) else (Option.bind (if s4 = s1 then (some (0 : Int32)) else (some (1000000 : Int32))) fun t6 => Option.bind (ast 9 h 5 s4 t6) fun h7 => Option.bind (some (s4 + (1 : Int32))) fun v8 => f_X6_way_l35 s1 s2 s3 kx n v8 h7)
def f_X6_way_l90 {R : Type} (s2 : Int32) (s3 : Int32) (s4 : Int32) (s5 : Int32) (kx : Int32 → Hp → Option R) : Nat → Int32 → Hp → Option R
  | 0, _, _ => none
  | n + 1, s6, h => if (9 : Int32) ≤ s6 then (kx s6 h) else (Option.bind (f_X6_isOpen s5 s6 h) fun v11 => Option.bind (if v11 = 0 then (some (1000000 : Int32)) else (Option.bind (ald 9 h 5 s5) fun v20 => if s3 = 0 then (some (v20 + (1 : Int32))) else (Option.bind (ald 89 h 2 (((9 : Int32) * s5) + s6)) fun v21 => some (v20 + v21)))) fun t13 => Option.bind (ald 9 h 5 s6) fun v14 => Option.bind (if v14 ≤ t13 then (Option.bind (ald 9 h 5 s6) fun v19 => some v19) else (some t13)) fun t16 => Option.bind (ast 9 h 5 s6 t16) fun h17 => Option.bind (some (s6 + (1 : Int32))) fun v18 => f_X6_way_l90 s2 s3 s4 s5 kx n v18 h17)
def f_X6_way_l80 {R : Type} (s2 : Int32) (s3 : Int32) (s4 : Int32) (kx : Int32 → Hp → Option R) : Nat → Int32 → Hp → Option R
  | 0, _, _ => none
  | n + 1, s5, h => if (9 : Int32) ≤ s5 then (kx s5 h) else (f_X6_way_l90 s2 s3 s4 s5 (fun (w22 : Int32) (h23 : Hp) => Option.bind (some (s5 + (1 : Int32))) fun v24 => f_X6_way_l80 s2 s3 s4 kx n v24 h23) FU (0 : Int32) h)
def f_X6_way_l70 {R : Type} (s2 : Int32) (s3 : Int32) (kx : Int32 → Hp → Option R) : Nat → Int32 → Hp → Option R
  | 0, _, _ => none
  | n + 1, s4, h => if (9 : Int32) ≤ s4 then (kx s4 h) else (f_X6_way_l80 s2 s3 s4 (fun (w25 : Int32) (h26 : Hp) => Option.bind (some (s4 + (1 : Int32))) fun v27 => f_X6_way_l70 s2 s3 kx n v27 h26) FU (0 : Int32) h)
def f_X6_way (x1 : Int32) (x2 : Int32) (x3 : Int32) (h : Hp) : Option (Int32 × Hp) := Option.bind (f_X6_isPlace x1) fun v1 => if v1 = 0 then (some ((-1 : Int32), h)) else (Option.bind (f_X6_isPlace x2) fun v2 => if v2 = 0 then (some ((-1 : Int32), h)) else (Option.bind (f_X6_in x3 (0 : Int32) (1 : Int32)) fun v3 => if v3 = 0 then (some ((-2 : Int32), h)) else (Option.bind (f_X6_asNow  h) fun h4 => f_X6_way_l35 x1 x2 x3 (fun (w9 : Int32) (h10 : Hp) => f_X6_way_l70 x2 x3 (fun (w28 : Int32) (h29 : Hp) => Option.bind (ald 9 h29 5 x2) fun v30 => if (1000000 : Int32) ≤ v30 then (some ((-6 : Int32), h29)) else (Option.bind (ald 9 h29 5 x2) fun v31 => some (v31, h29))) FU (0 : Int32) h10) FU (0 : Int32) h4)))
def f_X6_partOf_l16 {R : Type} (s3 : Int32) (h : Hp) (kx : Int32 → Int32 → Option R) : Nat → Int32 → Int32 → Option R
  | 0, _, _ => none
  | n + 1, s2, s4 => if (9 : Int32) ≤ s4 then (kx s2 s4) else (Option.bind (f_X6_has s3 s4) fun v2 => Option.bind (if v2 = 0 then (some (0 : Int32)) else (Option.bind (f_X6_openFrom s4 h) fun v7 => some v7)) fun t4 => Option.bind (some (s2 ||| t4)) fun v5 => Option.bind (some (s4 + (1 : Int32))) fun v6 => f_X6_partOf_l16 s3 h kx n v5 v6)
def f_X6_partOf_l6 {R : Type}  (h : Hp) (kx : Int32 → Int32 → Option R) : Nat → Int32 → Int32 → Option R
  | 0, _, _ => none
  | n + 1, s2, s3 => if s2 = s3 then (kx s2 s3) else (f_X6_partOf_l16 s2 h (fun (w8 : Int32) (w9 : Int32) => f_X6_partOf_l6 h kx n w8 s2) FU s2 (0 : Int32))
def f_X6_partOf (x1 : Int32) (h : Hp) : Option Int32 := Option.bind (some ((1 : Int32) <<< (x1 &&& 31))) fun v1 => f_X6_partOf_l6 h (fun (w10 : Int32) (w11 : Int32) => some w10) FU v1 (0 : Int32)
def f_X6_parts_l25 {R : Type} (s1 : Int32) (kx : Int32 → Int32 → Int32 → Hp → Option R) : Nat → Int32 → Int32 → Int32 → Hp → Option R
  | 0, _, _, _, _ => none
  | n + 1, s2, s3, s4, h => if s4 < 0 then (kx s2 s3 s4 h) else (Option.bind (some (s4 / (9 : Int32))) fun v3 => Option.bind (some (irem s4 (9 : Int32))) fun v4 => if v4 ≤ v3 then (Option.bind (some (s4 + (-1 : Int32))) fun v5 => f_X6_parts_l25 s1 kx n s2 s3 v5 h) else (Option.bind (f_X6_isOpen v3 v4 h) fun v6 => if v6 = 0 then (Option.bind (some (s4 + (-1 : Int32))) fun v7 => f_X6_parts_l25 s1 kx n s2 s3 v7 h) else (Option.bind (ald 89 h 2 s4) fun v8 => Option.bind (f_X6_lay v3 v4 (-6 : Int32) h) fun h9 => Option.bind (f_X6_partOf v3 h9) fun v10 => Option.bind (f_X6_has v10 v4) fun v11 => Option.bind (if v11 = 0 then (some (1 : Int32)) else (some (0 : Int32))) fun t13 => Option.bind (f_X6_lay v3 v4 v8 h9) fun h14 => Option.bind (if t13 = 0 then (some (0 : Int32)) else (some (1 : Int32))) fun t16 => Option.bind (some (s2 + t16)) fun v17 => Option.bind (if t13 = 0 then (some s3) else (some (((10 : Int32) * v3) + v4))) fun t19 => Option.bind (some (s4 + (-1 : Int32))) fun v20 => f_X6_parts_l25 s1 kx n v17 t19 v20 h14)))
def f_X6_parts (x1 : Int32) (h : Hp) : Option (Int32 × Hp) := Option.bind (f_X6_in x1 (0 : Int32) (1 : Int32)) fun v1 => if v1 = 0 then (some ((-2 : Int32), h)) else (Option.bind (f_X6_asNow  h) fun h2 => f_X6_parts_l25 x1 (fun (w21 : Int32) (w22 : Int32) (w23 : Int32) (h24 : Hp) => if x1 = 0 then (some (w21, h24)) else (some (w22, h24))) FU (0 : Int32) (-6 : Int32) (80 : Int32) h2)
def f_X6_strokes_l37 {R : Type} (s1 : Int32) (s2 : Int32) (s3 : Int32) (s4 : Int32) (h : Hp) (kx : Int32 → Int32 → Option R) : Nat → Int32 → Int32 → Option R
  | 0, _, _ => none
  | n + 1, s5, s6 => if (9 : Int32) ≤ s6 then (kx s5 s6) else (Option.bind (f_X6_has s4 s6) fun v5 => Option.bind (if v5 = 0 then (some (0 : Int32)) else (Option.bind (f_X6_openFrom s6 h) fun v10 => Option.bind (f_X6_bits v10) fun v11 => some (irem v11 (2 : Int32)))) fun t7 => Option.bind (some (s5 + t7)) fun v8 => Option.bind (some (s6 + (1 : Int32))) fun v9 => f_X6_strokes_l37 s1 s2 s3 s4 h kx n v8 v9)
def f_X6_strokes_l10 {R : Type}  (h : Hp) (kx : Int32 → Int32 → Int32 → Option R) : Nat → Int32 → Int32 → Int32 → Option R
  | 0, _, _, _ => none
  | n + 1, s1, s2, s3 => if (9 : Int32) ≤ s3 then (kx s1 s2 s3) else (Option.bind (f_X6_has s2 s3) fun v2 => if v2 = 0 then (Option.bind (f_X6_partOf s3 h) fun v4 => f_X6_strokes_l37 s1 s2 s3 v4 h (fun (w12 : Int32) (w13 : Int32) => Option.bind (some (s2 ||| v4)) fun v14 => Option.bind (f_X6_bits v4) fun v15 => Option.bind (if v15 = (1 : Int32) then (some (0 : Int32)) else (if w12 = 0 then (some (1 : Int32)) else (some (w12 / (2 : Int32))))) fun t17 => Option.bind (some (s1 + t17)) fun v18 => Option.bind (some (s3 + (1 : Int32))) fun v19 => f_X6_strokes_l10 h kx n v18 v14 v19) FU (0 : Int32) (0 : Int32)) else (Option.bind (some (s3 + (1 : Int32))) fun v3 => f_X6_strokes_l10 h kx n s1 s2 v3))
def f_X6_strokes  (h : Hp) : Option (Int32 × Hp) := Option.bind (f_X6_asNow  h) fun h1 => f_X6_strokes_l10 h1 (fun (w20 : Int32) (w21 : Int32) (w22 : Int32) => some (w20, h1)) FU (0 : Int32) (0 : Int32) (0 : Int32)
def f_X6_mended_l36 {R : Type} (s2 : Int32) (s3 : Int32) (kx : Int32 → Int32 → Int32 → Hp → Option R) : Nat → Int32 → Int32 → Int32 → Hp → Option R
  | 0, _, _, _, _ => none
  | n + 1, s4, s5, s6, h => if s2 ≤ s6 then (kx s4 s5 s6 h) else (if s4 = 0 then (kx s4 s5 s6 h) else (Option.bind (ast 9 h 6 s6 (irem s5 (10 : Int32))) fun h4 => Option.bind (ald 9 h4 6 s6) fun v5 => Option.bind (if v5 ≤ 0 then (some (0 : Int32)) else (some (1 : Int32))) fun t7 => Option.bind (some (s5 / (10 : Int32))) fun v8 => Option.bind (some (s6 + (1 : Int32))) fun v9 => f_X6_mended_l36 s2 s3 kx n t7 v8 v9 h4))
def f_X6_mended_l108 {R : Type} (s2 : Int32) (s3 : Int32) (kx : Int32 → Int32 → Option R) : Nat → Int32 → Int32 → Option R
  | 0, _, _ => none
  | n + 1, s6, s7 => if s2 ≤ s7 then (kx s6 s7) else (Option.bind (some (s6 * s3)) fun v14 => Option.bind (some (s7 + (1 : Int32))) fun v15 => f_X6_mended_l108 s2 s3 kx n v14 v15)
def f_X6_mended_l150 {R : Type} (s2 : Int32) (s3 : Int32) (s6 : Int32) (s7 : Int32) (s8 : Int32) (s9 : Int32) (s10 : Int32) (kx : Int32 → Hp → Option R) : Nat → Int32 → Hp → Option R
  | 0, _, _ => none
  | n + 1, s11, h => if (4 : Int32) ≤ s11 then (kx s11 h) else (Option.bind (ast 4 h 7 s11 (0 : Int32)) fun h18 => Option.bind (some (s11 + (1 : Int32))) fun v19 => f_X6_mended_l150 s2 s3 s6 s7 s8 s9 s10 kx n v19 h18)
def f_X6_mended_l173 {R : Type} (s2 : Int32) (s3 : Int32) (s6 : Int32) (s7 : Int32) (s8 : Int32) (kx : Int32 → Int32 → Int32 → Hp → Option R) : Nat → Int32 → Int32 → Int32 → Hp → Option R
  | 0, _, _, _, _ => none
  | n + 1, s9, s10, s11, h => if s2 ≤ s11 then (kx s9 s10 s11 h) else (Option.bind (irm s9 s3) fun v22 => Option.bind (ald 4 h 7 v22) fun v23 => Option.bind (ald 9 h 6 s11) fun v24 => Option.bind (ast 4 h 7 v22 (v23 + v24)) fun h25 => Option.bind (irm s9 s3) fun v26 => Option.bind (ald 4 h25 7 v26) fun v27 => Option.bind (if v27 ≤ s10 then (some s10) else (Option.bind (irm s9 s3) fun v32 => Option.bind (ald 4 h25 7 v32) fun v33 => some v33)) fun t29 => Option.bind (idv s9 s3) fun v30 => Option.bind (some (s11 + (1 : Int32))) fun v31 => f_X6_mended_l173 s2 s3 s6 s7 s8 kx n v30 t29 v31 h25)
def f_X6_mended_l133 {R : Type} (s2 : Int32) (s3 : Int32) (s6 : Int32) (kx : Int32 → Int32 → Hp → Option R) : Nat → Int32 → Int32 → Hp → Option R
  | 0, _, _, _ => none
  | n + 1, s7, s8, h => if s6 ≤ s8 then (kx s7 s8 h) else (f_X6_mended_l150 s2 s3 s6 s7 s8 s8 (0 : Int32) (fun (w20 : Int32) (h21 : Hp) => f_X6_mended_l173 s2 s3 s6 s7 s8 (fun (w35 : Int32) (w34 : Int32) (w36 : Int32) (h37 : Hp) => Option.bind (if s7 ≤ w34 then (some s7) else (some w34)) fun t39 => Option.bind (some (s8 + (1 : Int32))) fun v40 => f_X6_mended_l133 s2 s3 s6 kx n t39 v40 h37) FU s8 (0 : Int32) (0 : Int32) h21) FU (0 : Int32) h)
def f_X6_mended (x1 : Int32) (x2 : Int32) (x3 : Int32) (h : Hp) : Option (Int32 × Hp) := Option.bind (f_X6_in x2 (1 : Int32) (8 : Int32)) fun v1 => Option.bind (if v1 = 0 then (some (0 : Int32)) else (if x1 ≤ 0 then (some (0 : Int32)) else (Option.bind (f_X6_in x3 (1 : Int32) (4 : Int32)) fun v44 => if v44 = 0 then (some (0 : Int32)) else (some (1 : Int32))))) fun t3 => f_X6_mended_l36 x2 x3 (fun (w10 : Int32) (w11 : Int32) (w12 : Int32) (h13 : Hp) => if w10 = 0 then (some ((-2 : Int32), h13)) else (if w11 = 0 then (f_X6_mended_l108 x2 x3 (fun (w16 : Int32) (w17 : Int32) => f_X6_mended_l133 x2 x3 w16 (fun (w41 : Int32) (w42 : Int32) (h43 : Hp) => some (w41, h43)) FU (1000000 : Int32) (0 : Int32) h13) FU (1 : Int32) (0 : Int32)) else (some ((-2 : Int32), h13)))) FU t3 x1 (0 : Int32) h
def f_X6_lowest_l6 {R : Type} (s0 : Int64) (s2 : Int64) (s4 : Int32) (kx : Int64 → Int64 → Option R) : Nat → Int64 → Int64 → Option R
  | 0, _, _ => none
  | n + 1, s5, s7 => if (lg_cmp s7 (0 : Int64)) = 0 then (kx s5 s7) else (Option.bind (lrm s5 s7) fun v1 => f_X6_lowest_l6 s0 s2 s4 kx n s7 v1)
def f_X6_lowest (x1 : Int64) (x2 : Int64) (x3 : Int32) : Option Int64 := f_X6_lowest_l6 x1 x2 x3 (fun (w2 : Int64) (w3 : Int64) => if x3 = 0 then (Option.bind (ldv x1 w2) fun v5 => some v5) else (Option.bind (ldv x2 w2) fun v4 => some v4)) FU x1 x2
def f_X6_pays_l47 {R : Type} (s2 : Int32) (s3 : Int32) (s4 : Int32) (kx : Int32 → Int32 → Hp → Option R) : Nat → Int32 → Int32 → Hp → Option R
  | 0, _, _, _ => none
  | n + 1, s5, s6, h => if s6 < 0 then (kx s5 s6 h) else (Option.bind (ast 9 h 6 s6 (irem s5 (10 : Int32))) fun h5 => Option.bind (some (s5 / (10 : Int32))) fun v6 => Option.bind (some (s6 + (-1 : Int32))) fun v7 => f_X6_pays_l47 s2 s3 s4 kx n v6 v7 h5)
def f_X6_pays_l109 {R : Type} (s2 : Int32) (s3 : Int32) (s4 : Int32) (s6 : Int64) (s8 : Int32) (h : Hp) (kx : Int32 → Int32 → Option R) : Nat → Int32 → Int32 → Option R
  | 0, _, _ => none
  | n + 1, s9, s10 => if s2 ≤ s10 then (kx s9 s10) else (Option.bind (ald 9 h 6 s10) fun v12 => Option.bind (if v12 < s8 then (some (0 : Int32)) else (some (1 : Int32))) fun t14 => Option.bind (some (s9 + t14)) fun v15 => Option.bind (some (s10 + (1 : Int32))) fun v16 => f_X6_pays_l109 s2 s3 s4 s6 s8 h kx n v15 v16)
def f_X6_pays_l92 {R : Type} (s2 : Int32) (s3 : Int32) (s4 : Int32) (h : Hp) (kx : Int64 → Int32 → Option R) : Nat → Int64 → Int32 → Option R
  | 0, _, _ => none
  | n + 1, s6, s8 => Option.bind (ald 9 h 6 s3) fun v11 => if v11 < s8 then (kx s6 s8) else (f_X6_pays_l109 s2 s3 s4 s6 s8 h (fun (w17 : Int32) (w18 : Int32) => Option.bind (idv (2520 : Int32) w17) fun v19 => Option.bind (some (s6 + (v19).toInt64)) fun v20 => Option.bind (some (s8 + (1 : Int32))) fun v21 => f_X6_pays_l92 s2 s3 s4 h kx n v20 v21) FU (0 : Int32) (0 : Int32))
def f_X6_pays (x1 : Int32) (x2 : Int32) (x3 : Int32) (x4 : Int32) (h : Hp) : Option (Int64 × Hp) := Option.bind (f_X6_in x2 (1 : Int32) (9 : Int32)) fun v1 => if v1 = 0 then (some ((-1000000000000000002 : Int64), h)) else (if x1 < 0 then (some ((-1000000000000000002 : Int64), h)) else (Option.bind (f_X6_in x3 (0 : Int32) (x2 - (1 : Int32))) fun v2 => if v2 = 0 then (some ((-1000000000000000002 : Int64), h)) else (Option.bind (f_X6_in x4 (0 : Int32) (1 : Int32)) fun v3 => if v3 = 0 then (some ((-1000000000000000002 : Int64), h)) else (Option.bind (some (x2 - (1 : Int32))) fun v4 => f_X6_pays_l47 x2 x3 x4 (fun (w8 : Int32) (w9 : Int32) (h10 : Hp) => if w8 = 0 then (f_X6_pays_l92 x2 x3 x4 h10 (fun (w22 : Int64) (w23 : Int32) => Option.bind (f_X6_lowest w22 (2520 : Int64) x4) fun v24 => some (v24, h10)) FU (0 : Int64) (1 : Int32)) else (some ((-1000000000000000002 : Int64), h10))) FU x1 v4 h))))
def f_X6_seen (x1 : Int32) (x2 : Int32) (x3 : Int32) (h : Hp) : Option (Int32 × Hp) := Option.bind (f_X6_in x2 (0 : Int32) (20 : Int32)) fun v1 => if v1 = 0 then (some ((-2 : Int32), h)) else (Option.bind (f_X6_in x3 (0 : Int32) (9999 : Int32)) fun v2 => if v2 = 0 then (some ((-2 : Int32), h)) else (if (h.1 0 3) = (8 : Int32) then (some ((-4 : Int32), h)) else (Option.bind (if x1 = 0 then (some (0 : Int32)) else (some (1 : Int32))) fun t4 => Option.bind (ast 24 h 3 ((3 : Int32) * (h.1 0 3)) t4) fun h5 => Option.bind (ast 24 h5 3 (((3 : Int32) * (h5.1 0 3)) + (1 : Int32)) x2) fun h6 => Option.bind (ast 24 h6 3 (((3 : Int32) * (h6.1 0 3)) + (2 : Int32)) x3) fun h7 => Option.bind (some (ip h7 0 3 ((h7.1 0 3) + (1 : Int32)))) fun h8 => some ((h8.1 0 3), h8))))
def f_X6_forget  (h : Hp) : Option (Int32 × Hp) := Option.bind (some (h.1 0 3)) fun v1 => Option.bind (some (ip h 0 3 (0 : Int32))) fun h2 => some (v1, h2)
def f_X6_tellOf (x1 : Int32) (x2 : Int32) (x3 : Int32) : Option Int32 := Option.bind (some (irem (x1 / (10 : Int32)) (10 : Int32))) fun v1 => Option.bind (some (irem x1 (10 : Int32))) fun v2 => if x2 = (1 : Int32) then (some (x3 * (v1 + v2))) else (some ((x1 / (100 : Int32)) + (x3 * (v1 + ((2 : Int32) * v2)))))
def f_X6_isFit_l4 {R : Type} (s1 : Int32) (h : Hp) (kx : Int32 → Int32 → Option R) : Nat → Int32 → Int32 → Option R
  | 0, _, _ => none
  | n + 1, s2, s3 => if (h.1 0 3) ≤ s3 then (kx s2 s3) else (if s2 = 0 then (kx s2 s3) else (Option.bind (ald 24 h 3 ((3 : Int32) * s3)) fun v1 => Option.bind (ald 24 h 3 (((3 : Int32) * s3) + (1 : Int32))) fun v2 => Option.bind (f_X6_tellOf s1 v1 v2) fun v3 => Option.bind (ald 24 h 3 (((3 : Int32) * s3) + (2 : Int32))) fun v4 => Option.bind (if v3 = v4 then (some (1 : Int32)) else (some (0 : Int32))) fun t6 => Option.bind (some (s3 + (1 : Int32))) fun v7 => f_X6_isFit_l4 s1 h kx n t6 v7))
def f_X6_isFit (x1 : Int32) (h : Hp) : Option Int32 := f_X6_isFit_l4 x1 h (fun (w8 : Int32) (w9 : Int32) => Option.bind (zck w8) fun v10 => some v10) FU (1 : Int32) (0 : Int32)
def f_X6_who_l4 (s1 : Int32) (h : Hp) (kx : Int32 → Int32 → Option Int32) : Nat → Int32 → Int32 → Option Int32
  | 0, _, _ => none
  | n + 1, s2, s3 => if (1000 : Int32) ≤ s3 then (kx s2 s3) else (Option.bind (f_X6_isFit s3 h) fun v1 => if v1 = 0 then (Option.bind (some (s3 + (1 : Int32))) fun v2 => f_X6_who_l4 s1 h kx n s2 v2) else (if s2 = s1 then (some s3) else (Option.bind (some (s2 + (1 : Int32))) fun v3 => Option.bind (some (s3 + (1 : Int32))) fun v4 => f_X6_who_l4 s1 h kx n v3 v4)))
def f_X6_who (x1 : Int32) (h : Hp) : Option Int32 := f_X6_who_l4 x1 h (fun (w5 : Int32) (w6 : Int32) => if x1 = (-1 : Int32) then (some w5) else (some (-6 : Int32))) FU (0 : Int32) (0 : Int32)
def f_X6_ask_l16 {R : Type} (s1 : Int32) (kx : Int32 → Int32 → Hp → Option R) : Nat → Int32 → Int32 → Hp → Option R
  | 0, _, _, _ => none
  | n + 1, s2, s3, h => if (1000 : Int32) ≤ s3 then (kx s2 s3 h) else (Option.bind (f_X6_isFit s3 h) fun v2 => if v2 = 0 then (Option.bind (some (s3 + (1 : Int32))) fun v3 => f_X6_ask_l16 s1 kx n s2 v3 h) else (Option.bind (ast 1000 h 9 s2 s3) fun h4 => Option.bind (some (s2 + (1 : Int32))) fun v5 => Option.bind (some (s3 + (1 : Int32))) fun v6 => f_X6_ask_l16 s1 kx n v5 v6 h4))
def f_X6_ask_l74 {R : Type} (s1 : Int32) (s2 : Int32) (s3 : Int32) (s4 : Int32) (s5 : Int32) (s6 : Int32) (kx : Int32 → Hp → Option R) : Nat → Int32 → Hp → Option R
  | 0, _, _ => none
  | n + 1, s7, h => if (600 : Int32) ≤ s7 then (kx s7 h) else (Option.bind (ast 600 h 8 s7 (0 : Int32)) fun h10 => Option.bind (some (s7 + (1 : Int32))) fun v11 => f_X6_ask_l74 s1 s2 s3 s4 s5 s6 kx n v11 h10)
def f_X6_ask_l99 {R : Type} (s1 : Int32) (s2 : Int32) (s3 : Int32) (s4 : Int32) (s5 : Int32) (kx : Int32 → Int32 → Hp → Option R) : Nat → Int32 → Int32 → Hp → Option R
  | 0, _, _, _ => none
  | n + 1, s6, s7, h => if s2 ≤ s7 then (kx s6 s7 h) else (Option.bind (ald 1000 h 9 s7) fun v14 => Option.bind (f_X6_tellOf v14 (irem s5 (2 : Int32)) (s5 / (2 : Int32))) fun v15 => Option.bind (ald 600 h 8 v15) fun v16 => Option.bind (ast 600 h 8 v15 (v16 + (1 : Int32))) fun h17 => Option.bind (ald 600 h17 8 v15) fun v18 => Option.bind (if v18 ≤ s6 then (some s6) else (Option.bind (ald 600 h17 8 v15) fun v22 => some v22)) fun t20 => Option.bind (some (s7 + (1 : Int32))) fun v21 => f_X6_ask_l99 s1 s2 s3 s4 s5 kx n t20 v21 h17)
def f_X6_ask_l57 {R : Type} (s1 : Int32) (s2 : Int32) (kx : Int32 → Int32 → Int32 → Hp → Option R) : Nat → Int32 → Int32 → Int32 → Hp → Option R
  | 0, _, _, _, _ => none
  | n + 1, s3, s4, s5, h => if (42 : Int32) ≤ s5 then (kx s3 s4 s5 h) else (if s2 ≤ 0 then (kx s3 s4 s5 h) else (f_X6_ask_l74 s1 s2 s3 s4 s5 (0 : Int32) (fun (w12 : Int32) (h13 : Hp) => f_X6_ask_l99 s1 s2 s3 s4 s5 (fun (w23 : Int32) (w24 : Int32) (h25 : Hp) => Option.bind (if s4 ≤ w23 then (some s3) else (some (((s5 / (2 : Int32)) * (10 : Int32)) + (irem s5 (2 : Int32))))) fun t27 => Option.bind (if s4 ≤ w23 then (some s4) else (some w23)) fun t29 => Option.bind (some (s5 + (1 : Int32))) fun v30 => f_X6_ask_l57 s1 s2 kx n t27 t29 v30 h25) FU (0 : Int32) (0 : Int32) h13) FU (0 : Int32) h))
def f_X6_ask (x1 : Int32) (h : Hp) : Option (Int32 × Hp) := Option.bind (f_X6_in x1 (0 : Int32) (1 : Int32)) fun v1 => if v1 = 0 then (some ((-2 : Int32), h)) else (f_X6_ask_l16 x1 (fun (w7 : Int32) (w8 : Int32) (h9 : Hp) => f_X6_ask_l57 x1 w7 (fun (w31 : Int32) (w32 : Int32) (w33 : Int32) (h34 : Hp) => if w31 < 0 then (some (w31, h34)) else (if x1 = 0 then (some (w31, h34)) else (some (w32, h34)))) FU (-6 : Int32) (1000000 : Int32) (0 : Int32) h9) FU (0 : Int32) (0 : Int32) h)
def f_X6_tacks_l54 {R : Type} (s1 : Int32) (s2 : Int32) (s3 : Int32) (s5 : Int32) (h : Hp) (kx : Int32 → Int32 → Option R) : Nat → Int32 → Int32 → Option R
  | 0, _, _ => none
  | n + 1, s4, s6 => if s6 ≤ 0 then (kx s4 s6) else (Option.bind (f_X6_has s2 (s6 - (1 : Int32))) fun v4 => Option.bind (if v4 = 0 then (some s4) else (if s5 < s6 then (some s4) else (Option.bind (ald 100 h 10 (s5 - s6)) fun v8 => if v8 = 0 then (some s6) else (some s4)))) fun t6 => Option.bind (some (s6 + (-1 : Int32))) fun v7 => f_X6_tacks_l54 s1 s2 s3 s5 h kx n t6 v7)
def f_X6_tacks_l40 {R : Type} (s1 : Int32) (s2 : Int32) (s3 : Int32) (kx : Int32 → Int32 → Hp → Option R) : Nat → Int32 → Int32 → Hp → Option R
  | 0, _, _, _ => none
  | n + 1, s4, s5, h => if s1 < s5 then (kx s4 s5 h) else (f_X6_tacks_l54 s1 s2 s3 s5 h (fun (w9 : Int32) (w10 : Int32) => Option.bind (if w9 ≤ 0 then (some (0 : Int32)) else (some (1 : Int32))) fun t12 => Option.bind (zast 100 h 10 s5 t12) fun h13 => Option.bind (some (s5 + (1 : Int32))) fun v14 => f_X6_tacks_l40 s1 s2 s3 kx n w9 v14 h13) FU (-6 : Int32) (9 : Int32))
def f_X6_tacks (x1 : Int32) (x2 : Int32) (x3 : Int32) (h : Hp) : Option (Int32 × Hp) := Option.bind (f_X6_in x1 (0 : Int32) (99 : Int32)) fun v1 => if v1 = 0 then (some ((-2 : Int32), h)) else (Option.bind (f_X6_in x2 (1 : Int32) (511 : Int32)) fun v2 => if v2 = 0 then (some ((-2 : Int32), h)) else (Option.bind (f_X6_in x3 (0 : Int32) (1 : Int32)) fun v3 => if v3 = 0 then (some ((-2 : Int32), h)) else (f_X6_tacks_l40 x1 x2 x3 (fun (w15 : Int32) (w16 : Int32) (h17 : Hp) => if x3 = (1 : Int32) then (some (w15, h17)) else (if w15 ≤ 0 then (some ((0 : Int32), h17)) else (some ((1 : Int32), h17)))) FU (-6 : Int32) (0 : Int32) h)))
def f_X6_wet_l83 {R : Type} (s1 : Int32) (s2 : Int32) (s3 : Int32) (s5 : Int32) (s6 : Int64) (kx : Int32 → Hp → Option R) : Nat → Int32 → Hp → Option R
  | 0, _, _ => none
  | n + 1, s8, h => if (18 : Int32) ≤ s8 then (kx s8 h) else (Option.bind (if s8 = 0 then (some (1 : Int64)) else (some (0 : Int64))) fun t7 => Option.bind (last 18 h 11 s8 t7) fun h8 => Option.bind (some (s8 + (1 : Int32))) fun v9 => f_X6_wet_l83 s1 s2 s3 s5 s6 kx n v9 h8)
def f_X6_wet_l134 {R : Type} (s1 : Int32) (s2 : Int32) (s3 : Int32) (s5 : Int32) (s6 : Int64) (s8 : Int32) (kx : Int32 → Hp → Option R) : Nat → Int32 → Hp → Option R
  | 0, _, _ => none
  | n + 1, s9, h => if s9 < 0 then (kx s9 h) else (Option.bind (lald 18 h 11 s9) fun v13 => Option.bind (if s9 ≤ 0 then (some (0 : Int64)) else (Option.bind (lald 18 h 11 (s9 - (1 : Int32))) fun v18 => some (v18 * (s2).toInt64))) fun t15 => Option.bind (last 18 h 11 s9 ((v13 * (((10 : Int32) - s2)).toInt64) + t15)) fun h16 => Option.bind (some (s9 + (-1 : Int32))) fun v17 => f_X6_wet_l134 s1 s2 s3 s5 s6 s8 kx n v17 h16)
def f_X6_wet_l116 {R : Type} (s1 : Int32) (s2 : Int32) (s3 : Int32) (s5 : Int32) (kx : Int64 → Int32 → Hp → Option R) : Nat → Int64 → Int32 → Hp → Option R
  | 0, _, _, _ => none
  | n + 1, s6, s8, h => if s1 ≤ s8 then (kx s6 s8 h) else (Option.bind (some (s6 * (10 : Int64))) fun v12 => f_X6_wet_l134 s1 s2 s3 s5 v12 s8 (fun (w19 : Int32) (h20 : Hp) => Option.bind (some (s8 + (1 : Int32))) fun v21 => f_X6_wet_l116 s1 s2 s3 s5 kx n v12 v21 h20) FU (17 : Int32) h)
def f_X6_wet_l199 {R : Type} (s1 : Int32) (s3 : Int32) (s5 : Int32) (s6 : Int64) (h : Hp) (kx : Int64 → Int32 → Option R) : Nat → Int64 → Int32 → Option R
  | 0, _, _ => none
  | n + 1, s8, s10 => if (18 : Int32) ≤ s10 then (kx s8 s10) else (Option.bind (if (s1 + s10) < s3 then (some (0 : Int64)) else (Option.bind (lald 18 h 11 s10) fun v29 => some v29)) fun t26 => Option.bind (some (s8 + t26)) fun v27 => Option.bind (some (s10 + (1 : Int32))) fun v28 => f_X6_wet_l199 s1 s3 s5 s6 h kx n v27 v28)
def f_X6_wet (x1 : Int32) (x2 : Int32) (x3 : Int32) (x4 : Int32) (x5 : Int32) (h : Hp) : Option (Int64 × Hp) := Option.bind (f_X6_in x1 (0 : Int32) (16 : Int32)) fun v1 => if v1 = 0 then (some ((-1000000000000000002 : Int64), h)) else (Option.bind (f_X6_in x2 (0 : Int32) (10 : Int32)) fun v2 => if v2 = 0 then (some ((-1000000000000000002 : Int64), h)) else (Option.bind (f_X6_in x3 (0 : Int32) (40 : Int32)) fun v3 => if v3 = 0 then (some ((-1000000000000000002 : Int64), h)) else (Option.bind (f_X6_in x4 (0 : Int32) (1 : Int32)) fun v4 => if v4 = 0 then (some ((-1000000000000000002 : Int64), h)) else (Option.bind (f_X6_in x5 (0 : Int32) (1 : Int32)) fun v5 => if v5 = 0 then (some ((-1000000000000000002 : Int64), h)) else (if x4 = (1 : Int32) then (Option.bind (f_X6_lowest ((x1).toInt64 * (((10 : Int32) + x2)).toInt64) (10 : Int64) x5) fun v33 => some (v33, h)) else (f_X6_wet_l83 x1 x2 x3 x5 (1 : Int64) (fun (w10 : Int32) (h11 : Hp) => f_X6_wet_l116 x1 x2 x3 x5 (fun (w22 : Int64) (w23 : Int32) (h24 : Hp) => f_X6_wet_l199 x1 x3 x5 w22 h24 (fun (w30 : Int64) (w31 : Int32) => Option.bind (f_X6_lowest w30 w22 x5) fun v32 => some (v32, h24)) FU (0 : Int64) (0 : Int32)) FU (1 : Int64) (0 : Int32) h11) FU (0 : Int32) h))))))
def f_X6_year_l43 {R : Type} (s2 : Int32) (s3 : Int32) (kx : Int32 → Int32 → Hp → Option R) : Nat → Int32 → Int32 → Hp → Option R
  | 0, _, _, _ => none
  | n + 1, s4, s5, h => if s2 ≤ s5 then (kx s4 s5 h) else (Option.bind (some (irem (((75 : Int32) * s4) + (74 : Int32)) (65537 : Int32))) fun v5 => Option.bind (some (irem (v5 / (6 : Int32)) (8 : Int32))) fun v6 => Option.bind (some (v5 / (48 : Int32))) fun v7 => if (5 : Int32) ≤ v6 then (if v6 = (5 : Int32) then (Option.bind (f_X6_shoe (irem v5 (6 : Int32)) h) fun t14 => Option.bind (some (ip t14.2 0 9 t14.1)) fun h15 => Option.bind (some (s5 + (1 : Int32))) fun v16 => f_X6_year_l43 s2 s3 kx n v5 v16 h15) else (Option.bind (if v6 = (6 : Int32) then (Option.bind (f_X6_bring (irem v7 (9 : Int32)) (irem (v7 / (9 : Int32)) (9 : Int32)) h) fun t13 => some (t13.1, t13.2)) else (Option.bind (f_X6_endDay  h) fun t12 => some (t12.1, t12.2))) fun t9 => Option.bind (some (ip t9.2 0 9 t9.1)) fun h10 => Option.bind (some (s5 + (1 : Int32))) fun v11 => f_X6_year_l43 s2 s3 kx n v5 v11 h10)) else (Option.bind (f_X6_walk (irem v5 (6 : Int32)) (irem v7 (9 : Int32)) h) fun t17 => Option.bind (some (ip t17.2 0 9 t17.1)) fun h18 => Option.bind (some (s5 + (1 : Int32))) fun v19 => f_X6_year_l43 s2 s3 kx n v5 v19 h18))
def f_X6_year_l175 {R : Type} (s3 : Int32) (h : Hp) (kx : Int32 → Int32 → Option R) : Nat → Int32 → Int32 → Option R
  | 0, _, _ => none
  | n + 1, s5, s6 => if (9 : Int32) ≤ s6 then (kx s5 s6) else (Option.bind (f_X6_openFrom s6 h) fun v23 => Option.bind (f_X6_bits v23) fun v24 => Option.bind (some (s5 + v24)) fun v25 => Option.bind (some (s6 + (1 : Int32))) fun v26 => f_X6_year_l175 s3 h kx n v25 v26)
def f_X6_year (x1 : Int32) (x2 : Int32) (x3 : Int32) (h : Hp) : Option (Int32 × Hp) := Option.bind (f_X6_in x1 (0 : Int32) (9999 : Int32)) fun v1 => if v1 = 0 then (some ((-2 : Int32), h)) else (Option.bind (f_X6_in x2 (1 : Int32) (99 : Int32)) fun v2 => if v2 = 0 then (some ((-2 : Int32), h)) else (Option.bind (f_X6_in x3 (0 : Int32) (2 : Int32)) fun v3 => if v3 = 0 then (some ((-2 : Int32), h)) else (Option.bind (f_X6_asNow  h) fun h4 => f_X6_year_l43 x2 x3 (fun (w20 : Int32) (w21 : Int32) (h22 : Hp) => f_X6_year_l175 x3 h22 (fun (w27 : Int32) (w28 : Int32) => if x3 = 0 then (Option.bind (f_X6_wearOf  h22) fun v31 => some (v31, h22)) else (if x3 = (1 : Int32) then (Option.bind (f_X6_shutIn  h22) fun v29 => Option.bind (f_X6_bits v29) fun v30 => some (v30, h22)) else (some ((w27 / (2 : Int32)), h22)))) FU (0 : Int32) (0 : Int32)) FU x1 (0 : Int32) h4)))
def f_X6_image_l19 {R : Type} (s1 : Int32) (s2 : Int32) (kx : Int32 → Hp → Option R) : Nat → Int32 → Hp → Option R
  | 0, _, _ => none
  | n + 1, s3, h => if (89 : Int32) ≤ s3 then (kx s3 h) else (Option.bind (ald 89 h 1 s3) fun v3 => Option.bind (ast 240 h 12 (s2 + s3) v3) fun h4 => Option.bind (some (s3 + (1 : Int32))) fun v5 => f_X6_image_l19 s1 s2 kx n v5 h4)
def f_X6_image_l47 {R : Type} (s1 : Int32) (s2 : Int32) (kx : Int32 → Hp → Option R) : Nat → Int32 → Hp → Option R
  | 0, _, _ => none
  | n + 1, s3, h => if (24 : Int32) ≤ s3 then (kx s3 h) else (Option.bind (ald 24 h 3 s3) fun v8 => Option.bind (ast 240 h 12 ((s2 + (89 : Int32)) + s3) v8) fun h9 => Option.bind (some (s3 + (1 : Int32))) fun v10 => f_X6_image_l47 s1 s2 kx n v10 h9)
def f_X6_image (x1 : Int32) (h : Hp) : Option (Int32 × Hp) := Option.bind (f_X6_in x1 (0 : Int32) (1 : Int32)) fun v1 => if v1 = 0 then (some ((-2 : Int32), h)) else (Option.bind (some ((120 : Int32) * x1)) fun v2 => f_X6_image_l19 x1 v2 (fun (w6 : Int32) (h7 : Hp) => f_X6_image_l47 x1 v2 (fun (w11 : Int32) (h12 : Hp) => Option.bind (ast 240 h12 12 (v2 + (115 : Int32)) (h12.1 0 2)) fun h13 => Option.bind (ast 240 h13 12 (v2 + (116 : Int32)) (h13.1 0 3)) fun h14 => Option.bind (zast 2 h14 13 x1 (1 : Int32)) fun h15 => some ((1 : Int32), h15)) FU (0 : Int32) h7) FU (0 : Int32) h)
def f_X6_restore_l31 {R : Type} (s2 : Int32) (kx : Int32 → Hp → Option R) : Nat → Int32 → Hp → Option R
  | 0, _, _ => none
  | n + 1, s3, h => if (89 : Int32) ≤ s3 then (kx s3 h) else (Option.bind (ald 240 h 12 (s2 + s3)) fun v4 => Option.bind (ast 89 h 1 s3 v4) fun h5 => Option.bind (some (s3 + (1 : Int32))) fun v6 => f_X6_restore_l31 s2 kx n v6 h5)
def f_X6_restore_l59 {R : Type} (s2 : Int32) (kx : Int32 → Hp → Option R) : Nat → Int32 → Hp → Option R
  | 0, _, _ => none
  | n + 1, s3, h => if (24 : Int32) ≤ s3 then (kx s3 h) else (Option.bind (ald 240 h 12 ((s2 + (89 : Int32)) + s3)) fun v9 => Option.bind (ast 24 h 3 s3 v9) fun h10 => Option.bind (some (s3 + (1 : Int32))) fun v11 => f_X6_restore_l59 s2 kx n v11 h10)
def f_X6_restore (x1 : Int32) (h : Hp) : Option (Int32 × Hp) := Option.bind (f_X6_in x1 (0 : Int32) (1 : Int32)) fun v1 => if v1 = 0 then (some ((-2 : Int32), h)) else (Option.bind (ald 2 h 13 x1) fun v2 => if v2 = 0 then (some ((-3 : Int32), h)) else (Option.bind (some ((120 : Int32) * x1)) fun v3 => f_X6_restore_l31 v3 (fun (w7 : Int32) (h8 : Hp) => f_X6_restore_l59 v3 (fun (w12 : Int32) (h13 : Hp) => Option.bind (ald 240 h13 12 (v3 + (115 : Int32))) fun v14 => Option.bind (some (ip h13 0 2 v14)) fun h15 => Option.bind (ald 240 h15 12 (v3 + (116 : Int32))) fun v16 => Option.bind (some (ip h15 0 3 v16)) fun h17 => some ((1 : Int32), h17)) FU (0 : Int32) h8) FU (0 : Int32) h))
def f_X6_told (x1 : Int32) (h : Hp) : Option (Int32 × Hp) := if x1 < (100 : Int32) then (Option.bind (f_X6_asNow  h) fun h1 => if x1 < (30 : Int32) then (if x1 < (10 : Int32) then (if x1 = (0 : Int32) then (some ((h1.1 0 5), h1)) else (if x1 = (1 : Int32) then (some ((h1.1 0 2), h1)) else (if x1 = (2 : Int32) then (Option.bind (ald 89 h1 1 (88 : Int32)) fun v2 => some (v2, h1)) else (if x1 = (3 : Int32) then (some ((h1.1 0 3), h1)) else (some ((-2 : Int32), h1)))))) else (Option.bind (some (irem x1 (10 : Int32))) fun v3 => Option.bind (f_X6_isThere v3 h1) fun v4 => if v4 = 0 then (some ((-2 : Int32), h1)) else (if (20 : Int32) ≤ x1 then (Option.bind (ald 89 h1 1 (87 : Int32)) fun v5 => some (((v5 >>> (v3 &&& 31)) &&& (1 : Int32)), h1)) else (Option.bind (ald 89 h1 1 ((81 : Int32) + v3)) fun v6 => some (v6, h1))))) else (Option.bind (f_X6_in x1 (30 : Int32) (38 : Int32)) fun v7 => if v7 = 0 then (some ((-2 : Int32), h1)) else (Option.bind (f_X6_openFrom (x1 - (30 : Int32)) h1) fun v8 => some (v8, h1)))) else (Option.bind (some ((x1 / (10 : Int32)) - (10 : Int32))) fun v9 => Option.bind (f_X6_isPlace v9) fun v10 => if v10 = 0 then (some ((-2 : Int32), h)) else (Option.bind (f_X6_isPlace (irem x1 (10 : Int32))) fun v11 => if v11 = 0 then (some ((-2 : Int32), h)) else (Option.bind (ald 89 h 1 (((9 : Int32) * v9) + (irem x1 (10 : Int32)))) fun v12 => some (v12, h))))
end
section
theorem sw_out3_0 {x : Int32} (c0 : ¬ x = (0 : Int32)) (c1 : ¬ x = (1 : Int32)) (c2 : ¬ x = (2 : Int32)) : x.toInt < 0 ∨ 2 < x.toInt := by
  have e0 : x.toInt ≠ 0 := fun e => c0 (Int32.toInt_inj.mp (e.trans (by decide)))
  have e1 : x.toInt ≠ 1 := fun e => c1 (Int32.toInt_inj.mp (e.trans (by decide)))
  have e2 : x.toInt ≠ 2 := fun e => c2 (Int32.toInt_inj.mp (e.trans (by decide)))
  omega
theorem sw_out4_0 {x : Int32} (c0 : ¬ x = (0 : Int32)) (c1 : ¬ x = (1 : Int32)) (c2 : ¬ x = (2 : Int32)) (c3 : ¬ x = (3 : Int32)) : x.toInt < 0 ∨ 3 < x.toInt := by
  have e0 : x.toInt ≠ 0 := fun e => c0 (Int32.toInt_inj.mp (e.trans (by decide)))
  have e1 : x.toInt ≠ 1 := fun e => c1 (Int32.toInt_inj.mp (e.trans (by decide)))
  have e2 : x.toInt ≠ 2 := fun e => c2 (Int32.toInt_inj.mp (e.trans (by decide)))
  have e3 : x.toInt ≠ 3 := fun e => c3 (Int32.toInt_inj.mp (e.trans (by decide)))
  omega
theorem sw_out5_0 {x : Int32} (c0 : ¬ x = (0 : Int32)) (c1 : ¬ x = (1 : Int32)) (c2 : ¬ x = (2 : Int32)) (c3 : ¬ x = (3 : Int32)) (c4 : ¬ x = (4 : Int32)) : x.toInt < 0 ∨ 4 < x.toInt := by
  have e0 : x.toInt ≠ 0 := fun e => c0 (Int32.toInt_inj.mp (e.trans (by decide)))
  have e1 : x.toInt ≠ 1 := fun e => c1 (Int32.toInt_inj.mp (e.trans (by decide)))
  have e2 : x.toInt ≠ 2 := fun e => c2 (Int32.toInt_inj.mp (e.trans (by decide)))
  have e3 : x.toInt ≠ 3 := fun e => c3 (Int32.toInt_inj.mp (e.trans (by decide)))
  have e4 : x.toInt ≠ 4 := fun e => c4 (Int32.toInt_inj.mp (e.trans (by decide)))
  omega
theorem sw_lk_0_1 {x : Int32} {a b d : Int} (c0 : ¬ x = (0 : Int32)) (c1 : ¬ x = (1 : Int32)) : Op.lookupswitch.offset [(0, a), (1, b)] d x.toInt = d := by
  have e0 : x.toInt ≠ 0 := fun e => c0 (Int32.toInt_inj.mp (e.trans (by decide)))
  have e1 : x.toInt ≠ 1 := fun e => c1 (Int32.toInt_inj.mp (e.trans (by decide)))
  simp only [Op.lookupswitch.offset]
  simp [e0, e1, Ne.symm e0, Ne.symm e1]
section CERT
variable {p : Program} {l : Launch} {e : Env} {s : State} {m : MethodId} {args : Array Value} {below : List Frame} {meth : Method} {c : Code} {Z : State → Prop} {o : Om} {emb : Hp → va_W} {A : Nat → Prop} {H0 : Heap}
theorem hd_X5_put : yX5_put.cls ≠ "java/lang/invoke/MethodHandle" ∧ yX5_put.cls ≠ "java/lang/invoke/VarHandle" ∧ (parseMethodDescriptor yX5_put.desc).map (fun d => d.parameters.length) = some 3 := by decide +kernel
set_option maxHeartbeats 4000000 in
set_option maxRecDepth 100000 in
theorem c_X5_put (l : Launch) (o : Om) (emb : Hp → va_W) (A : Nat → Prop) (hA : ∀ h : Hp, va_D A (emb h)) (r1 n1 : Nat) (hE1 : EI o emb r1 n1) (x2 : Int32) (x3 : Int32) (h : Hp)  (h' : Hp) (hf : f_X5_put r1 n1 x2 x3 h = some h') : Ct l o emb A yX5_put cX5_put 3 none 0 0 [.ref (o.1 r1), .int x2, .int x3] h none h' := by
  refine Ct.of RX5 rfl (by decide +kernel) hA (Nat.le_of_ble_eq_true rfl) (fun p e s m args below meth c X => ?_)
  refine J_sub (lo' := [(0, .ref (o.1 r1)), (1, .int x2), (2, .int x3)]) [0, 1, 2] rfl ?_
  rw [f_X5_put] at hf
  refine J_iload_n X 1 dX5_put_0 rfl rfl ?_
  refine J_if_lt (tgt := 14) X dX5_put_1 (by decide) (fun c1 => ?_) (fun c1 => ?_)
  · rw [if_pos c1] at hf
    cases hf
    exact J_vret X dX5_put_14
  · rw [if_neg c1] at hf
    refine J_iload_n X 1 dX5_put_4 rfl rfl ?_
    refine J_aload_n X 0 dX5_put_5 rfl rfl ?_
    refine J_alenI X hE1 (Int32.ofNat n1) (rfl) dX5_put_6 ?_
    refine J_icmp_ge (tgt := 14) X dX5_put_7 (by decide) (fun c7 => ?_) (fun c7 => ?_)
    · rw [if_pos c7] at hf
      cases hf
      exact J_vret X dX5_put_14
    · rw [if_neg c7] at hf
      refine J_aload_n X 0 dX5_put_10 rfl rfl ?_
      refine J_iload_n X 1 dX5_put_11 rfl rfl ?_
      refine J_iload_n X 2 dX5_put_12 rfl rfl ?_
      obtain ⟨h1, qh1, hf⟩ := ob hf
      refine J_iast X hE1 (ast_s qh1).1 dX5_put_13 ?_
      refine J_hp h1 (ast_s qh1).2 ?_
      cases hf
      exact J_vret X dX5_put_14
theorem hd_X5_at : yX5_at.cls ≠ "java/lang/invoke/MethodHandle" ∧ yX5_at.cls ≠ "java/lang/invoke/VarHandle" ∧ (parseMethodDescriptor yX5_at.desc).map (fun d => d.parameters.length) = some 2 := by decide +kernel
set_option maxHeartbeats 4000000 in
set_option maxRecDepth 100000 in
theorem c_X5_at (l : Launch) (o : Om) (emb : Hp → va_W) (A : Nat → Prop) (hA : ∀ h : Hp, va_D A (emb h)) (r1 n1 : Nat) (hE1 : EI o emb r1 n1) (x2 : Int32) (h : Hp) (r : Int32) (hf : f_X5_at r1 n1 x2 h = some r) : Ct l o emb A yX5_at cX5_at 2 (some .int) 0 0 [.ref (o.1 r1), .int x2] h (some (.int r)) h := by
  refine Ct.of RX5 rfl (by decide +kernel) hA (Nat.le_of_ble_eq_true rfl) (fun p e s m args below meth c X => ?_)
  refine J_sub (lo' := [(0, .ref (o.1 r1)), (1, .int x2)]) [0, 1] rfl ?_
  rw [f_X5_at] at hf
  refine J_iload_n X 1 dX5_at_0 rfl rfl ?_
  refine J_if_lt (tgt := 16) X dX5_at_1 (by decide) (fun c1 => ?_) (fun c1 => ?_)
  · rw [if_pos c1] at hf
    refine J_const X (0 : Int32) dX5_at_16 (by decide) ?_
    cases hf
    exact J_iret X dX5_at_17
  · rw [if_neg c1] at hf
    refine J_iload_n X 1 dX5_at_4 rfl rfl ?_
    refine J_aload_n X 0 dX5_at_5 rfl rfl ?_
    refine J_alenI X hE1 (Int32.ofNat n1) (rfl) dX5_at_6 ?_
    refine J_icmp_ge (tgt := 16) X dX5_at_7 (by decide) (fun c7 => ?_) (fun c7 => ?_)
    · rw [if_pos c7] at hf
      refine J_const X (0 : Int32) dX5_at_16 (by decide) ?_
      cases hf
      exact J_iret X dX5_at_17
    · rw [if_neg c7] at hf
      refine J_aload_n X 0 dX5_at_10 rfl rfl ?_
      refine J_iload_n X 1 dX5_at_11 rfl rfl ?_
      obtain ⟨v1, qv1, hf⟩ := ob hf
      refine J_iald X hE1 (ald_s qv1).1 dX5_at_12 ?_
      refine J_topi v1 (ald_s qv1).2 ?_
      refine J_goto (tgt := 17) X dX5_at_13 (by decide) ?_
      cases hf
      exact J_iret X dX5_at_17
theorem hd_X5_isWalker : yX5_isWalker.cls ≠ "java/lang/invoke/MethodHandle" ∧ yX5_isWalker.cls ≠ "java/lang/invoke/VarHandle" ∧ (parseMethodDescriptor yX5_isWalker.desc).map (fun d => d.parameters.length) = some 1 := by decide +kernel
set_option maxHeartbeats 4000000 in
set_option maxRecDepth 100000 in
theorem c_X5_isWalker (l : Launch) (o : Om) (emb : Hp → va_W) (A : Nat → Prop) (hA : ∀ h : Hp, va_D A (emb h)) (x1 : Int32) (h : Hp) (r : Int32) (hf : f_X5_isWalker x1 = some r) : Ct l o emb A yX5_isWalker cX5_isWalker 1 (some .boolean) 0 0 [.int x1] h (some (.int r)) h := by
  refine Ct.of RX5 rfl (by decide +kernel) hA (Nat.le_of_ble_eq_true rfl) (fun p e s m args below meth c X => ?_)
  refine J_sub (lo' := [(0, .int x1)]) [0] rfl ?_
  rw [f_X5_isWalker] at hf
  refine J_iload_n X 0 dX5_isWalker_0 rfl rfl ?_
  refine J_if_lt (tgt := 14) X dX5_isWalker_1 (by decide) (fun c1 => ?_) (fun c1 => ?_)
  · rw [if_pos c1] at hf
    refine J_const X (0 : Int32) dX5_isWalker_14 (by decide) ?_
    cases hf
    exact J_zret X rfl dX5_isWalker_15
  · rw [if_neg c1] at hf
    refine J_iload_n X 0 dX5_isWalker_4 rfl rfl ?_
    refine J_bipush X (6 : Int32) dX5_isWalker_5 (by decide) ?_
    refine J_icmp_ge (tgt := 14) X dX5_isWalker_7 (by decide) (fun c7 => ?_) (fun c7 => ?_)
    · rw [if_pos c7] at hf
      refine J_const X (0 : Int32) dX5_isWalker_14 (by decide) ?_
      cases hf
      exact J_zret X rfl dX5_isWalker_15
    · rw [if_neg c7] at hf
      refine J_const X (1 : Int32) dX5_isWalker_10 (by decide) ?_
      refine J_goto (tgt := 15) X dX5_isWalker_11 (by decide) ?_
      cases hf
      exact J_zret X rfl dX5_isWalker_15
theorem hd_X5_isPlace : yX5_isPlace.cls ≠ "java/lang/invoke/MethodHandle" ∧ yX5_isPlace.cls ≠ "java/lang/invoke/VarHandle" ∧ (parseMethodDescriptor yX5_isPlace.desc).map (fun d => d.parameters.length) = some 1 := by decide +kernel
set_option maxHeartbeats 4000000 in
set_option maxRecDepth 100000 in
theorem c_X5_isPlace (l : Launch) (o : Om) (emb : Hp → va_W) (A : Nat → Prop) (hA : ∀ h : Hp, va_D A (emb h)) (x1 : Int32) (h : Hp) (r : Int32) (hf : f_X5_isPlace x1 = some r) : Ct l o emb A yX5_isPlace cX5_isPlace 1 (some .boolean) 0 0 [.int x1] h (some (.int r)) h := by
  refine Ct.of RX5 rfl (by decide +kernel) hA (Nat.le_of_ble_eq_true rfl) (fun p e s m args below meth c X => ?_)
  refine J_sub (lo' := [(0, .int x1)]) [0] rfl ?_
  rw [f_X5_isPlace] at hf
  refine J_iload_n X 0 dX5_isPlace_0 rfl rfl ?_
  refine J_if_lt (tgt := 14) X dX5_isPlace_1 (by decide) (fun c1 => ?_) (fun c1 => ?_)
  · rw [if_pos c1] at hf
    refine J_const X (0 : Int32) dX5_isPlace_14 (by decide) ?_
    cases hf
    exact J_zret X rfl dX5_isPlace_15
  · rw [if_neg c1] at hf
    refine J_iload_n X 0 dX5_isPlace_4 rfl rfl ?_
    refine J_bipush X (9 : Int32) dX5_isPlace_5 (by decide) ?_
    refine J_icmp_ge (tgt := 14) X dX5_isPlace_7 (by decide) (fun c7 => ?_) (fun c7 => ?_)
    · rw [if_pos c7] at hf
      refine J_const X (0 : Int32) dX5_isPlace_14 (by decide) ?_
      cases hf
      exact J_zret X rfl dX5_isPlace_15
    · rw [if_neg c7] at hf
      refine J_const X (1 : Int32) dX5_isPlace_10 (by decide) ?_
      refine J_goto (tgt := 15) X dX5_isPlace_11 (by decide) ?_
      cases hf
      exact J_zret X rfl dX5_isPlace_15
theorem hd_X5_copy : yX5_copy.cls ≠ "java/lang/invoke/MethodHandle" ∧ yX5_copy.cls ≠ "java/lang/invoke/VarHandle" ∧ (parseMethodDescriptor yX5_copy.desc).map (fun d => d.parameters.length) = some 2 := by decide +kernel
set_option maxHeartbeats 4000000 in
set_option maxRecDepth 100000 in
theorem cf_X5_copy_l2 {R : Type} (hA : ∀ h : Hp, va_D A (emb h)) (X : Cx p s m args meth c RX5 cX5_copy 3 none o) (r1 n1 : Nat) (r2 n2 : Nat) (hE1 : EI o emb r1 n1) (hE2 : EI o emb r2 n2)  {kx : Int32 → Hp → Option R} (t : R) : ∀ (n : Nat) (s2 : Int32) (h : Hp), f_X5_copy_l2 r1 n1 r2 n2 kx n s2 h = some t → (∀ (s2 : Int32) (h : Hp), kx s2 h = some t → J p l e (rmf 0 0) s m args below meth c 0 0 Z o emb A H0 3 26 [] [] h) → J p l e (rmf 0 0) s m args below meth c 0 0 Z o emb A H0 3 2 [(0, .ref (o.1 r1)), (1, .ref (o.1 r2)), (2, .int s2)] [] h := by
  intro n
  induction n with
  | zero =>
    intro s2 h hf hk
    cases hf
  | succ n ih =>
    intro s2 h hf hk
    rw [f_X5_copy_l2] at hf
    refine J_iload_n X 2 dX5_copy_2 rfl rfl ?_
    refine J_aload_n X 1 dX5_copy_3 rfl rfl ?_
    refine J_alenI X hE2 (Int32.ofNat n2) (rfl) dX5_copy_4 ?_
    refine J_icmp_ge (tgt := 26) X dX5_copy_5 (by decide) (fun c5 => ?_) (fun c5 => ?_)
    · rw [if_pos c5] at hf
      exact J_sub [] rfl (hk s2 h hf)
    · rw [if_neg c5] at hf
      refine J_iload_n X 2 dX5_copy_8 rfl rfl ?_
      refine J_aload_n X 0 dX5_copy_9 rfl rfl ?_
      refine J_alenI X hE1 (Int32.ofNat n1) (rfl) dX5_copy_10 ?_
      refine J_icmp_ge (tgt := 26) X dX5_copy_11 (by decide) (fun c11 => ?_) (fun c11 => ?_)
      · rw [if_pos c11] at hf
        exact J_sub [] rfl (hk s2 h hf)
      · rw [if_neg c11] at hf
        refine J_aload_n X 1 dX5_copy_14 rfl rfl ?_
        refine J_iload_n X 2 dX5_copy_15 rfl rfl ?_
        refine J_aload_n X 0 dX5_copy_16 rfl rfl ?_
        refine J_iload_n X 2 dX5_copy_17 rfl rfl ?_
        obtain ⟨v1, qv1, hf⟩ := ob hf
        refine J_iald X hE1 (ald_s qv1).1 dX5_copy_18 ?_
        refine J_topi v1 (ald_s qv1).2 ?_
        obtain ⟨h2, qh2, hf⟩ := ob hf
        refine J_iast X hE2 (ast_s qh2).1 dX5_copy_19 ?_
        refine J_hp h2 (ast_s qh2).2 ?_
        obtain ⟨v3, qv3, hf⟩ := ob hf
        refine J_iinc X 2 [(2, .int v3), (0, .ref (o.1 r1)), (1, .ref (o.1 r2))] dX5_copy_20 rfl (Option.some.inj qv3) (Nat.le_of_ble_eq_true rfl) rfl ?_
        refine J_goto (tgt := 2) X dX5_copy_23 (by decide) ?_
        exact J_sub [1, 2, 0] rfl (ih v3 h2 hf hk)
set_option maxHeartbeats 4000000 in
set_option maxRecDepth 100000 in
theorem c_X5_copy (l : Launch) (o : Om) (emb : Hp → va_W) (A : Nat → Prop) (hA : ∀ h : Hp, va_D A (emb h)) (r1 n1 : Nat) (r2 n2 : Nat) (hE1 : EI o emb r1 n1) (hE2 : EI o emb r2 n2) (h : Hp)  (h' : Hp) (hf : f_X5_copy r1 n1 r2 n2 h = some h') : Ct l o emb A yX5_copy cX5_copy 3 none 0 0 [.ref (o.1 r1), .ref (o.1 r2)] h none h' := by
  refine Ct.of RX5 rfl (by decide +kernel) hA (Nat.le_of_ble_eq_true rfl) (fun p e s m args below meth c X => ?_)
  refine J_sub (lo' := [(0, .ref (o.1 r1)), (1, .ref (o.1 r2))]) [0, 1] rfl ?_
  rw [f_X5_copy] at hf
  refine J_const X (0 : Int32) dX5_copy_0 (by decide) ?_
  refine J_istore_n X [(2, .int (0 : Int32)), (0, .ref (o.1 r1)), (1, .ref (o.1 r2))] dX5_copy_1 rfl (Nat.le_of_ble_eq_true rfl) rfl ?_
  refine J_sub (lo' := [(0, .ref (o.1 r1)), (1, .ref (o.1 r2)), (2, .int (0 : Int32))]) [1, 2, 0] rfl ?_
  refine cf_X5_copy_l2 hA X r1 n1 r2 n2 hE1 hE2  _ _ (0 : Int32) h hf (fun w4 h5 hf => ?_)
  cases hf
  exact J_vret X dX5_copy_26
theorem hd_X5_areTwoPlaces : yX5_areTwoPlaces.cls ≠ "java/lang/invoke/MethodHandle" ∧ yX5_areTwoPlaces.cls ≠ "java/lang/invoke/VarHandle" ∧ (parseMethodDescriptor yX5_areTwoPlaces.desc).map (fun d => d.parameters.length) = some 2 := by decide +kernel
set_option maxHeartbeats 4000000 in
set_option maxRecDepth 100000 in
theorem c_X5_areTwoPlaces (l : Launch) (o : Om) (emb : Hp → va_W) (A : Nat → Prop) (hA : ∀ h : Hp, va_D A (emb h)) (x1 : Int32) (x2 : Int32) (h : Hp) (r : Int32) (hf : f_X5_areTwoPlaces x1 x2 = some r) : Ct l o emb A yX5_areTwoPlaces cX5_areTwoPlaces 2 (some .boolean) 0 0 [.int x1, .int x2] h (some (.int r)) h := by
  refine Ct.of RX5 rfl (by decide +kernel) hA (Nat.le_of_ble_eq_true rfl) (fun p e s m args below meth c X => ?_)
  refine J_sub (lo' := [(0, .int x1), (1, .int x2)]) [0, 1] rfl ?_
  rw [f_X5_areTwoPlaces] at hf
  refine J_iload_n X 0 dX5_areTwoPlaces_0 rfl rfl ?_
  refine J_if_lt (tgt := 29) X dX5_areTwoPlaces_1 (by decide) (fun c1 => ?_) (fun c1 => ?_)
  · rw [if_pos c1] at hf
    refine J_const X (0 : Int32) dX5_areTwoPlaces_29 (by decide) ?_
    cases hf
    exact J_zret X rfl dX5_areTwoPlaces_30
  · rw [if_neg c1] at hf
    refine J_iload_n X 0 dX5_areTwoPlaces_4 rfl rfl ?_
    refine J_bipush X (9 : Int32) dX5_areTwoPlaces_5 (by decide) ?_
    refine J_icmp_ge (tgt := 29) X dX5_areTwoPlaces_7 (by decide) (fun c7 => ?_) (fun c7 => ?_)
    · rw [if_pos c7] at hf
      refine J_const X (0 : Int32) dX5_areTwoPlaces_29 (by decide) ?_
      cases hf
      exact J_zret X rfl dX5_areTwoPlaces_30
    · rw [if_neg c7] at hf
      refine J_iload_n X 1 dX5_areTwoPlaces_10 rfl rfl ?_
      refine J_if_lt (tgt := 29) X dX5_areTwoPlaces_11 (by decide) (fun c11 => ?_) (fun c11 => ?_)
      · rw [if_pos c11] at hf
        refine J_const X (0 : Int32) dX5_areTwoPlaces_29 (by decide) ?_
        cases hf
        exact J_zret X rfl dX5_areTwoPlaces_30
      · rw [if_neg c11] at hf
        refine J_iload_n X 1 dX5_areTwoPlaces_14 rfl rfl ?_
        refine J_bipush X (9 : Int32) dX5_areTwoPlaces_15 (by decide) ?_
        refine J_icmp_ge (tgt := 29) X dX5_areTwoPlaces_17 (by decide) (fun c17 => ?_) (fun c17 => ?_)
        · rw [if_pos c17] at hf
          refine J_const X (0 : Int32) dX5_areTwoPlaces_29 (by decide) ?_
          cases hf
          exact J_zret X rfl dX5_areTwoPlaces_30
        · rw [if_neg c17] at hf
          refine J_iload_n X 0 dX5_areTwoPlaces_20 rfl rfl ?_
          refine J_iload_n X 1 dX5_areTwoPlaces_21 rfl rfl ?_
          refine J_icmp_eq (tgt := 29) X dX5_areTwoPlaces_22 (by decide) (fun c22 => ?_) (fun c22 => ?_)
          · rw [if_pos c22] at hf
            refine J_const X (0 : Int32) dX5_areTwoPlaces_29 (by decide) ?_
            cases hf
            exact J_zret X rfl dX5_areTwoPlaces_30
          · rw [if_neg c22] at hf
            refine J_const X (1 : Int32) dX5_areTwoPlaces_25 (by decide) ?_
            refine J_goto (tgt := 30) X dX5_areTwoPlaces_26 (by decide) ?_
            cases hf
            exact J_zret X rfl dX5_areTwoPlaces_30
theorem hd_X5_within : yX5_within.cls ≠ "java/lang/invoke/MethodHandle" ∧ yX5_within.cls ≠ "java/lang/invoke/VarHandle" ∧ (parseMethodDescriptor yX5_within.desc).map (fun d => d.parameters.length) = some 3 := by decide +kernel
set_option maxHeartbeats 4000000 in
set_option maxRecDepth 100000 in
theorem c_X5_within (l : Launch) (o : Om) (emb : Hp → va_W) (A : Nat → Prop) (hA : ∀ h : Hp, va_D A (emb h)) (x1 : Int32) (x2 : Int32) (x3 : Int32) (h : Hp) (r : Int32) (hf : f_X5_within x1 x2 x3 = some r) : Ct l o emb A yX5_within cX5_within 3 (some .boolean) 0 0 [.int x1, .int x2, .int x3] h (some (.int r)) h := by
  refine Ct.of RX5 rfl (by decide +kernel) hA (Nat.le_of_ble_eq_true rfl) (fun p e s m args below meth c X => ?_)
  refine J_sub (lo' := [(0, .int x1), (1, .int x2), (2, .int x3)]) [0, 1, 2] rfl ?_
  rw [f_X5_within] at hf
  refine J_iload_n X 0 dX5_within_0 rfl rfl ?_
  refine J_iload_n X 1 dX5_within_1 rfl rfl ?_
  refine J_icmp_lt (tgt := 14) X dX5_within_2 (by decide) (fun c2 => ?_) (fun c2 => ?_)
  · rw [if_pos c2] at hf
    refine J_const X (0 : Int32) dX5_within_14 (by decide) ?_
    cases hf
    exact J_zret X rfl dX5_within_15
  · rw [if_neg c2] at hf
    refine J_iload_n X 0 dX5_within_5 rfl rfl ?_
    refine J_iload_n X 2 dX5_within_6 rfl rfl ?_
    refine J_icmp_gt (tgt := 14) X dX5_within_7 (by decide) (fun c7 => ?_) (fun c7 => ?_)
    · rw [if_pos c7] at hf
      refine J_const X (0 : Int32) dX5_within_14 (by decide) ?_
      cases hf
      exact J_zret X rfl dX5_within_15
    · rw [if_neg c7] at hf
      refine J_const X (1 : Int32) dX5_within_10 (by decide) ?_
      refine J_goto (tgt := 15) X dX5_within_11 (by decide) ?_
      cases hf
      exact J_zret X rfl dX5_within_15
theorem hd_J6_bitCount_0f7a4 : yJ6_bitCount_0f7a4.cls ≠ "java/lang/invoke/MethodHandle" ∧ yJ6_bitCount_0f7a4.cls ≠ "java/lang/invoke/VarHandle" ∧ (parseMethodDescriptor yJ6_bitCount_0f7a4.desc).map (fun d => d.parameters.length) = some 1 := by decide +kernel
set_option maxHeartbeats 4000000 in
set_option maxRecDepth 100000 in
theorem c_J6_bitCount_0f7a4 (l : Launch) (o : Om) (emb : Hp → va_W) (A : Nat → Prop) (hA : ∀ h : Hp, va_D A (emb h)) (x1 : Int32) (h : Hp) (r : Int32) (hf : f_J6_bitCount_0f7a4 x1 = some r) : Ct l o emb A yJ6_bitCount_0f7a4 cJ6_bitCount_0f7a4 1 (some .int) 0 0 [.int x1] h (some (.int r)) h := by
  refine Ct.of RJ6 rfl (by decide +kernel) hA (Nat.le_of_ble_eq_true rfl) (fun p e s m args below meth c X => ?_)
  refine J_sub (lo' := [(0, .int x1)]) [0] rfl ?_
  rw [f_J6_bitCount_0f7a4] at hf
  refine J_iload_n X 0 dJ6_bitCount_0f7a4_0 rfl rfl ?_
  refine J_iload_n X 0 dJ6_bitCount_0f7a4_1 rfl rfl ?_
  refine J_const X (1 : Int32) dJ6_bitCount_0f7a4_2 (by decide) ?_
  refine J_iushr X dJ6_bitCount_0f7a4_3 ?_
  refine J_ldcw X wd_260 dJ6_bitCount_0f7a4_4 ?_
  refine J_iand X dJ6_bitCount_0f7a4_7 ?_
  refine J_isub X dJ6_bitCount_0f7a4_8 ?_
  obtain ⟨v1, qv1, hf⟩ := ob hf
  refine J_topi v1 (Option.some.inj qv1) ?_
  refine J_istore_n X [(0, .int v1)] dJ6_bitCount_0f7a4_9 rfl (Nat.le_of_ble_eq_true rfl) rfl ?_
  refine J_iload_n X 0 dJ6_bitCount_0f7a4_10 rfl rfl ?_
  refine J_ldcw X wd_261 dJ6_bitCount_0f7a4_11 ?_
  refine J_iand X dJ6_bitCount_0f7a4_14 ?_
  refine J_iload_n X 0 dJ6_bitCount_0f7a4_15 rfl rfl ?_
  refine J_const X (2 : Int32) dJ6_bitCount_0f7a4_16 (by decide) ?_
  refine J_iushr X dJ6_bitCount_0f7a4_17 ?_
  refine J_ldcw X wd_261 dJ6_bitCount_0f7a4_18 ?_
  refine J_iand X dJ6_bitCount_0f7a4_21 ?_
  refine J_iadd X dJ6_bitCount_0f7a4_22 ?_
  obtain ⟨v2, qv2, hf⟩ := ob hf
  refine J_topi v2 (Option.some.inj qv2) ?_
  refine J_istore_n X [(0, .int v2)] dJ6_bitCount_0f7a4_23 rfl (Nat.le_of_ble_eq_true rfl) rfl ?_
  refine J_iload_n X 0 dJ6_bitCount_0f7a4_24 rfl rfl ?_
  refine J_iload_n X 0 dJ6_bitCount_0f7a4_25 rfl rfl ?_
  refine J_const X (4 : Int32) dJ6_bitCount_0f7a4_26 (by decide) ?_
  refine J_iushr X dJ6_bitCount_0f7a4_27 ?_
  refine J_iadd X dJ6_bitCount_0f7a4_28 ?_
  refine J_ldcw X wd_262 dJ6_bitCount_0f7a4_29 ?_
  refine J_iand X dJ6_bitCount_0f7a4_32 ?_
  obtain ⟨v3, qv3, hf⟩ := ob hf
  refine J_topi v3 (Option.some.inj qv3) ?_
  refine J_istore_n X [(0, .int v3)] dJ6_bitCount_0f7a4_33 rfl (Nat.le_of_ble_eq_true rfl) rfl ?_
  refine J_iload_n X 0 dJ6_bitCount_0f7a4_34 rfl rfl ?_
  refine J_iload_n X 0 dJ6_bitCount_0f7a4_35 rfl rfl ?_
  refine J_bipush X (8 : Int32) dJ6_bitCount_0f7a4_36 (by decide) ?_
  refine J_iushr X dJ6_bitCount_0f7a4_38 ?_
  refine J_iadd X dJ6_bitCount_0f7a4_39 ?_
  obtain ⟨v4, qv4, hf⟩ := ob hf
  refine J_topi v4 (Option.some.inj qv4) ?_
  refine J_istore_n X [(0, .int v4)] dJ6_bitCount_0f7a4_40 rfl (Nat.le_of_ble_eq_true rfl) rfl ?_
  refine J_iload_n X 0 dJ6_bitCount_0f7a4_41 rfl rfl ?_
  refine J_iload_n X 0 dJ6_bitCount_0f7a4_42 rfl rfl ?_
  refine J_bipush X (16 : Int32) dJ6_bitCount_0f7a4_43 (by decide) ?_
  refine J_iushr X dJ6_bitCount_0f7a4_45 ?_
  refine J_iadd X dJ6_bitCount_0f7a4_46 ?_
  obtain ⟨v5, qv5, hf⟩ := ob hf
  refine J_topi v5 (Option.some.inj qv5) ?_
  refine J_istore_n X [(0, .int v5)] dJ6_bitCount_0f7a4_47 rfl (Nat.le_of_ble_eq_true rfl) rfl ?_
  refine J_iload_n X 0 dJ6_bitCount_0f7a4_48 rfl rfl ?_
  refine J_bipush X (63 : Int32) dJ6_bitCount_0f7a4_49 (by decide) ?_
  refine J_iand X dJ6_bitCount_0f7a4_51 ?_
  cases hf
  exact J_iret X dJ6_bitCount_0f7a4_52
theorem hd_X5_holds : yX5_holds.cls ≠ "java/lang/invoke/MethodHandle" ∧ yX5_holds.cls ≠ "java/lang/invoke/VarHandle" ∧ (parseMethodDescriptor yX5_holds.desc).map (fun d => d.parameters.length) = some 2 := by decide +kernel
set_option maxHeartbeats 4000000 in
set_option maxRecDepth 100000 in
theorem c_X5_holds (l : Launch) (o : Om) (emb : Hp → va_W) (A : Nat → Prop) (hA : ∀ h : Hp, va_D A (emb h)) (x1 : Int32) (x2 : Int32) (h : Hp) (r : Int32) (hf : f_X5_holds x1 x2 = some r) : Ct l o emb A yX5_holds cX5_holds 2 (some .boolean) 0 0 [.int x1, .int x2] h (some (.int r)) h := by
  refine Ct.of RX5 rfl (by decide +kernel) hA (Nat.le_of_ble_eq_true rfl) (fun p e s m args below meth c X => ?_)
  refine J_sub (lo' := [(0, .int x1), (1, .int x2)]) [0, 1] rfl ?_
  rw [f_X5_holds] at hf
  refine J_iload_n X 0 dX5_holds_0 rfl rfl ?_
  refine J_iload_n X 1 dX5_holds_1 rfl rfl ?_
  refine J_ishr X dX5_holds_2 ?_
  refine J_const X (1 : Int32) dX5_holds_3 (by decide) ?_
  refine J_iand X dX5_holds_4 ?_
  refine J_const X (1 : Int32) dX5_holds_5 (by decide) ?_
  refine J_icmp_ne (tgt := 13) X dX5_holds_6 (by decide) (fun c6 => ?_) (fun c6 => ?_)
  · rw [if_neg c6] at hf
    refine J_const X (0 : Int32) dX5_holds_13 (by decide) ?_
    cases hf
    exact J_zret X rfl dX5_holds_14
  · rw [if_pos c6] at hf
    refine J_const X (1 : Int32) dX5_holds_9 (by decide) ?_
    refine J_goto (tgt := 14) X dX5_holds_10 (by decide) ?_
    cases hf
    exact J_zret X rfl dX5_holds_14
theorem hd_X5_nameOfRoad : yX5_nameOfRoad.cls ≠ "java/lang/invoke/MethodHandle" ∧ yX5_nameOfRoad.cls ≠ "java/lang/invoke/VarHandle" ∧ (parseMethodDescriptor yX5_nameOfRoad.desc).map (fun d => d.parameters.length) = some 2 := by decide +kernel
set_option maxHeartbeats 4000000 in
set_option maxRecDepth 100000 in
theorem c_X5_nameOfRoad (l : Launch) (o : Om) (emb : Hp → va_W) (A : Nat → Prop) (hA : ∀ h : Hp, va_D A (emb h)) (x1 : Int32) (x2 : Int32) (h : Hp) (r : Int32) (hf : f_X5_nameOfRoad x1 x2 = some r) : Ct l o emb A yX5_nameOfRoad cX5_nameOfRoad 2 (some .int) 1 14 [.int x1, .int x2] h (some (.int r)) h := by
  refine Ct.of RX5 rfl (by decide +kernel) hA (Nat.le_of_ble_eq_true rfl) (fun p e s m args below meth c X => ?_)
  refine J_sub (lo' := [(0, .int x1), (1, .int x2)]) [0, 1] rfl ?_
  rw [f_X5_nameOfRoad] at hf
  refine J_bipush X (10 : Int32) dX5_nameOfRoad_0 (by decide) ?_
  refine J_iload_n X 0 dX5_nameOfRoad_2 rfl rfl ?_
  refine J_iload_n X 1 dX5_nameOfRoad_3 rfl rfl ?_
  refine J_mmin X wd_352 wd_353 wd_43 wd_354 ⟨Nat.le_of_ble_eq_true rfl, Nat.le_of_ble_eq_true rfl, Nat.zero_le _, Nat.zero_le _⟩ dX5_nameOfRoad_4 ?_
  refine J_imul X dX5_nameOfRoad_7 ?_
  refine J_iload_n X 0 dX5_nameOfRoad_8 rfl rfl ?_
  refine J_iload_n X 1 dX5_nameOfRoad_9 rfl rfl ?_
  refine J_mmax X wd_355 wd_356 wd_43 wd_357 ⟨Nat.le_of_ble_eq_true rfl, Nat.le_of_ble_eq_true rfl, Nat.zero_le _, Nat.zero_le _⟩ dX5_nameOfRoad_10 ?_
  refine J_iadd X dX5_nameOfRoad_13 ?_
  cases hf
  exact J_iret X dX5_nameOfRoad_14
theorem hd_X5_reading : yX5_reading.cls ≠ "java/lang/invoke/MethodHandle" ∧ yX5_reading.cls ≠ "java/lang/invoke/VarHandle" ∧ (parseMethodDescriptor yX5_reading.desc).map (fun d => d.parameters.length) = some 3 := by decide +kernel
set_option maxHeartbeats 4000000 in
set_option maxRecDepth 100000 in
theorem c_X5_reading (l : Launch) (o : Om) (emb : Hp → va_W) (A : Nat → Prop) (hA : ∀ h : Hp, va_D A (emb h)) (x1 : Int32) (x2 : Int32) (x3 : Int32) (h : Hp) (r : Int32) (hf : f_X5_reading x1 x2 x3 = some r) : Ct l o emb A yX5_reading cX5_reading 6 (some .int) 0 0 [.int x1, .int x2, .int x3] h (some (.int r)) h := by
  refine Ct.of RX5 rfl (by decide +kernel) hA (Nat.le_of_ble_eq_true rfl) (fun p e s m args below meth c X => ?_)
  refine J_sub (lo' := [(0, .int x1), (1, .int x2), (2, .int x3)]) [0, 1, 2] rfl ?_
  rw [f_X5_reading] at hf
  refine J_iload_n X 2 dX5_reading_0 rfl rfl ?_
  refine J_bipush X (100 : Int32) dX5_reading_1 (by decide) ?_
  refine J_idiv X dX5_reading_3 (by decide) ?_
  obtain ⟨v1, qv1, hf⟩ := ob hf
  refine J_topi v1 (Option.some.inj qv1) ?_
  refine J_istore_n X [(3, .int v1), (0, .int x1), (1, .int x2), (2, .int x3)] dX5_reading_4 rfl (Nat.le_of_ble_eq_true rfl) rfl ?_
  refine J_iload_n X 3 dX5_reading_5 rfl rfl ?_
  refine J_bipush X (10 : Int32) dX5_reading_6 (by decide) ?_
  refine J_idiv X dX5_reading_8 (by decide) ?_
  refine J_bipush X (10 : Int32) dX5_reading_9 (by decide) ?_
  refine J_irem X dX5_reading_11 (by decide) ?_
  obtain ⟨v2, qv2, hf⟩ := ob hf
  refine J_topi v2 (Option.some.inj qv2) ?_
  refine J_istore X [(4, .int v2), (3, .int v1), (0, .int x1), (1, .int x2), (2, .int x3)] dX5_reading_12 (Nat.le_of_ble_eq_true rfl) rfl ?_
  refine J_iload_n X 4 dX5_reading_14 rfl rfl ?_
  refine J_bipush X (10 : Int32) dX5_reading_15 (by decide) ?_
  refine J_irem X dX5_reading_17 (by decide) ?_
  obtain ⟨v3, qv3, hf⟩ := ob hf
  refine J_topi v3 (Option.some.inj qv3) ?_
  refine J_istore X [(5, .int v3), (4, .int v2), (3, .int v1), (0, .int x1), (1, .int x2), (2, .int x3)] dX5_reading_18 (Nat.le_of_ble_eq_true rfl) rfl ?_
  refine J_iload_n X 3 dX5_reading_20 rfl rfl ?_
  refine J_const X (1 : Int32) dX5_reading_21 (by decide) ?_
  refine J_icmp_ne (tgt := 35) X dX5_reading_22 (by decide) (fun c22 => ?_) (fun c22 => ?_)
  · rw [if_neg c22] at hf
    refine J_iload_n X 2 dX5_reading_35 rfl rfl ?_
    refine J_iload_n X 4 dX5_reading_36 rfl rfl ?_
    refine J_iload X 1 dX5_reading_37 rfl ?_
    refine J_const X (2 : Int32) dX5_reading_39 (by decide) ?_
    refine J_iload X 0 dX5_reading_40 rfl ?_
    refine J_imul X dX5_reading_42 ?_
    refine J_iadd X dX5_reading_43 ?_
    refine J_imul X dX5_reading_44 ?_
    refine J_iadd X dX5_reading_45 ?_
    cases hf
    exact J_iret X dX5_reading_46
  · rw [if_pos c22] at hf
    refine J_iload_n X 4 dX5_reading_25 rfl rfl ?_
    refine J_iload X 1 dX5_reading_26 rfl ?_
    refine J_iload X 0 dX5_reading_28 rfl ?_
    refine J_iadd X dX5_reading_30 ?_
    refine J_imul X dX5_reading_31 ?_
    refine J_goto (tgt := 46) X dX5_reading_32 (by decide) ?_
    cases hf
    exact J_iret X dX5_reading_46
theorem hd_J7_fill_53178 : yJ7_fill_53178.cls ≠ "java/lang/invoke/MethodHandle" ∧ yJ7_fill_53178.cls ≠ "java/lang/invoke/VarHandle" ∧ (parseMethodDescriptor yJ7_fill_53178.desc).map (fun d => d.parameters.length) = some 2 := by decide +kernel
set_option maxHeartbeats 4000000 in
set_option maxRecDepth 100000 in
theorem cf_J7_fill_53178_l5 {R : Type} (hA : ∀ h : Hp, va_D A (emb h)) (X : Cx p s m args meth c RJ7 cJ7_fill_53178 4 none o) (r1 n1 : Nat) (hE1 : EI o emb r1 n1) (s1 : Int32) (s3 : Int32) {kx : Int32 → Hp → Option R} (t : R) : ∀ (n : Nat) (s2 : Int32) (h : Hp), f_J7_fill_53178_l5 r1 n1 s1 s3 kx n s2 h = some t → (∀ (s2 : Int32) (h : Hp), kx s2 h = some t → J p l e (rmf 0 0) s m args below meth c 0 0 Z o emb A H0 4 20 [] [] h) → J p l e (rmf 0 0) s m args below meth c 0 0 Z o emb A H0 4 5 [(0, .ref (o.1 r1)), (1, .int s1), (2, .int s2), (3, .int s3)] [] h := by
  intro n
  induction n with
  | zero =>
    intro s2 h hf hk
    cases hf
  | succ n ih =>
    intro s2 h hf hk
    rw [f_J7_fill_53178_l5] at hf
    refine J_iload_n X 2 dJ7_fill_53178_5 rfl rfl ?_
    refine J_iload_n X 3 dJ7_fill_53178_6 rfl rfl ?_
    refine J_icmp_ge (tgt := 20) X dJ7_fill_53178_7 (by decide) (fun c7 => ?_) (fun c7 => ?_)
    · rw [if_pos c7] at hf
      exact J_sub [] rfl (hk s2 h hf)
    · rw [if_neg c7] at hf
      refine J_aload_n X 0 dJ7_fill_53178_10 rfl rfl ?_
      refine J_iload_n X 2 dJ7_fill_53178_11 rfl rfl ?_
      refine J_iload_n X 1 dJ7_fill_53178_12 rfl rfl ?_
      obtain ⟨h2, qh2, hf⟩ := ob hf
      refine J_iast X hE1 (ast_s qh2).1 dJ7_fill_53178_13 ?_
      refine J_hp h2 (ast_s qh2).2 ?_
      obtain ⟨v3, qv3, hf⟩ := ob hf
      refine J_iinc X 2 [(2, .int v3), (0, .ref (o.1 r1)), (1, .int s1), (3, .int s3)] dJ7_fill_53178_14 rfl (Option.some.inj qv3) (Nat.le_of_ble_eq_true rfl) rfl ?_
      refine J_goto (tgt := 5) X dJ7_fill_53178_17 (by decide) ?_
      exact J_sub [1, 2, 0, 3] rfl (ih v3 h2 hf hk)
set_option maxHeartbeats 4000000 in
set_option maxRecDepth 100000 in
theorem c_J7_fill_53178 (l : Launch) (o : Om) (emb : Hp → va_W) (A : Nat → Prop) (hA : ∀ h : Hp, va_D A (emb h)) (r1 n1 : Nat) (hE1 : EI o emb r1 n1) (x2 : Int32) (h : Hp)  (h' : Hp) (hf : f_J7_fill_53178 r1 n1 x2 h = some h') : Ct l o emb A yJ7_fill_53178 cJ7_fill_53178 4 none 0 0 [.ref (o.1 r1), .int x2] h none h' := by
  refine Ct.of RJ7 rfl (by decide +kernel) hA (Nat.le_of_ble_eq_true rfl) (fun p e s m args below meth c X => ?_)
  refine J_sub (lo' := [(0, .ref (o.1 r1)), (1, .int x2)]) [0, 1] rfl ?_
  rw [f_J7_fill_53178] at hf
  refine J_const X (0 : Int32) dJ7_fill_53178_0 (by decide) ?_
  refine J_istore_n X [(2, .int (0 : Int32)), (0, .ref (o.1 r1)), (1, .int x2)] dJ7_fill_53178_1 rfl (Nat.le_of_ble_eq_true rfl) rfl ?_
  refine J_aload_n X 1 dJ7_fill_53178_2 rfl rfl ?_
  refine J_alenI X hE1 (Int32.ofNat n1) (rfl) dJ7_fill_53178_3 ?_
  obtain ⟨v1, qv1, hf⟩ := ob hf
  refine J_topi v1 (Option.some.inj qv1) ?_
  refine J_istore_n X [(3, .int v1), (2, .int (0 : Int32)), (0, .ref (o.1 r1)), (1, .int x2)] dJ7_fill_53178_4 rfl (Nat.le_of_ble_eq_true rfl) rfl ?_
  refine J_sub (lo' := [(0, .ref (o.1 r1)), (1, .int x2), (2, .int (0 : Int32)), (3, .int v1)]) [2, 3, 1, 0] rfl ?_
  refine cf_J7_fill_53178_l5 hA X r1 n1 hE1 x2 v1 _ _ (0 : Int32) h hf (fun w4 h5 hf => ?_)
  cases hf
  exact J_vret X dJ7_fill_53178_20
theorem hd_X5_powerOfTen : yX5_powerOfTen.cls ≠ "java/lang/invoke/MethodHandle" ∧ yX5_powerOfTen.cls ≠ "java/lang/invoke/VarHandle" ∧ (parseMethodDescriptor yX5_powerOfTen.desc).map (fun d => d.parameters.length) = some 1 := by decide +kernel
set_option maxHeartbeats 4000000 in
set_option maxRecDepth 100000 in
theorem cf_X5_powerOfTen_l4 {R : Type} (hA : ∀ h : Hp, va_D A (emb h)) (X : Cx p s m args meth c RX5 cX5_powerOfTen 4 (some .long) o)   (s0 : Int32) (h0 : Hp) {kx : Int64 → Int32 → Option R} (t : R) : ∀ (n : Nat) (s1 : Int64) (s3 : Int32), f_X5_powerOfTen_l4 s0 kx n s1 s3 = some t → (∀ (s1 : Int64) (s3 : Int32), kx s1 s3 = some t → J p l e (rmf 0 0) s m args below meth c 0 0 Z o emb A H0 4 21 [(1, .long s1)] [] h0) → J p l e (rmf 0 0) s m args below meth c 0 0 Z o emb A H0 4 4 [(0, .int s0), (1, .long s1), (3, .int s3)] [] h0 := by
  intro n
  induction n with
  | zero =>
    intro s1 s3 hf hk
    cases hf
  | succ n ih =>
    intro s1 s3 hf hk
    rw [f_X5_powerOfTen_l4] at hf
    refine J_iload_n X 2 dX5_powerOfTen_4 rfl rfl ?_
    refine J_iload_n X 0 dX5_powerOfTen_5 rfl rfl ?_
    refine J_icmp_ge (tgt := 21) X dX5_powerOfTen_6 (by decide) (fun c6 => ?_) (fun c6 => ?_)
    · rw [if_pos c6] at hf
      exact J_sub [1] rfl (hk s1 s3 hf)
    · rw [if_neg c6] at hf
      refine J_lload_n X 1 dX5_powerOfTen_9 rfl rfl ?_
      refine J_ldc2 X wd_466 dX5_powerOfTen_10 ?_
      refine J_lmul X dX5_powerOfTen_13 ?_
      obtain ⟨v1, qv1, hf⟩ := ob hf
      refine J_topl v1 (Option.some.inj qv1) ?_
      refine J_lstore_n X [(1, .long v1), (0, .int s0), (3, .int s3)] dX5_powerOfTen_14 rfl (Nat.le_of_ble_eq_true rfl) rfl ?_
      obtain ⟨v2, qv2, hf⟩ := ob hf
      refine J_iinc X 2 [(3, .int v2), (1, .long v1), (0, .int s0)] dX5_powerOfTen_15 rfl (Option.some.inj qv2) (Nat.le_of_ble_eq_true rfl) rfl ?_
      refine J_goto (tgt := 4) X dX5_powerOfTen_18 (by decide) ?_
      exact J_sub [2, 1, 0] rfl (ih v1 v2 hf hk)
set_option maxHeartbeats 4000000 in
set_option maxRecDepth 100000 in
theorem c_X5_powerOfTen (l : Launch) (o : Om) (emb : Hp → va_W) (A : Nat → Prop) (hA : ∀ h : Hp, va_D A (emb h)) (x1 : Int32) (h : Hp) (r : Int64) (hf : f_X5_powerOfTen x1 = some r) : Ct l o emb A yX5_powerOfTen cX5_powerOfTen 4 (some .long) 0 0 [.int x1] h (some (.long r)) h := by
  refine Ct.of RX5 rfl (by decide +kernel) hA (Nat.le_of_ble_eq_true rfl) (fun p e s m args below meth c X => ?_)
  refine J_sub (lo' := [(0, .int x1)]) [0] rfl ?_
  rw [f_X5_powerOfTen] at hf
  refine J_lconst X (1 : Int64) dX5_powerOfTen_0 (by decide) ?_
  refine J_lstore_n X [(1, .long (1 : Int64)), (0, .int x1)] dX5_powerOfTen_1 rfl (Nat.le_of_ble_eq_true rfl) rfl ?_
  refine J_const X (0 : Int32) dX5_powerOfTen_2 (by decide) ?_
  refine J_istore_n X [(3, .int (0 : Int32)), (1, .long (1 : Int64)), (0, .int x1)] dX5_powerOfTen_3 rfl (Nat.le_of_ble_eq_true rfl) rfl ?_
  refine J_sub (lo' := [(0, .int x1), (1, .long (1 : Int64)), (3, .int (0 : Int32))]) [2, 1, 0] rfl ?_
  refine cf_X5_powerOfTen_l4 hA X   x1 h _ _ (1 : Int64) (0 : Int32) hf (fun w3 w4 hf => ?_)
  refine J_lload_n X 0 dX5_powerOfTen_21 rfl rfl ?_
  cases hf
  exact J_lret X dX5_powerOfTen_22
theorem hd_X5_digit : yX5_digit.cls ≠ "java/lang/invoke/MethodHandle" ∧ yX5_digit.cls ≠ "java/lang/invoke/VarHandle" ∧ (parseMethodDescriptor yX5_digit.desc).map (fun d => d.parameters.length) = some 2 := by decide +kernel
set_option maxHeartbeats 4000000 in
set_option maxRecDepth 100000 in
theorem cf_X5_digit_l4 {R : Type} (hA : ∀ h : Hp, va_D A (emb h)) (X : Cx p s m args meth c RX5 cX5_digit 4 (some .int) o)   (s1 : Int32) (h0 : Hp) {kx : Int32 → Int32 → Option R} (t : R) : ∀ (n : Nat) (s2 : Int32) (s3 : Int32), f_X5_digit_l4 s1 kx n s2 s3 = some t → (∀ (s2 : Int32) (s3 : Int32), kx s2 s3 = some t → J p l e (rmf 0 0) s m args below meth c 0 0 Z o emb A H0 4 20 [(2, .int s2)] [] h0) → J p l e (rmf 0 0) s m args below meth c 0 0 Z o emb A H0 4 4 [(1, .int s1), (2, .int s2), (3, .int s3)] [] h0 := by
  intro n
  induction n with
  | zero =>
    intro s2 s3 hf hk
    cases hf
  | succ n ih =>
    intro s2 s3 hf hk
    rw [f_X5_digit_l4] at hf
    refine J_iload_n X 2 dX5_digit_4 rfl rfl ?_
    refine J_iload_n X 0 dX5_digit_5 rfl rfl ?_
    refine J_icmp_ge (tgt := 20) X dX5_digit_6 (by decide) (fun c6 => ?_) (fun c6 => ?_)
    · rw [if_pos c6] at hf
      exact J_sub [1] rfl (hk s2 s3 hf)
    · rw [if_neg c6] at hf
      refine J_iload_n X 1 dX5_digit_9 rfl rfl ?_
      refine J_bipush X (10 : Int32) dX5_digit_10 (by decide) ?_
      refine J_idiv X dX5_digit_12 (by decide) ?_
      obtain ⟨v1, qv1, hf⟩ := ob hf
      refine J_topi v1 (Option.some.inj qv1) ?_
      refine J_istore_n X [(2, .int v1), (1, .int s1), (3, .int s3)] dX5_digit_13 rfl (Nat.le_of_ble_eq_true rfl) rfl ?_
      obtain ⟨v2, qv2, hf⟩ := ob hf
      refine J_iinc X 2 [(3, .int v2), (2, .int v1), (1, .int s1)] dX5_digit_14 rfl (Option.some.inj qv2) (Nat.le_of_ble_eq_true rfl) rfl ?_
      refine J_goto (tgt := 4) X dX5_digit_17 (by decide) ?_
      exact J_sub [2, 1, 0] rfl (ih v1 v2 hf hk)
set_option maxHeartbeats 4000000 in
set_option maxRecDepth 100000 in
theorem c_X5_digit (l : Launch) (o : Om) (emb : Hp → va_W) (A : Nat → Prop) (hA : ∀ h : Hp, va_D A (emb h)) (x1 : Int32) (x2 : Int32) (h : Hp) (r : Int32) (hf : f_X5_digit x1 x2 = some r) : Ct l o emb A yX5_digit cX5_digit 4 (some .int) 0 0 [.int x1, .int x2] h (some (.int r)) h := by
  refine Ct.of RX5 rfl (by decide +kernel) hA (Nat.le_of_ble_eq_true rfl) (fun p e s m args below meth c X => ?_)
  refine J_sub (lo' := [(0, .int x1), (1, .int x2)]) [0, 1] rfl ?_
  rw [f_X5_digit] at hf
  refine J_iload_n X 0 dX5_digit_0 rfl rfl ?_
  refine J_istore_n X [(2, .int x1), (0, .int x1), (1, .int x2)] dX5_digit_1 rfl (Nat.le_of_ble_eq_true rfl) rfl ?_
  refine J_const X (0 : Int32) dX5_digit_2 (by decide) ?_
  refine J_istore_n X [(3, .int (0 : Int32)), (2, .int x1), (0, .int x1), (1, .int x2)] dX5_digit_3 rfl (Nat.le_of_ble_eq_true rfl) rfl ?_
  refine J_sub (lo' := [(1, .int x2), (2, .int x1), (3, .int (0 : Int32))]) [3, 1, 0] rfl ?_
  refine cf_X5_digit_l4 hA X   x2 h _ _ x1 (0 : Int32) hf (fun w3 w4 hf => ?_)
  refine J_iload_n X 0 dX5_digit_20 rfl rfl ?_
  refine J_bipush X (10 : Int32) dX5_digit_21 (by decide) ?_
  refine J_irem X dX5_digit_23 (by decide) ?_
  cases hf
  exact J_iret X dX5_digit_24
theorem hd_X5_hasDigits : yX5_hasDigits.cls ≠ "java/lang/invoke/MethodHandle" ∧ yX5_hasDigits.cls ≠ "java/lang/invoke/VarHandle" ∧ (parseMethodDescriptor yX5_hasDigits.desc).map (fun d => d.parameters.length) = some 2 := by decide +kernel
set_option maxHeartbeats 4000000 in
set_option maxRecDepth 100000 in
theorem cf_X5_hasDigits_l18 (hA : ∀ h : Hp, va_D A (emb h)) (X : Cx p s m args meth c RX5 cX5_hasDigits 3 (some .boolean) o)   (s0 : Int32) (s1 : Int32) (h0 : Hp) {kx : Int32 → Option Int32} (r : Int32) : ∀ (n : Nat) (s2 : Int32), f_X5_hasDigits_l18 s0 s1 kx n s2 = some r → (∀ (s2 : Int32), kx s2 = some r → J p l e (rmf 1 23) s m args below meth c 0 0 (MQ below (WdQ o emb A (some (.int r)) h0) args s 0 0 A) o emb A s.heap 3 39 [] [] h0) → J p l e (rmf 1 23) s m args below meth c 0 0 (MQ below (WdQ o emb A (some (.int r)) h0) args s 0 0 A) o emb A s.heap 3 18 [(0, .int s0), (1, .int s1), (2, .int s2)] [] h0 := by
  intro n
  induction n with
  | zero =>
    intro s2 hf hk
    cases hf
  | succ n ih =>
    intro s2 hf hk
    rw [f_X5_hasDigits_l18] at hf
    refine J_iload_n X 2 dX5_hasDigits_18 rfl rfl ?_
    refine J_iload_n X 1 dX5_hasDigits_19 rfl rfl ?_
    refine J_icmp_ge (tgt := 39) X dX5_hasDigits_20 (by decide) (fun c20 => ?_) (fun c20 => ?_)
    · rw [if_pos c20] at hf
      exact J_sub [] rfl (hk s2 hf)
    · rw [if_neg c20] at hf
      refine J_iload_n X 0 dX5_hasDigits_23 rfl rfl ?_
      refine J_iload_n X 2 dX5_hasDigits_24 rfl rfl ?_
      obtain ⟨v2, qv2, hf⟩ := ob hf
      refine J_callS X (rest := []) (rs := [.int v2]) (c_X5_digit l o emb A hA s0 s2 h0 v2 qv2) wd_467 wd_468 wd_34 wd_469 hd_X5_digit ⟨Nat.le_of_ble_eq_true rfl, Nat.le_of_ble_eq_true rfl⟩ ⟨Nat.zero_le _, Nat.zero_le _⟩ (Nat.le_of_ble_eq_true rfl) dX5_hasDigits_25 rfl rfl ?_
      refine J_if_ne (tgt := 33) X dX5_hasDigits_28 (by decide) (fun c28 => ?_) (fun c28 => ?_)
      · rw [if_neg c28] at hf
        obtain ⟨v3, qv3, hf⟩ := ob hf
        refine J_iinc X 2 [(2, .int v3), (0, .int s0), (1, .int s1)] dX5_hasDigits_33 rfl (Option.some.inj qv3) (Nat.le_of_ble_eq_true rfl) rfl ?_
        refine J_goto (tgt := 18) X dX5_hasDigits_36 (by decide) ?_
        exact J_sub [1, 2, 0] rfl (ih v3 hf hk)
      · rw [if_pos c28] at hf
        refine J_const X (0 : Int32) dX5_hasDigits_31 (by decide) ?_
        cases hf
        exact J_zret X rfl dX5_hasDigits_32
set_option maxHeartbeats 4000000 in
set_option maxRecDepth 100000 in
theorem c_X5_hasDigits (l : Launch) (o : Om) (emb : Hp → va_W) (A : Nat → Prop) (hA : ∀ h : Hp, va_D A (emb h)) (x1 : Int32) (x2 : Int32) (h : Hp) (r : Int32) (hf : f_X5_hasDigits x1 x2 = some r) : Ct l o emb A yX5_hasDigits cX5_hasDigits 3 (some .boolean) 1 23 [.int x1, .int x2] h (some (.int r)) h := by
  refine Ct.of RX5 rfl (by decide +kernel) hA (Nat.le_of_ble_eq_true rfl) (fun p e s m args below meth c X => ?_)
  refine J_sub (lo' := [(0, .int x1), (1, .int x2)]) [0, 1] rfl ?_
  rw [f_X5_hasDigits] at hf
  refine J_iload_n X 0 dX5_hasDigits_0 rfl rfl ?_
  refine J_if_lt (tgt := 14) X dX5_hasDigits_1 (by decide) (fun c1 => ?_) (fun c1 => ?_)
  · rw [if_pos c1] at hf
    refine J_const X (0 : Int32) dX5_hasDigits_14 (by decide) ?_
    cases hf
    exact J_zret X rfl dX5_hasDigits_15
  · rw [if_neg c1] at hf
    refine J_iload_n X 0 dX5_hasDigits_4 rfl rfl ?_
    refine J_i2l X dX5_hasDigits_5 ?_
    refine J_iload_n X 1 dX5_hasDigits_6 rfl rfl ?_
    obtain ⟨v1, qv1, hf⟩ := ob hf
    refine J_callS X (rest := [.long (x1).toInt64]) (rs := [.long v1, .long (x1).toInt64]) (c_X5_powerOfTen l o emb A hA x2 h v1 qv1) wd_463 wd_464 wd_34 wd_465 hd_X5_powerOfTen ⟨Nat.le_of_ble_eq_true rfl, Nat.le_of_ble_eq_true rfl⟩ ⟨Nat.zero_le _, Nat.zero_le _⟩ (Nat.le_of_ble_eq_true rfl) dX5_hasDigits_7 rfl rfl ?_
    refine J_lcmp X dX5_hasDigits_10 ?_
    refine J_if_lt (tgt := 16) X dX5_hasDigits_11 (by decide) (fun c11 => ?_) (fun c11 => ?_)
    · rw [if_pos c11] at hf
      refine J_const X (0 : Int32) dX5_hasDigits_16 (by decide) ?_
      refine J_istore_n X [(2, .int (0 : Int32)), (0, .int x1), (1, .int x2)] dX5_hasDigits_17 rfl (Nat.le_of_ble_eq_true rfl) rfl ?_
      refine J_sub (lo' := [(0, .int x1), (1, .int x2), (2, .int (0 : Int32))]) [1, 2, 0] rfl ?_
      refine cf_X5_hasDigits_l18 hA X   x1 x2 h r _ (0 : Int32) hf (fun w4 hf => ?_)
      refine J_const X (1 : Int32) dX5_hasDigits_39 (by decide) ?_
      cases hf
      exact J_zret X rfl dX5_hasDigits_40
    · rw [if_neg c11] at hf
      refine J_const X (0 : Int32) dX5_hasDigits_14 (by decide) ?_
      cases hf
      exact J_zret X rfl dX5_hasDigits_15
theorem hd_X5_countUsers : yX5_countUsers.cls ≠ "java/lang/invoke/MethodHandle" ∧ yX5_countUsers.cls ≠ "java/lang/invoke/VarHandle" ∧ (parseMethodDescriptor yX5_countUsers.desc).map (fun d => d.parameters.length) = some 3 := by decide +kernel
set_option maxHeartbeats 4000000 in
set_option maxRecDepth 100000 in
theorem cf_X5_countUsers_l5 {R : Type} (hA : ∀ h : Hp, va_D A (emb h)) (X : Cx p s m args meth c RX5 cX5_countUsers 5 (some .int) o)   (s0 : Int32) (s1 : Int32) (s2 : Int32) (h0 : Hp) {kx : Int32 → Int32 → Option R} (t : R) : ∀ (n : Nat) (s3 : Int32) (s4 : Int32), f_X5_countUsers_l5 s0 s1 s2 kx n s3 s4 = some t → (∀ (s3 : Int32) (s4 : Int32), kx s3 s4 = some t → J p l e (rmf 1 23) s m args below meth c 0 0 Z o emb A H0 5 30 [(3, .int s3)] [] h0) → J p l e (rmf 1 23) s m args below meth c 0 0 Z o emb A H0 5 5 [(0, .int s0), (1, .int s1), (2, .int s2), (3, .int s3), (4, .int s4)] [] h0 := by
  intro n
  induction n with
  | zero =>
    intro s3 s4 hf hk
    cases hf
  | succ n ih =>
    intro s3 s4 hf hk
    rw [f_X5_countUsers_l5] at hf
    refine J_iload X 4 dX5_countUsers_5 rfl ?_
    refine J_iload_n X 1 dX5_countUsers_7 rfl rfl ?_
    refine J_icmp_ge (tgt := 30) X dX5_countUsers_8 (by decide) (fun c8 => ?_) (fun c8 => ?_)
    · rw [if_pos c8] at hf
      exact J_sub [3] rfl (hk s3 s4 hf)
    · rw [if_neg c8] at hf
      refine J_iload_n X 0 dX5_countUsers_11 rfl rfl ?_
      refine J_iload X 4 dX5_countUsers_12 rfl ?_
      obtain ⟨v1, qv1, hf⟩ := ob hf
      refine J_callS X (rest := []) (rs := [.int v1]) (c_X5_digit l o emb A hA s0 s4 h0 v1 qv1) wd_467 wd_468 wd_34 wd_469 hd_X5_digit ⟨Nat.le_of_ble_eq_true rfl, Nat.le_of_ble_eq_true rfl⟩ ⟨Nat.zero_le _, Nat.zero_le _⟩ (Nat.le_of_ble_eq_true rfl) dX5_countUsers_14 rfl rfl ?_
      refine J_iload_n X 2 dX5_countUsers_17 rfl rfl ?_
      refine J_icmp_lt (tgt := 24) X dX5_countUsers_18 (by decide) (fun c18 => ?_) (fun c18 => ?_)
      · rw [if_pos c18] at hf
        obtain ⟨v2, qv2, hf⟩ := ob hf
        refine J_iinc X 4 [(4, .int v2), (0, .int s0), (1, .int s1), (2, .int s2), (3, .int s3)] dX5_countUsers_24 rfl (Option.some.inj qv2) (Nat.le_of_ble_eq_true rfl) rfl ?_
        refine J_goto (tgt := 5) X dX5_countUsers_27 (by decide) ?_
        exact J_sub [1, 2, 3, 4, 0] rfl (ih s3 v2 hf hk)
      · rw [if_neg c18] at hf
        obtain ⟨v3, qv3, hf⟩ := ob hf
        refine J_iinc X 3 [(3, .int v3), (0, .int s0), (1, .int s1), (2, .int s2), (4, .int s4)] dX5_countUsers_21 rfl (Option.some.inj qv3) (Nat.le_of_ble_eq_true rfl) rfl ?_
        obtain ⟨v4, qv4, hf⟩ := ob hf
        refine J_iinc X 4 [(4, .int v4), (3, .int v3), (0, .int s0), (1, .int s1), (2, .int s2)] dX5_countUsers_24 rfl (Option.some.inj qv4) (Nat.le_of_ble_eq_true rfl) rfl ?_
        refine J_goto (tgt := 5) X dX5_countUsers_27 (by decide) ?_
        exact J_sub [2, 3, 4, 1, 0] rfl (ih v3 v4 hf hk)
set_option maxHeartbeats 4000000 in
set_option maxRecDepth 100000 in
theorem c_X5_countUsers (l : Launch) (o : Om) (emb : Hp → va_W) (A : Nat → Prop) (hA : ∀ h : Hp, va_D A (emb h)) (x1 : Int32) (x2 : Int32) (x3 : Int32) (h : Hp) (r : Int32) (hf : f_X5_countUsers x1 x2 x3 = some r) : Ct l o emb A yX5_countUsers cX5_countUsers 5 (some .int) 1 23 [.int x1, .int x2, .int x3] h (some (.int r)) h := by
  refine Ct.of RX5 rfl (by decide +kernel) hA (Nat.le_of_ble_eq_true rfl) (fun p e s m args below meth c X => ?_)
  refine J_sub (lo' := [(0, .int x1), (1, .int x2), (2, .int x3)]) [0, 1, 2] rfl ?_
  rw [f_X5_countUsers] at hf
  refine J_const X (0 : Int32) dX5_countUsers_0 (by decide) ?_
  refine J_istore_n X [(3, .int (0 : Int32)), (0, .int x1), (1, .int x2), (2, .int x3)] dX5_countUsers_1 rfl (Nat.le_of_ble_eq_true rfl) rfl ?_
  refine J_const X (0 : Int32) dX5_countUsers_2 (by decide) ?_
  refine J_istore X [(4, .int (0 : Int32)), (3, .int (0 : Int32)), (0, .int x1), (1, .int x2), (2, .int x3)] dX5_countUsers_3 (Nat.le_of_ble_eq_true rfl) rfl ?_
  refine J_sub (lo' := [(0, .int x1), (1, .int x2), (2, .int x3), (3, .int (0 : Int32)), (4, .int (0 : Int32))]) [2, 3, 4, 1, 0] rfl ?_
  refine cf_X5_countUsers_l5 hA X   x1 x2 x3 h _ _ (0 : Int32) (0 : Int32) hf (fun w5 w6 hf => ?_)
  refine J_iload_n X 0 dX5_countUsers_30 rfl rfl ?_
  cases hf
  exact J_iret X dX5_countUsers_31
theorem hd_X5_commonDivisor : yX5_commonDivisor.cls ≠ "java/lang/invoke/MethodHandle" ∧ yX5_commonDivisor.cls ≠ "java/lang/invoke/VarHandle" ∧ (parseMethodDescriptor yX5_commonDivisor.desc).map (fun d => d.parameters.length) = some 2 := by decide +kernel
set_option maxHeartbeats 4000000 in
set_option maxRecDepth 100000 in
theorem cf_X5_commonDivisor_l9 {R : Type} (hA : ∀ h : Hp, va_D A (emb h)) (X : Cx p s m args meth c RX5 cX5_commonDivisor 11 (some .long) o)    (h0 : Hp) {kx : Int64 → Int64 → Int32 → Option R} (t : R) : ∀ (n : Nat) (s4 : Int64) (s6 : Int64) (s8 : Int32), f_X5_commonDivisor_l9 kx n s4 s6 s8 = some t → (∀ (s4 : Int64) (s6 : Int64) (s8 : Int32), kx s4 s6 s8 = some t → J p l e (rmf 0 0) s m args below meth c 0 0 Z o emb A H0 11 45 [(4, .long s4)] [] h0) → J p l e (rmf 0 0) s m args below meth c 0 0 Z o emb A H0 11 9 [(4, .long s4), (6, .long s6), (8, .int s8)] [] h0 := by
  intro n
  induction n with
  | zero =>
    intro s4 s6 s8 hf hk
    cases hf
  | succ n ih =>
    intro s4 s6 s8 hf hk
    rw [f_X5_commonDivisor_l9] at hf
    refine J_iload X 2 dX5_commonDivisor_9 rfl ?_
    refine J_sipush X (200 : Int32) dX5_commonDivisor_11 (by decide) ?_
    refine J_icmp_ge (tgt := 45) X dX5_commonDivisor_14 (by decide) (fun c14 => ?_) (fun c14 => ?_)
    · rw [if_pos c14] at hf
      exact J_sub [0] rfl (hk s4 s6 s8 hf)
    · rw [if_neg c14] at hf
      refine J_lload X 1 dX5_commonDivisor_17 rfl ?_
      refine J_lconst X (0 : Int64) dX5_commonDivisor_19 (by decide) ?_
      refine J_lcmp X dX5_commonDivisor_20 ?_
      refine J_if_eq (tgt := 45) X dX5_commonDivisor_21 (by decide) (fun c21 => ?_) (fun c21 => ?_)
      · rw [if_pos c21] at hf
        exact J_sub [0] rfl (hk s4 s6 s8 hf)
      · rw [if_neg c21] at hf
        refine J_lload X 0 dX5_commonDivisor_24 rfl ?_
        refine J_lload X 1 dX5_commonDivisor_26 rfl ?_
        obtain ⟨v1, qv1, hf⟩ := ob hf
        refine J_lrem X dX5_commonDivisor_28 (lrm_s qv1).1 ?_
        refine J_topl v1 (lrm_s qv1).2 ?_
        refine J_lstore X [(9, .long v1), (4, .long s4), (6, .long s6), (8, .int s8)] dX5_commonDivisor_29 (Nat.le_of_ble_eq_true rfl) rfl ?_
        refine J_lload X 2 dX5_commonDivisor_31 rfl ?_
        refine J_lstore X [(4, .long s6), (9, .long v1), (6, .long s6), (8, .int s8)] dX5_commonDivisor_33 (Nat.le_of_ble_eq_true rfl) rfl ?_
        refine J_lload X 1 dX5_commonDivisor_35 rfl ?_
        refine J_lstore X [(6, .long v1), (4, .long s6), (9, .long v1), (8, .int s8)] dX5_commonDivisor_37 (Nat.le_of_ble_eq_true rfl) rfl ?_
        obtain ⟨v2, qv2, hf⟩ := ob hf
        refine J_iinc X 3 [(8, .int v2), (6, .long v1), (4, .long s6), (9, .long v1)] dX5_commonDivisor_39 rfl (Option.some.inj qv2) (Nat.le_of_ble_eq_true rfl) rfl ?_
        refine J_goto (tgt := 9) X dX5_commonDivisor_42 (by decide) ?_
        exact J_sub [2, 1, 0] rfl (ih s6 v1 v2 hf hk)
set_option maxHeartbeats 4000000 in
set_option maxRecDepth 100000 in
theorem c_X5_commonDivisor (l : Launch) (o : Om) (emb : Hp → va_W) (A : Nat → Prop) (hA : ∀ h : Hp, va_D A (emb h)) (x1 : Int64) (x2 : Int64) (h : Hp) (r : Int64) (hf : f_X5_commonDivisor x1 x2 = some r) : Ct l o emb A yX5_commonDivisor cX5_commonDivisor 11 (some .long) 0 0 [.long x1, .long x2] h (some (.long r)) h := by
  refine Ct.of RX5 rfl (by decide +kernel) hA (Nat.le_of_ble_eq_true rfl) (fun p e s m args below meth c X => ?_)
  refine J_sub (lo' := [(0, .long x1), (2, .long x2)]) [0, 1] rfl ?_
  rw [f_X5_commonDivisor] at hf
  refine J_lload_n X 0 dX5_commonDivisor_0 rfl rfl ?_
  refine J_lstore X [(4, .long x1), (0, .long x1), (2, .long x2)] dX5_commonDivisor_1 (Nat.le_of_ble_eq_true rfl) rfl ?_
  refine J_lload_n X 2 dX5_commonDivisor_3 rfl rfl ?_
  refine J_lstore X [(6, .long x2), (4, .long x1), (0, .long x1), (2, .long x2)] dX5_commonDivisor_4 (Nat.le_of_ble_eq_true rfl) rfl ?_
  refine J_const X (0 : Int32) dX5_commonDivisor_6 (by decide) ?_
  refine J_istore X [(8, .int (0 : Int32)), (6, .long x2), (4, .long x1), (0, .long x1), (2, .long x2)] dX5_commonDivisor_7 (Nat.le_of_ble_eq_true rfl) rfl ?_
  refine J_sub (lo' := [(4, .long x1), (6, .long x2), (8, .int (0 : Int32))]) [2, 1, 0] rfl ?_
  refine cf_X5_commonDivisor_l9 hA X    h _ _ x1 x2 (0 : Int32) hf (fun w3 w4 w5 hf => ?_)
  refine J_lload X 0 dX5_commonDivisor_45 rfl ?_
  cases hf
  exact J_lret X dX5_commonDivisor_47
theorem hd_X5_lowestTerms : yX5_lowestTerms.cls ≠ "java/lang/invoke/MethodHandle" ∧ yX5_lowestTerms.cls ≠ "java/lang/invoke/VarHandle" ∧ (parseMethodDescriptor yX5_lowestTerms.desc).map (fun d => d.parameters.length) = some 3 := by decide +kernel
set_option maxHeartbeats 4000000 in
set_option maxRecDepth 100000 in
theorem c_X5_lowestTerms (l : Launch) (o : Om) (emb : Hp → va_W) (A : Nat → Prop) (hA : ∀ h : Hp, va_D A (emb h)) (x1 : Int64) (x2 : Int64) (x3 : Int32) (h : Hp) (r : Int64) (hf : f_X5_lowestTerms x1 x2 x3 = some r) : Ct l o emb A yX5_lowestTerms cX5_lowestTerms 9 (some .long) 1 30 [.long x1, .long x2, .int x3] h (some (.long r)) h := by
  refine Ct.of RX5 rfl (by decide +kernel) hA (Nat.le_of_ble_eq_true rfl) (fun p e s m args below meth c X => ?_)
  refine J_sub (lo' := [(0, .long x1), (2, .long x2), (4, .int x3)]) [0, 1, 2] rfl ?_
  rw [f_X5_lowestTerms] at hf
  refine J_lload_n X 0 dX5_lowestTerms_0 rfl rfl ?_
  refine J_lload_n X 1 dX5_lowestTerms_1 rfl rfl ?_
  obtain ⟨v1, qv1, hf⟩ := ob hf
  refine J_callS X (rest := []) (rs := [.long v1]) (c_X5_commonDivisor l o emb A hA x1 x2 h v1 qv1) wd_490 wd_491 wd_34 wd_492 hd_X5_commonDivisor ⟨Nat.le_of_ble_eq_true rfl, Nat.le_of_ble_eq_true rfl⟩ ⟨Nat.zero_le _, Nat.zero_le _⟩ (Nat.le_of_ble_eq_true rfl) dX5_lowestTerms_2 rfl rfl ?_
  refine J_lstore X [(5, .long v1), (0, .long x1), (2, .long x2), (4, .int x3)] dX5_lowestTerms_5 (Nat.le_of_ble_eq_true rfl) rfl ?_
  refine J_iload X 3 dX5_lowestTerms_7 rfl ?_
  obtain ⟨t3, qt3, hf⟩ := ob hf
  have yk2 : J p l e (rmf 1 30) s m args below meth c 0 0 (MQ below (WdQ o emb A (some (.long r)) h) args s 0 0 A) o emb A s.heap 9 17 [(5, .long v1)] [.long t3] h := by
    refine J_lstore X [(7, .long t3), (5, .long v1)] dX5_lowestTerms_17 (Nat.le_of_ble_eq_true rfl) rfl ?_
    refine J_lload X 1 dX5_lowestTerms_19 rfl ?_
    refine J_lconst X (0 : Int64) dX5_lowestTerms_21 (by decide) ?_
    refine J_lcmp X dX5_lowestTerms_22 ?_
    refine J_if_le (tgt := 34) X dX5_lowestTerms_23 (by decide) (fun c23 => ?_) (fun c23 => ?_)
    · rw [if_pos c23] at hf
      refine J_lload X 0 dX5_lowestTerms_34 rfl ?_
      cases hf
      exact J_lret X dX5_lowestTerms_36
    · rw [if_neg c23] at hf
      refine J_lload X 0 dX5_lowestTerms_26 rfl ?_
      refine J_lload X 1 dX5_lowestTerms_28 rfl ?_
      obtain ⟨v4, qv4, hf⟩ := ob hf
      refine J_ldiv X dX5_lowestTerms_30 (ldv_s qv4).1 ?_
      refine J_topl v4 (ldv_s qv4).2 ?_
      refine J_goto (tgt := 36) X dX5_lowestTerms_31 (by decide) ?_
      cases hf
      exact J_lret X dX5_lowestTerms_36
  clear hf
  have hf := qt3
  clear qt3
  refine J_if_ne (tgt := 16) X dX5_lowestTerms_9 (by decide) (fun c9 => ?_) (fun c9 => ?_)
  · rw [if_neg c9] at hf
    refine J_lload_n X 2 dX5_lowestTerms_16 rfl rfl ?_
    cases hf
    exact J_sub [0] rfl yk2
  · rw [if_pos c9] at hf
    refine J_lload_n X 1 dX5_lowestTerms_12 rfl rfl ?_
    refine J_goto (tgt := 17) X dX5_lowestTerms_13 (by decide) ?_
    cases hf
    exact J_sub [0] rfl yk2
theorem hd_J7_fill_d0a16 : yJ7_fill_d0a16.cls ≠ "java/lang/invoke/MethodHandle" ∧ yJ7_fill_d0a16.cls ≠ "java/lang/invoke/VarHandle" ∧ (parseMethodDescriptor yJ7_fill_d0a16.desc).map (fun d => d.parameters.length) = some 2 := by decide +kernel
set_option maxHeartbeats 4000000 in
set_option maxRecDepth 100000 in
theorem cf_J7_fill_d0a16_l6 {R : Type} (hA : ∀ h : Hp, va_D A (emb h)) (X : Cx p s m args meth c RJ7 cJ7_fill_d0a16 5 none o) (r1 n1 : Nat) (hE1 : EL o emb r1 n1) (s1 : Int64) (s4 : Int32) {kx : Int32 → Hp → Option R} (t : R) : ∀ (n : Nat) (s3 : Int32) (h : Hp), f_J7_fill_d0a16_l6 r1 n1 s1 s4 kx n s3 h = some t → (∀ (s3 : Int32) (h : Hp), kx s3 h = some t → J p l e (rmf 0 0) s m args below meth c 0 0 Z o emb A H0 5 22 [] [] h) → J p l e (rmf 0 0) s m args below meth c 0 0 Z o emb A H0 5 6 [(0, .ref (o.1 r1)), (1, .long s1), (3, .int s3), (4, .int s4)] [] h := by
  intro n
  induction n with
  | zero =>
    intro s3 h hf hk
    cases hf
  | succ n ih =>
    intro s3 h hf hk
    rw [f_J7_fill_d0a16_l6] at hf
    refine J_iload_n X 2 dJ7_fill_d0a16_6 rfl rfl ?_
    refine J_iload X 3 dJ7_fill_d0a16_7 rfl ?_
    refine J_icmp_ge (tgt := 22) X dJ7_fill_d0a16_9 (by decide) (fun c9 => ?_) (fun c9 => ?_)
    · rw [if_pos c9] at hf
      exact J_sub [] rfl (hk s3 h hf)
    · rw [if_neg c9] at hf
      refine J_aload_n X 0 dJ7_fill_d0a16_12 rfl rfl ?_
      refine J_iload_n X 2 dJ7_fill_d0a16_13 rfl rfl ?_
      refine J_lload_n X 1 dJ7_fill_d0a16_14 rfl rfl ?_
      obtain ⟨h2, qh2, hf⟩ := ob hf
      refine J_last X hE1 (last_s qh2).1 dJ7_fill_d0a16_15 ?_
      refine J_hp h2 (last_s qh2).2 ?_
      obtain ⟨v3, qv3, hf⟩ := ob hf
      refine J_iinc X 2 [(3, .int v3), (0, .ref (o.1 r1)), (1, .long s1), (4, .int s4)] dJ7_fill_d0a16_16 rfl (Option.some.inj qv3) (Nat.le_of_ble_eq_true rfl) rfl ?_
      refine J_goto (tgt := 6) X dJ7_fill_d0a16_19 (by decide) ?_
      exact J_sub [1, 2, 0, 3] rfl (ih v3 h2 hf hk)
set_option maxHeartbeats 4000000 in
set_option maxRecDepth 100000 in
theorem c_J7_fill_d0a16 (l : Launch) (o : Om) (emb : Hp → va_W) (A : Nat → Prop) (hA : ∀ h : Hp, va_D A (emb h)) (r1 n1 : Nat) (hE1 : EL o emb r1 n1) (x2 : Int64) (h : Hp)  (h' : Hp) (hf : f_J7_fill_d0a16 r1 n1 x2 h = some h') : Ct l o emb A yJ7_fill_d0a16 cJ7_fill_d0a16 5 none 0 0 [.ref (o.1 r1), .long x2] h none h' := by
  refine Ct.of RJ7 rfl (by decide +kernel) hA (Nat.le_of_ble_eq_true rfl) (fun p e s m args below meth c X => ?_)
  refine J_sub (lo' := [(0, .ref (o.1 r1)), (1, .long x2)]) [0, 1] rfl ?_
  rw [f_J7_fill_d0a16] at hf
  refine J_const X (0 : Int32) dJ7_fill_d0a16_0 (by decide) ?_
  refine J_istore_n X [(3, .int (0 : Int32)), (0, .ref (o.1 r1)), (1, .long x2)] dJ7_fill_d0a16_1 rfl (Nat.le_of_ble_eq_true rfl) rfl ?_
  refine J_aload_n X 1 dJ7_fill_d0a16_2 rfl rfl ?_
  refine J_alenL X hE1 (Int32.ofNat n1) (rfl) dJ7_fill_d0a16_3 ?_
  obtain ⟨v1, qv1, hf⟩ := ob hf
  refine J_topi v1 (Option.some.inj qv1) ?_
  refine J_istore X [(4, .int v1), (3, .int (0 : Int32)), (0, .ref (o.1 r1)), (1, .long x2)] dJ7_fill_d0a16_4 (Nat.le_of_ble_eq_true rfl) rfl ?_
  refine J_sub (lo' := [(0, .ref (o.1 r1)), (1, .long x2), (3, .int (0 : Int32)), (4, .int v1)]) [2, 3, 1, 0] rfl ?_
  refine cf_J7_fill_d0a16_l6 hA X r1 n1 hE1 x2 v1 _ _ (0 : Int32) h hf (fun w4 h5 hf => ?_)
  cases hf
  exact J_vret X dJ7_fill_d0a16_22
end CERT
end
section
section CERT
variable {p : Program} {l : Launch} {e : Env} {s : State} {m : MethodId} {args : Array Value} {below : List Frame} {meth : Method} {c : Code} {Z : State → Prop} {o : Om} {emb : Hp → va_W} {A : Nat → Prop} {H0 : Heap}
theorem hd_X1_add : yX1_add.cls ≠ "java/lang/invoke/MethodHandle" ∧ yX1_add.cls ≠ "java/lang/invoke/VarHandle" ∧ (parseMethodDescriptor yX1_add.desc).map (fun d => d.parameters.length) = some 1 := by decide +kernel
set_option maxHeartbeats 4000000 in
set_option maxRecDepth 100000 in
theorem c_X1_add (l : Launch) (o : Om) (emb : Hp → va_W) (A : Nat → Prop) (hA : ∀ h : Hp, va_D A (emb h)) (hO : isX1 o emb) (x1 : Int32) (h : Hp)  (h' : Hp) (hf : f_X1_add x1 h = some h') : Ct l o emb A yX1_add cX1_add 2 none 1 22 [.ref (o.1 9), .int x1] h none h' := by
  refine Ct.of RX1 rfl (by decide +kernel) hA (Nat.le_of_ble_eq_true rfl) (fun p e s m args below meth c X => ?_)
  refine J_sub (lo' := [(0, .ref (o.1 9)), (1, .int x1)]) [0, 1] rfl ?_
  rw [f_X1_add] at hf
  refine J_aload_n X 0 dX1_add_0 rfl rfl ?_
  refine J_get X hO.1 inX1 rfl 1 (Nat.le_of_ble_eq_true rfl) wd_108 rfl (v := .int (h.1 9 1)) rfl dX1_add_1 ?_
  refine J_aload_n X 0 dX1_add_4 rfl rfl ?_
  refine J_get X hO.1 inX1 rfl 0 (Nat.le_of_ble_eq_true rfl) wd_107 rfl (v := .ref (o.1 10)) rfl dX1_add_5 ?_
  refine J_alenI X hO.2 (60 : Int32) (by decide) dX1_add_8 ?_
  refine J_icmp_lt (tgt := 13) X dX1_add_9 (by decide) (fun c9 => ?_) (fun c9 => ?_)
  · rw [if_pos c9] at hf
    refine J_aload_n X 0 dX1_add_13 rfl rfl ?_
    refine J_get X hO.1 inX1 rfl 0 (Nat.le_of_ble_eq_true rfl) wd_107 rfl (v := .ref (o.1 10)) rfl dX1_add_14 ?_
    refine J_aload_n X 0 dX1_add_17 rfl rfl ?_
    refine J_get X hO.1 inX1 rfl 1 (Nat.le_of_ble_eq_true rfl) wd_108 rfl (v := .int (h.1 9 1)) rfl dX1_add_18 ?_
    refine J_iload_n X 1 dX1_add_21 rfl rfl ?_
    obtain ⟨h1, qh1, hf⟩ := ob hf
    refine J_callSN X (rest := []) (rs := []) (c_X5_put l o emb A hA 10 60 hO.2 (h.1 9 1) x1 h h1 qh1) nw_271 wd_225 wd_34 wd_226 hd_X5_put ⟨Nat.le_of_ble_eq_true rfl, Nat.le_of_ble_eq_true rfl⟩ ⟨Nat.zero_le _, Nat.zero_le _⟩ (Nat.le_of_ble_eq_true rfl) dX1_add_22 rfl rfl ?_
    refine J_aload_n X 0 dX1_add_25 rfl rfl ?_
    refine J_dup X dX1_add_26 rfl ?_
    refine J_get X hO.1 inX1 rfl 1 (Nat.le_of_ble_eq_true rfl) wd_108 rfl (v := .int (h1.1 9 1)) rfl dX1_add_27 ?_
    refine J_const X (1 : Int32) dX1_add_30 (by decide) ?_
    refine J_iadd X dX1_add_31 ?_
    obtain ⟨h2, qh2, hf⟩ := ob hf
    refine J_put X hO.1 inX1 tyX1 tyX1_ok nmX1 rfl 1 (Nat.le_of_ble_eq_true rfl) (by decide) wd_108 rfl rfl (ty := .int) (by decide +kernel) rfl rfl (Nat.le_of_ble_eq_true rfl) dX1_add_32 ?_
    refine J_hp h2 (Option.some.inj qh2) ?_
    cases hf
    exact J_vret X dX1_add_35
  · rw [if_neg c9] at hf
    cases hf
    exact J_vret X dX1_add_12
theorem hd_X1_empty : yX1_empty.cls ≠ "java/lang/invoke/MethodHandle" ∧ yX1_empty.cls ≠ "java/lang/invoke/VarHandle" ∧ (parseMethodDescriptor yX1_empty.desc).map (fun d => d.parameters.length) = some 0 := by decide +kernel
set_option maxHeartbeats 4000000 in
set_option maxRecDepth 100000 in
theorem c_X1_empty (l : Launch) (o : Om) (emb : Hp → va_W) (A : Nat → Prop) (hA : ∀ h : Hp, va_D A (emb h)) (hO : isX1 o emb) (h : Hp)  (h' : Hp) (hf : f_X1_empty h = some h') : Ct l o emb A yX1_empty cX1_empty 1 none 0 0 [.ref (o.1 9)] h none h' := by
  refine Ct.of RX1 rfl (by decide +kernel) hA (Nat.le_of_ble_eq_true rfl) (fun p e s m args below meth c X => ?_)
  refine J_sub (lo' := [(0, .ref (o.1 9))]) [0] rfl ?_
  rw [f_X1_empty] at hf
  refine J_aload_n X 0 dX1_empty_0 rfl rfl ?_
  refine J_const X (0 : Int32) dX1_empty_1 (by decide) ?_
  obtain ⟨h1, qh1, hf⟩ := ob hf
  refine J_put X hO.1 inX1 tyX1 tyX1_ok nmX1 rfl 1 (Nat.le_of_ble_eq_true rfl) (by decide) wd_108 rfl rfl (ty := .int) (by decide +kernel) rfl rfl (Nat.le_of_ble_eq_true rfl) dX1_empty_2 ?_
  refine J_hp h1 (Option.some.inj qh1) ?_
  cases hf
  exact J_vret X dX1_empty_5
theorem hd_X1_signAt : yX1_signAt.cls ≠ "java/lang/invoke/MethodHandle" ∧ yX1_signAt.cls ≠ "java/lang/invoke/VarHandle" ∧ (parseMethodDescriptor yX1_signAt.desc).map (fun d => d.parameters.length) = some 1 := by decide +kernel
set_option maxHeartbeats 4000000 in
set_option maxRecDepth 100000 in
theorem c_X1_signAt (l : Launch) (o : Om) (emb : Hp → va_W) (A : Nat → Prop) (hA : ∀ h : Hp, va_D A (emb h)) (hO : isX1 o emb) (x1 : Int32) (h : Hp) (r : Int32) (hf : f_X1_signAt x1 h = some r) : Ct l o emb A yX1_signAt cX1_signAt 2 (some .int) 1 21 [.ref (o.1 9), .int x1] h (some (.int r)) h := by
  refine Ct.of RX1 rfl (by decide +kernel) hA (Nat.le_of_ble_eq_true rfl) (fun p e s m args below meth c X => ?_)
  refine J_sub (lo' := [(0, .ref (o.1 9)), (1, .int x1)]) [0, 1] rfl ?_
  rw [f_X1_signAt] at hf
  refine J_aload_n X 0 dX1_signAt_0 rfl rfl ?_
  refine J_get X hO.1 inX1 rfl 0 (Nat.le_of_ble_eq_true rfl) wd_107 rfl (v := .ref (o.1 10)) rfl dX1_signAt_1 ?_
  refine J_iload_n X 1 dX1_signAt_4 rfl rfl ?_
  obtain ⟨v1, qv1, hf⟩ := ob hf
  refine J_callSN X (rest := []) (rs := [.int v1]) (c_X5_at l o emb A hA 10 60 hO.2 x1 h v1 qv1) nw_296 wd_255 wd_34 wd_256 hd_X5_at ⟨Nat.le_of_ble_eq_true rfl, Nat.le_of_ble_eq_true rfl⟩ ⟨Nat.zero_le _, Nat.zero_le _⟩ (Nat.le_of_ble_eq_true rfl) dX1_signAt_5 rfl rfl ?_
  cases hf
  exact J_iret X dX1_signAt_8
theorem hd_X1_placeAt : yX1_placeAt.cls ≠ "java/lang/invoke/MethodHandle" ∧ yX1_placeAt.cls ≠ "java/lang/invoke/VarHandle" ∧ (parseMethodDescriptor yX1_placeAt.desc).map (fun d => d.parameters.length) = some 1 := by decide +kernel
set_option maxHeartbeats 4000000 in
set_option maxRecDepth 100000 in
theorem c_X1_placeAt (l : Launch) (o : Om) (emb : Hp → va_W) (A : Nat → Prop) (hA : ∀ h : Hp, va_D A (emb h)) (hO : isX1 o emb) (x1 : Int32) (h : Hp) (r : Int32) (hf : f_X1_placeAt x1 h = some r) : Ct l o emb A yX1_placeAt cX1_placeAt 2 (some .int) 2 42 [.ref (o.1 9), .int x1] h (some (.int r)) h := by
  refine Ct.of RX1 rfl (by decide +kernel) hA (Nat.le_of_ble_eq_true rfl) (fun p e s m args below meth c X => ?_)
  refine J_sub (lo' := [(0, .ref (o.1 9)), (1, .int x1)]) [0, 1] rfl ?_
  rw [f_X1_placeAt] at hf
  refine J_aload_n X 0 dX1_placeAt_0 rfl rfl ?_
  refine J_iload_n X 1 dX1_placeAt_1 rfl rfl ?_
  obtain ⟨v1, qv1, hf⟩ := ob hf
  refine J_callV X (rest := []) (rs := [.int v1]) (c_X1_signAt l o emb A hA hO x1 h v1 qv1) hO.1 rfl rfl wd_292 wd_293 wd_294 wd_38 wd_295 hd_X1_signAt ⟨Nat.le_of_ble_eq_true rfl, Nat.le_of_ble_eq_true rfl⟩ ⟨Nat.zero_le _, Nat.zero_le _⟩ (Nat.le_of_ble_eq_true rfl) dX1_placeAt_2 rfl rfl ?_
  refine J_bipush X (97 : Int32) dX1_placeAt_5 (by decide) ?_
  refine J_isub X dX1_placeAt_7 ?_
  cases hf
  exact J_iret X dX1_placeAt_8
theorem hd_X1_actLength : yX1_actLength.cls ≠ "java/lang/invoke/MethodHandle" ∧ yX1_actLength.cls ≠ "java/lang/invoke/VarHandle" ∧ (parseMethodDescriptor yX1_actLength.desc).map (fun d => d.parameters.length) = some 1 := by decide +kernel
set_option maxHeartbeats 4000000 in
set_option maxRecDepth 100000 in
theorem c_X1_actLength (l : Launch) (o : Om) (emb : Hp → va_W) (A : Nat → Prop) (hA : ∀ h : Hp, va_D A (emb h)) (hO : isX1 o emb) (x1 : Int32) (h : Hp) (r : Int32) (hf : f_X1_actLength x1 h = some r) : Ct l o emb A yX1_actLength cX1_actLength 3 (some .int) 2 42 [.ref (o.1 9), .int x1] h (some (.int r)) h := by
  refine Ct.of RX1 rfl (by decide +kernel) hA (Nat.le_of_ble_eq_true rfl) (fun p e s m args below meth c X => ?_)
  refine J_sub (lo' := [(0, .ref (o.1 9)), (1, .int x1)]) [0, 1] rfl ?_
  rw [f_X1_actLength] at hf
  refine J_aload_n X 0 dX1_actLength_0 rfl rfl ?_
  refine J_iload_n X 1 dX1_actLength_1 rfl rfl ?_
  obtain ⟨v1, qv1, hf⟩ := ob hf
  refine J_callV X (rest := []) (rs := [.int v1]) (c_X1_signAt l o emb A hA hO x1 h v1 qv1) hO.1 rfl rfl wd_292 wd_293 wd_294 wd_38 wd_295 hd_X1_signAt ⟨Nat.le_of_ble_eq_true rfl, Nat.le_of_ble_eq_true rfl⟩ ⟨Nat.zero_le _, Nat.zero_le _⟩ (Nat.le_of_ble_eq_true rfl) dX1_actLength_2 rfl rfl ?_
  refine J_istore_n X [(2, .int v1), (0, .ref (o.1 9)), (1, .int x1)] dX1_actLength_5 rfl (Nat.le_of_ble_eq_true rfl) rfl ?_
  refine J_iload_n X 0 dX1_actLength_6 rfl rfl ?_
  refine J_bipush X (65 : Int32) dX1_actLength_7 (by decide) ?_
  refine J_isub X dX1_actLength_9 ?_
  obtain ⟨v2, qv2, hf⟩ := ob hf
  refine J_callSN X (rest := []) (rs := [.int v2]) (c_X5_isWalker l o emb A hA (v1 - (65 : Int32)) h v2 qv2) nw_297 wd_236 wd_34 wd_237 hd_X5_isWalker ⟨Nat.le_of_ble_eq_true rfl, Nat.le_of_ble_eq_true rfl⟩ ⟨Nat.zero_le _, Nat.zero_le _⟩ (Nat.le_of_ble_eq_true rfl) dX1_actLength_10 rfl rfl ?_
  refine J_if_eq (tgt := 18) X dX1_actLength_13 (by decide) (fun c13 => ?_) (fun c13 => ?_)
  · rw [if_pos c13] at hf
    refine J_iload_n X 0 dX1_actLength_18 rfl rfl ?_
    refine J_bipush X (109 : Int32) dX1_actLength_19 (by decide) ?_
    refine J_icmp_ne (tgt := 26) X dX1_actLength_21 (by decide) (fun c21 => ?_) (fun c21 => ?_)
    · rw [if_neg c21] at hf
      refine J_iload_n X 0 dX1_actLength_26 rfl rfl ?_
      refine J_bipush X (112 : Int32) dX1_actLength_27 (by decide) ?_
      refine J_icmp_ne (tgt := 34) X dX1_actLength_29 (by decide) (fun c29 => ?_) (fun c29 => ?_)
      · rw [if_neg c29] at hf
        refine J_iload_n X 0 dX1_actLength_34 rfl rfl ?_
        refine J_bipush X (46 : Int32) dX1_actLength_35 (by decide) ?_
        refine J_icmp_ne (tgt := 44) X dX1_actLength_37 (by decide) (fun c37 => ?_) (fun c37 => ?_)
        · rw [if_neg c37] at hf
          refine J_const X (0 : Int32) dX1_actLength_44 (by decide) ?_
          cases hf
          exact J_iret X dX1_actLength_45
        · rw [if_pos c37] at hf
          refine J_const X (1 : Int32) dX1_actLength_40 (by decide) ?_
          refine J_goto (tgt := 45) X dX1_actLength_41 (by decide) ?_
          cases hf
          exact J_iret X dX1_actLength_45
      · rw [if_pos c29] at hf
        refine J_const X (5 : Int32) dX1_actLength_32 (by decide) ?_
        cases hf
        exact J_iret X dX1_actLength_33
    · rw [if_pos c21] at hf
      refine J_const X (3 : Int32) dX1_actLength_24 (by decide) ?_
      cases hf
      exact J_iret X dX1_actLength_25
  · rw [if_neg c13] at hf
    refine J_const X (2 : Int32) dX1_actLength_16 (by decide) ?_
    cases hf
    exact J_iret X dX1_actLength_17
theorem hd_X1_canGoOn : yX1_canGoOn.cls ≠ "java/lang/invoke/MethodHandle" ∧ yX1_canGoOn.cls ≠ "java/lang/invoke/VarHandle" ∧ (parseMethodDescriptor yX1_canGoOn.desc).map (fun d => d.parameters.length) = some 2 := by decide +kernel
set_option maxHeartbeats 4000000 in
set_option maxRecDepth 100000 in
theorem c_X1_canGoOn (l : Launch) (o : Om) (emb : Hp → va_W) (A : Nat → Prop) (hA : ∀ h : Hp, va_D A (emb h)) (hO : isX1 o emb) (x1 : Int32) (x2 : Int32) (h : Hp) (r : Int32) (hf : f_X1_canGoOn x1 x2 h = some r) : Ct l o emb A yX1_canGoOn cX1_canGoOn 4 (some .boolean) 3 64 [.ref (o.1 9), .int x1, .int x2] h (some (.int r)) h := by
  refine Ct.of RX1 rfl (by decide +kernel) hA (Nat.le_of_ble_eq_true rfl) (fun p e s m args below meth c X => ?_)
  refine J_sub (lo' := [(0, .ref (o.1 9)), (1, .int x1), (2, .int x2)]) [0, 1, 2] rfl ?_
  rw [f_X1_canGoOn] at hf
  refine J_aload_n X 0 dX1_canGoOn_0 rfl rfl ?_
  refine J_iload_n X 1 dX1_canGoOn_1 rfl rfl ?_
  obtain ⟨v1, qv1, hf⟩ := ob hf
  refine J_callV X (rest := []) (rs := [.int v1]) (c_X1_actLength l o emb A hA hO x1 h v1 qv1) hO.1 rfl rfl wd_288 wd_289 wd_290 wd_38 wd_291 hd_X1_actLength ⟨Nat.le_of_ble_eq_true rfl, Nat.le_of_ble_eq_true rfl⟩ ⟨Nat.zero_le _, Nat.zero_le _⟩ (Nat.le_of_ble_eq_true rfl) dX1_canGoOn_2 rfl rfl ?_
  refine J_const X (2 : Int32) dX1_canGoOn_5 (by decide) ?_
  obtain ⟨t3, qt3, hf⟩ := ob hf
  have yk2 : J p l e (rmf 3 64) s m args below meth c 0 0 (MQ below (WdQ o emb A (some (.int r)) h) args s 0 0 A) o emb A s.heap 4 14 [(0, .ref (o.1 9)), (2, .int x2)] [.int t3] h := by
    refine J_istore_n X [(3, .int t3), (0, .ref (o.1 9)), (2, .int x2)] dX1_canGoOn_14 rfl (Nat.le_of_ble_eq_true rfl) rfl ?_
    refine J_aload_n X 1 dX1_canGoOn_15 rfl rfl ?_
    refine J_iload_n X 2 dX1_canGoOn_16 rfl rfl ?_
    obtain ⟨v4, qv4, hf⟩ := ob hf
    refine J_callV X (rest := []) (rs := [.int v4]) (c_X1_placeAt l o emb A hA hO x2 h v4 qv4) hO.1 rfl rfl wd_302 wd_303 wd_304 wd_38 wd_305 hd_X1_placeAt ⟨Nat.le_of_ble_eq_true rfl, Nat.le_of_ble_eq_true rfl⟩ ⟨Nat.zero_le _, Nat.zero_le _⟩ (Nat.le_of_ble_eq_true rfl) dX1_canGoOn_17 rfl rfl ?_
    obtain ⟨v5, qv5, hf⟩ := ob hf
    refine J_callSN X (rest := []) (rs := [.int v5]) (c_X5_isPlace l o emb A hA v4 h v5 qv5) nw_306 wd_239 wd_34 wd_240 hd_X5_isPlace ⟨Nat.le_of_ble_eq_true rfl, Nat.le_of_ble_eq_true rfl⟩ ⟨Nat.zero_le _, Nat.zero_le _⟩ (Nat.le_of_ble_eq_true rfl) dX1_canGoOn_20 rfl rfl ?_
    refine J_if_ne (tgt := 40) X dX1_canGoOn_23 (by decide) (fun c23 => ?_) (fun c23 => ?_)
    · rw [if_neg c23] at hf
      refine J_const X (1 : Int32) dX1_canGoOn_40 (by decide) ?_
      refine J_goto (tgt := 45) X dX1_canGoOn_41 (by decide) ?_
      cases hf
      exact J_zret X rfl dX1_canGoOn_45
    · rw [if_pos c23] at hf
      refine J_iload_n X 0 dX1_canGoOn_26 rfl rfl ?_
      refine J_if_eq (tgt := 44) X dX1_canGoOn_27 (by decide) (fun c27 => ?_) (fun c27 => ?_)
      · rw [if_pos c27] at hf
        refine J_const X (0 : Int32) dX1_canGoOn_44 (by decide) ?_
        cases hf
        exact J_zret X rfl dX1_canGoOn_45
      · rw [if_neg c27] at hf
        refine J_aload_n X 1 dX1_canGoOn_30 rfl rfl ?_
        refine J_iload_n X 2 dX1_canGoOn_31 rfl rfl ?_
        obtain ⟨v6, qv6, hf⟩ := ob hf
        refine J_callV X (rest := []) (rs := [.int v6]) (c_X1_signAt l o emb A hA hO x2 h v6 qv6) hO.1 rfl rfl wd_292 wd_293 wd_294 wd_38 wd_295 hd_X1_signAt ⟨Nat.le_of_ble_eq_true rfl, Nat.le_of_ble_eq_true rfl⟩ ⟨Nat.zero_le _, Nat.zero_le _⟩ (Nat.le_of_ble_eq_true rfl) dX1_canGoOn_32 rfl rfl ?_
        refine J_bipush X (94 : Int32) dX1_canGoOn_35 (by decide) ?_
        refine J_icmp_ne (tgt := 44) X dX1_canGoOn_37 (by decide) (fun c37 => ?_) (fun c37 => ?_)
        · rw [if_neg c37] at hf
          refine J_const X (0 : Int32) dX1_canGoOn_44 (by decide) ?_
          cases hf
          exact J_zret X rfl dX1_canGoOn_45
        · rw [if_pos c37] at hf
          refine J_const X (1 : Int32) dX1_canGoOn_40 (by decide) ?_
          refine J_goto (tgt := 45) X dX1_canGoOn_41 (by decide) ?_
          cases hf
          exact J_zret X rfl dX1_canGoOn_45
  clear hf
  have hf := qt3
  clear qt3
  refine J_icmp_ne (tgt := 13) X dX1_canGoOn_6 (by decide) (fun c6 => ?_) (fun c6 => ?_)
  · rw [if_neg c6] at hf
    refine J_const X (0 : Int32) dX1_canGoOn_13 (by decide) ?_
    cases hf
    exact J_sub [0, 2] rfl yk2
  · rw [if_pos c6] at hf
    refine J_const X (1 : Int32) dX1_canGoOn_9 (by decide) ?_
    refine J_goto (tgt := 14) X dX1_canGoOn_10 (by decide) ?_
    cases hf
    exact J_sub [0, 2] rfl yk2
theorem hd_X1_faultPlace : yX1_faultPlace.cls ≠ "java/lang/invoke/MethodHandle" ∧ yX1_faultPlace.cls ≠ "java/lang/invoke/VarHandle" ∧ (parseMethodDescriptor yX1_faultPlace.desc).map (fun d => d.parameters.length) = some 0 := by decide +kernel
set_option maxHeartbeats 4000000 in
set_option maxRecDepth 100000 in
theorem cf_X1_faultPlace_l33 (hA : ∀ h : Hp, va_D A (emb h)) (X : Cx p s m args meth c RX1 cX1_faultPlace 5 (some .int) o)  (hO : isX1 o emb) (s1 : Int32) (s2 : Int32) (s3 : Int32) (h : Hp) {kx : Int32 → Option Int32} (r : Int32) : ∀ (n : Nat) (s4 : Int32), f_X1_faultPlace_l33 s1 s2 s3 h kx n s4 = some r → (∀ (s4 : Int32), kx s4 = some r → J p l e (rmf 4 87) s m args below meth c 0 0 (MQ below (WdQ o emb A (some (.int r)) h) args s 0 0 A) o emb A s.heap 5 78 [(0, .ref (o.1 9)), (1, .int s1), (2, .int s2), (3, .int s3)] [] h) → J p l e (rmf 4 87) s m args below meth c 0 0 (MQ below (WdQ o emb A (some (.int r)) h) args s 0 0 A) o emb A s.heap 5 33 [(0, .ref (o.1 9)), (1, .int s1), (2, .int s2), (3, .int s3), (4, .int s4)] [] h := by
  intro n
  induction n with
  | zero =>
    intro s4 hf hk
    cases hf
  | succ n ih =>
    intro s4 hf hk
    rw [f_X1_faultPlace_l33] at hf
    refine J_iload X 4 dX1_faultPlace_33 rfl ?_
    refine J_iload_n X 3 dX1_faultPlace_35 rfl rfl ?_
    refine J_icmp_ge (tgt := 78) X dX1_faultPlace_36 (by decide) (fun c36 => ?_) (fun c36 => ?_)
    · rw [if_pos c36] at hf
      exact J_sub [0, 1, 2, 3] rfl (hk s4 hf)
    · rw [if_neg c36] at hf
      refine J_iload_n X 1 dX1_faultPlace_39 rfl rfl ?_
      refine J_iload X 4 dX1_faultPlace_40 rfl ?_
      refine J_iadd X dX1_faultPlace_42 ?_
      refine J_aload_n X 0 dX1_faultPlace_43 rfl rfl ?_
      refine J_get X hO.1 inX1 rfl 1 (Nat.le_of_ble_eq_true rfl) wd_108 rfl (v := .int (h.1 9 1)) rfl dX1_faultPlace_44 ?_
      refine J_icmp_lt (tgt := 55) X dX1_faultPlace_47 (by decide) (fun c47 => ?_) (fun c47 => ?_)
      · rw [if_pos c47] at hf
        refine J_aload_n X 0 dX1_faultPlace_55 rfl rfl ?_
        refine J_iload_n X 1 dX1_faultPlace_56 rfl rfl ?_
        refine J_iload_n X 1 dX1_faultPlace_57 rfl rfl ?_
        refine J_iload X 4 dX1_faultPlace_58 rfl ?_
        refine J_iadd X dX1_faultPlace_60 ?_
        obtain ⟨v2, qv2, hf⟩ := ob hf
        refine J_callV X (rest := []) (rs := [.int v2]) (c_X1_canGoOn l o emb A hA hO s1 (s1 + s4) h v2 qv2) hO.1 rfl rfl wd_298 wd_300 wd_0 wd_38 wd_301 hd_X1_canGoOn ⟨Nat.le_of_ble_eq_true rfl, Nat.le_of_ble_eq_true rfl⟩ ⟨Nat.zero_le _, Nat.zero_le _⟩ (Nat.le_of_ble_eq_true rfl) dX1_faultPlace_61 rfl rfl ?_
        refine J_if_ne (tgt := 72) X dX1_faultPlace_64 (by decide) (fun c64 => ?_) (fun c64 => ?_)
        · rw [if_neg c64] at hf
          obtain ⟨v3, qv3, hf⟩ := ob hf
          refine J_iinc X 4 [(4, .int v3), (0, .ref (o.1 9)), (1, .int s1), (2, .int s2), (3, .int s3)] dX1_faultPlace_72 rfl (Option.some.inj qv3) (Nat.le_of_ble_eq_true rfl) rfl ?_
          refine J_goto (tgt := 33) X dX1_faultPlace_75 (by decide) ?_
          exact J_sub [1, 2, 3, 4, 0] rfl (ih v3 hf hk)
        · rw [if_pos c64] at hf
          refine J_iload_n X 1 dX1_faultPlace_67 rfl rfl ?_
          refine J_iload X 4 dX1_faultPlace_68 rfl ?_
          refine J_iadd X dX1_faultPlace_70 ?_
          cases hf
          exact J_iret X dX1_faultPlace_71
      · rw [if_neg c47] at hf
        refine J_aload_n X 0 dX1_faultPlace_50 rfl rfl ?_
        refine J_get X hO.1 inX1 rfl 1 (Nat.le_of_ble_eq_true rfl) wd_108 rfl (v := .int (h.1 9 1)) rfl dX1_faultPlace_51 ?_
        cases hf
        exact J_iret X dX1_faultPlace_54
set_option maxHeartbeats 4000000 in
set_option maxRecDepth 100000 in
theorem cf_X1_faultPlace_l4 (hA : ∀ h : Hp, va_D A (emb h)) (X : Cx p s m args meth c RX1 cX1_faultPlace 5 (some .int) o)  (hO : isX1 o emb)  (h : Hp) {kx : Int32 → Int32 → Option Int32} (r : Int32) : ∀ (n : Nat) (s1 : Int32) (s2 : Int32), f_X1_faultPlace_l4 h kx n s1 s2 = some r → (∀ (s1 : Int32) (s2 : Int32), kx s1 s2 = some r → J p l e (rmf 4 87) s m args below meth c 0 0 (MQ below (WdQ o emb A (some (.int r)) h) args s 0 0 A) o emb A s.heap 5 88 [] [] h) → J p l e (rmf 4 87) s m args below meth c 0 0 (MQ below (WdQ o emb A (some (.int r)) h) args s 0 0 A) o emb A s.heap 5 4 [(0, .ref (o.1 9)), (1, .int s1), (2, .int s2)] [] h := by
  intro n
  induction n with
  | zero =>
    intro s1 s2 hf hk
    cases hf
  | succ n ih =>
    intro s1 s2 hf hk
    rw [f_X1_faultPlace_l4] at hf
    refine J_iload_n X 2 dX1_faultPlace_4 rfl rfl ?_
    refine J_bipush X (60 : Int32) dX1_faultPlace_5 (by decide) ?_
    refine J_icmp_ge (tgt := 88) X dX1_faultPlace_7 (by decide) (fun c7 => ?_) (fun c7 => ?_)
    · rw [if_pos c7] at hf
      exact J_sub [] rfl (hk s1 s2 hf)
    · rw [if_neg c7] at hf
      refine J_iload_n X 1 dX1_faultPlace_10 rfl rfl ?_
      refine J_aload_n X 0 dX1_faultPlace_11 rfl rfl ?_
      refine J_get X hO.1 inX1 rfl 1 (Nat.le_of_ble_eq_true rfl) wd_108 rfl (v := .int (h.1 9 1)) rfl dX1_faultPlace_12 ?_
      refine J_icmp_ge (tgt := 88) X dX1_faultPlace_15 (by decide) (fun c15 => ?_) (fun c15 => ?_)
      · rw [if_pos c15] at hf
        exact J_sub [] rfl (hk s1 s2 hf)
      · rw [if_neg c15] at hf
        refine J_aload_n X 0 dX1_faultPlace_18 rfl rfl ?_
        refine J_iload_n X 1 dX1_faultPlace_19 rfl rfl ?_
        obtain ⟨v1, qv1, hf⟩ := ob hf
        refine J_callV X (rest := []) (rs := [.int v1]) (c_X1_actLength l o emb A hA hO s1 h v1 qv1) hO.1 rfl rfl wd_288 wd_289 wd_290 wd_38 wd_291 hd_X1_actLength ⟨Nat.le_of_ble_eq_true rfl, Nat.le_of_ble_eq_true rfl⟩ ⟨Nat.zero_le _, Nat.zero_le _⟩ (Nat.le_of_ble_eq_true rfl) dX1_faultPlace_20 rfl rfl ?_
        refine J_istore_n X [(3, .int v1), (0, .ref (o.1 9)), (1, .int s1), (2, .int s2)] dX1_faultPlace_23 rfl (Nat.le_of_ble_eq_true rfl) rfl ?_
        refine J_iload_n X 0 dX1_faultPlace_24 rfl rfl ?_
        refine J_if_ne (tgt := 30) X dX1_faultPlace_25 (by decide) (fun c25 => ?_) (fun c25 => ?_)
        · rw [if_neg c25] at hf
          refine J_const X (1 : Int32) dX1_faultPlace_30 (by decide) ?_
          refine J_istore X [(4, .int (1 : Int32)), (3, .int v1), (0, .ref (o.1 9)), (1, .int s1), (2, .int s2)] dX1_faultPlace_31 (Nat.le_of_ble_eq_true rfl) rfl ?_
          refine J_sub (lo' := [(0, .ref (o.1 9)), (1, .int s1), (2, .int s2), (3, .int v1), (4, .int (1 : Int32))]) [2, 3, 4, 1, 0] rfl ?_
          refine cf_X1_faultPlace_l33 hA X  hO s1 s2 v1 h r _ (1 : Int32) hf (fun w4 hf => ?_)
          refine J_iload_n X 1 dX1_faultPlace_78 rfl rfl ?_
          refine J_iload_n X 3 dX1_faultPlace_79 rfl rfl ?_
          refine J_iadd X dX1_faultPlace_80 ?_
          obtain ⟨v5, qv5, hf⟩ := ob hf
          refine J_topi v5 (Option.some.inj qv5) ?_
          refine J_istore_n X [(1, .int v5), (0, .ref (o.1 9)), (2, .int s2), (3, .int v1)] dX1_faultPlace_81 rfl (Nat.le_of_ble_eq_true rfl) rfl ?_
          obtain ⟨v6, qv6, hf⟩ := ob hf
          refine J_iinc X 2 [(2, .int v6), (1, .int v5), (0, .ref (o.1 9)), (3, .int v1)] dX1_faultPlace_82 rfl (Option.some.inj qv6) (Nat.le_of_ble_eq_true rfl) rfl ?_
          refine J_goto (tgt := 4) X dX1_faultPlace_85 (by decide) ?_
          exact J_sub [2, 1, 0] rfl (ih v5 v6 hf hk)
        · rw [if_pos c25] at hf
          refine J_iload_n X 2 dX1_faultPlace_28 rfl rfl ?_
          cases hf
          exact J_iret X dX1_faultPlace_29
set_option maxHeartbeats 4000000 in
set_option maxRecDepth 100000 in
theorem c_X1_faultPlace (l : Launch) (o : Om) (emb : Hp → va_W) (A : Nat → Prop) (hA : ∀ h : Hp, va_D A (emb h)) (hO : isX1 o emb) (h : Hp) (r : Int32) (hf : f_X1_faultPlace h = some r) : Ct l o emb A yX1_faultPlace cX1_faultPlace 5 (some .int) 4 87 [.ref (o.1 9)] h (some (.int r)) h := by
  refine Ct.of RX1 rfl (by decide +kernel) hA (Nat.le_of_ble_eq_true rfl) (fun p e s m args below meth c X => ?_)
  refine J_sub (lo' := [(0, .ref (o.1 9))]) [0] rfl ?_
  rw [f_X1_faultPlace] at hf
  refine J_const X (0 : Int32) dX1_faultPlace_0 (by decide) ?_
  refine J_istore_n X [(1, .int (0 : Int32)), (0, .ref (o.1 9))] dX1_faultPlace_1 rfl (Nat.le_of_ble_eq_true rfl) rfl ?_
  refine J_const X (0 : Int32) dX1_faultPlace_2 (by decide) ?_
  refine J_istore_n X [(2, .int (0 : Int32)), (1, .int (0 : Int32)), (0, .ref (o.1 9))] dX1_faultPlace_3 rfl (Nat.le_of_ble_eq_true rfl) rfl ?_
  refine J_sub (lo' := [(0, .ref (o.1 9)), (1, .int (0 : Int32)), (2, .int (0 : Int32))]) [2, 1, 0] rfl ?_
  refine cf_X1_faultPlace_l4 hA X  hO  h r _ (0 : Int32) (0 : Int32) hf (fun w7 w8 hf => ?_)
  refine J_bipush X (-6 : Int32) dX1_faultPlace_88 (by decide) ?_
  cases hf
  exact J_iret X dX1_faultPlace_90
theorem hd_X2_copyFrom : yX2_copyFrom.cls ≠ "java/lang/invoke/MethodHandle" ∧ yX2_copyFrom.cls ≠ "java/lang/invoke/VarHandle" ∧ (parseMethodDescriptor yX2_copyFrom.desc).map (fun d => d.parameters.length) = some 1 := by decide +kernel
set_option maxHeartbeats 4000000 in
set_option maxRecDepth 100000 in
theorem c_X2_copyFrom (l : Launch) (o : Om) (emb : Hp → va_W) (A : Nat → Prop) (hA : ∀ h : Hp, va_D A (emb h)) (a : Nat) (b1 : Nat) (hO : isX2 o emb a) (hB1 : isX2 o emb b1) (h : Hp)  (h' : Hp) (hf : f_X2_copyFrom a b1 h = some h') : Ct l o emb A yX2_copyFrom cX2_copyFrom 2 none 1 22 [.ref (o.1 a), .ref (o.1 b1)] h none h' := by
  refine Ct.of RX2 rfl (by decide +kernel) hA (Nat.le_of_ble_eq_true rfl) (fun p e s m args below meth c X => ?_)
  refine J_sub (lo' := [(0, .ref (o.1 a)), (1, .ref (o.1 b1))]) [0, 1] rfl ?_
  rw [f_X2_copyFrom] at hf
  refine J_aload_n X 1 dX2_copyFrom_0 rfl rfl ?_
  refine J_get X hB1.1 inX2 rfl 0 (Nat.le_of_ble_eq_true rfl) wd_61 rfl (v := .ref (o.1 (b1 + 1))) rfl dX2_copyFrom_1 ?_
  refine J_aload_n X 0 dX2_copyFrom_4 rfl rfl ?_
  refine J_get X hO.1 inX2 rfl 0 (Nat.le_of_ble_eq_true rfl) wd_61 rfl (v := .ref (o.1 (a + 1))) rfl dX2_copyFrom_5 ?_
  obtain ⟨h1, qh1, hf⟩ := ob hf
  refine J_callSN X (rest := []) (rs := []) (c_X5_copy l o emb A hA (b1 + 1) 81 (a + 1) 81 hB1.2.1 hO.2.1 h h1 qh1) nw_323 wd_324 wd_34 wd_325 hd_X5_copy ⟨Nat.le_of_ble_eq_true rfl, Nat.le_of_ble_eq_true rfl⟩ ⟨Nat.zero_le _, Nat.zero_le _⟩ (Nat.le_of_ble_eq_true rfl) dX2_copyFrom_8 rfl rfl ?_
  refine J_aload_n X 1 dX2_copyFrom_11 rfl rfl ?_
  refine J_get X hB1.1 inX2 rfl 1 (Nat.le_of_ble_eq_true rfl) wd_62 rfl (v := .ref (o.1 (b1 + 2))) rfl dX2_copyFrom_12 ?_
  refine J_aload_n X 0 dX2_copyFrom_15 rfl rfl ?_
  refine J_get X hO.1 inX2 rfl 1 (Nat.le_of_ble_eq_true rfl) wd_62 rfl (v := .ref (o.1 (a + 2))) rfl dX2_copyFrom_16 ?_
  obtain ⟨h2, qh2, hf⟩ := ob hf
  refine J_callSN X (rest := []) (rs := []) (c_X5_copy l o emb A hA (b1 + 2) 6 (a + 2) 6 hB1.2.2.1 hO.2.2.1 h1 h2 qh2) nw_323 wd_324 wd_34 wd_325 hd_X5_copy ⟨Nat.le_of_ble_eq_true rfl, Nat.le_of_ble_eq_true rfl⟩ ⟨Nat.zero_le _, Nat.zero_le _⟩ (Nat.le_of_ble_eq_true rfl) dX2_copyFrom_19 rfl rfl ?_
  refine J_aload_n X 1 dX2_copyFrom_22 rfl rfl ?_
  refine J_get X hB1.1 inX2 rfl 2 (Nat.le_of_ble_eq_true rfl) wd_63 rfl (v := .ref (o.1 (b1 + 3))) rfl dX2_copyFrom_23 ?_
  refine J_aload_n X 0 dX2_copyFrom_26 rfl rfl ?_
  refine J_get X hO.1 inX2 rfl 2 (Nat.le_of_ble_eq_true rfl) wd_63 rfl (v := .ref (o.1 (a + 3))) rfl dX2_copyFrom_27 ?_
  obtain ⟨h3, qh3, hf⟩ := ob hf
  refine J_callSN X (rest := []) (rs := []) (c_X5_copy l o emb A hA (b1 + 3) 6 (a + 3) 6 hB1.2.2.2 hO.2.2.2 h2 h3 qh3) nw_323 wd_324 wd_34 wd_325 hd_X5_copy ⟨Nat.le_of_ble_eq_true rfl, Nat.le_of_ble_eq_true rfl⟩ ⟨Nat.zero_le _, Nat.zero_le _⟩ (Nat.le_of_ble_eq_true rfl) dX2_copyFrom_30 rfl rfl ?_
  refine J_aload_n X 0 dX2_copyFrom_33 rfl rfl ?_
  refine J_aload_n X 1 dX2_copyFrom_34 rfl rfl ?_
  refine J_get X hB1.1 inX2 rfl 3 (Nat.le_of_ble_eq_true rfl) wd_64 rfl (v := .int (h3.1 b1 3)) rfl dX2_copyFrom_35 ?_
  obtain ⟨h4, qh4, hf⟩ := ob hf
  refine J_put X hO.1 inX2 tyX2 tyX2_ok nmX2 rfl 3 (Nat.le_of_ble_eq_true rfl) (by decide) wd_64 rfl rfl (ty := .int) (by decide +kernel) rfl rfl (Nat.le_of_ble_eq_true rfl) dX2_copyFrom_38 ?_
  refine J_hp h4 (Option.some.inj qh4) ?_
  refine J_aload_n X 0 dX2_copyFrom_41 rfl rfl ?_
  refine J_bipush X (-6 : Int32) dX2_copyFrom_42 (by decide) ?_
  obtain ⟨h5, qh5, hf⟩ := ob hf
  refine J_put X hO.1 inX2 tyX2 tyX2_ok nmX2 rfl 4 (Nat.le_of_ble_eq_true rfl) (by decide) wd_66 rfl rfl (ty := .int) (by decide +kernel) rfl rfl (Nat.le_of_ble_eq_true rfl) dX2_copyFrom_44 ?_
  refine J_hp h5 (Option.some.inj qh5) ?_
  cases hf
  exact J_vret X dX2_copyFrom_47
theorem hd_X2_roadBetween : yX2_roadBetween.cls ≠ "java/lang/invoke/MethodHandle" ∧ yX2_roadBetween.cls ≠ "java/lang/invoke/VarHandle" ∧ (parseMethodDescriptor yX2_roadBetween.desc).map (fun d => d.parameters.length) = some 2 := by decide +kernel
set_option maxHeartbeats 4000000 in
set_option maxRecDepth 100000 in
theorem c_X2_roadBetween (l : Launch) (o : Om) (emb : Hp → va_W) (A : Nat → Prop) (hA : ∀ h : Hp, va_D A (emb h)) (a : Nat) (hO : isX2 o emb a) (x1 : Int32) (x2 : Int32) (h : Hp) (r : Int32) (hf : f_X2_roadBetween a x1 x2 h = some r) : Ct l o emb A yX2_roadBetween cX2_roadBetween 3 (some .int) 1 21 [.ref (o.1 a), .int x1, .int x2] h (some (.int r)) h := by
  refine Ct.of RX2 rfl (by decide +kernel) hA (Nat.le_of_ble_eq_true rfl) (fun p e s m args below meth c X => ?_)
  refine J_sub (lo' := [(0, .ref (o.1 a)), (1, .int x1), (2, .int x2)]) [0, 1, 2] rfl ?_
  rw [f_X2_roadBetween] at hf
  refine J_iload_n X 1 dX2_roadBetween_0 rfl rfl ?_
  refine J_iload_n X 2 dX2_roadBetween_1 rfl rfl ?_
  obtain ⟨v1, qv1, hf⟩ := ob hf
  refine J_callSN X (rest := []) (rs := [.int v1]) (c_X5_areTwoPlaces l o emb A hA x1 x2 h v1 qv1) nw_223 wd_214 wd_34 wd_215 hd_X5_areTwoPlaces ⟨Nat.le_of_ble_eq_true rfl, Nat.le_of_ble_eq_true rfl⟩ ⟨Nat.zero_le _, Nat.zero_le _⟩ (Nat.le_of_ble_eq_true rfl) dX2_roadBetween_2 rfl rfl ?_
  refine J_if_eq (tgt := 24) X dX2_roadBetween_5 (by decide) (fun c5 => ?_) (fun c5 => ?_)
  · rw [if_pos c5] at hf
    refine J_bipush X (-6 : Int32) dX2_roadBetween_24 (by decide) ?_
    cases hf
    exact J_iret X dX2_roadBetween_26
  · rw [if_neg c5] at hf
    refine J_aload_n X 0 dX2_roadBetween_8 rfl rfl ?_
    refine J_get X hO.1 inX2 rfl 0 (Nat.le_of_ble_eq_true rfl) wd_61 rfl (v := .ref (o.1 (a + 1))) rfl dX2_roadBetween_9 ?_
    refine J_iload_n X 1 dX2_roadBetween_12 rfl rfl ?_
    refine J_bipush X (9 : Int32) dX2_roadBetween_13 (by decide) ?_
    refine J_imul X dX2_roadBetween_15 ?_
    refine J_iload_n X 2 dX2_roadBetween_16 rfl rfl ?_
    refine J_iadd X dX2_roadBetween_17 ?_
    obtain ⟨v2, qv2, hf⟩ := ob hf
    refine J_callSN X (rest := []) (rs := [.int v2]) (c_X5_at l o emb A hA (a + 1) 81 hO.2.1 ((x1 * (9 : Int32)) + x2) h v2 qv2) nw_254 wd_255 wd_34 wd_256 hd_X5_at ⟨Nat.le_of_ble_eq_true rfl, Nat.le_of_ble_eq_true rfl⟩ ⟨Nat.zero_le _, Nat.zero_le _⟩ (Nat.le_of_ble_eq_true rfl) dX2_roadBetween_18 rfl rfl ?_
    refine J_goto (tgt := 26) X dX2_roadBetween_21 (by decide) ?_
    cases hf
    exact J_iret X dX2_roadBetween_26
theorem hd_X2_putRoad : yX2_putRoad.cls ≠ "java/lang/invoke/MethodHandle" ∧ yX2_putRoad.cls ≠ "java/lang/invoke/VarHandle" ∧ (parseMethodDescriptor yX2_putRoad.desc).map (fun d => d.parameters.length) = some 3 := by decide +kernel
set_option maxHeartbeats 4000000 in
set_option maxRecDepth 100000 in
theorem c_X2_putRoad (l : Launch) (o : Om) (emb : Hp → va_W) (A : Nat → Prop) (hA : ∀ h : Hp, va_D A (emb h)) (a : Nat) (hO : isX2 o emb a) (x1 : Int32) (x2 : Int32) (x3 : Int32) (h : Hp)  (h' : Hp) (hf : f_X2_putRoad a x1 x2 x3 h = some h') : Ct l o emb A yX2_putRoad cX2_putRoad 4 none 1 22 [.ref (o.1 a), .int x1, .int x2, .int x3] h none h' := by
  refine Ct.of RX2 rfl (by decide +kernel) hA (Nat.le_of_ble_eq_true rfl) (fun p e s m args below meth c X => ?_)
  refine J_sub (lo' := [(0, .ref (o.1 a)), (1, .int x1), (2, .int x2), (3, .int x3)]) [0, 1, 2, 3] rfl ?_
  rw [f_X2_putRoad] at hf
  refine J_iload_n X 1 dX2_putRoad_0 rfl rfl ?_
  refine J_iload_n X 2 dX2_putRoad_1 rfl rfl ?_
  obtain ⟨v1, qv1, hf⟩ := ob hf
  refine J_callSN X (rest := []) (rs := [.int v1]) (c_X5_areTwoPlaces l o emb A hA x1 x2 h v1 qv1) nw_223 wd_214 wd_34 wd_215 hd_X5_areTwoPlaces ⟨Nat.le_of_ble_eq_true rfl, Nat.le_of_ble_eq_true rfl⟩ ⟨Nat.zero_le _, Nat.zero_le _⟩ (Nat.le_of_ble_eq_true rfl) dX2_putRoad_2 rfl rfl ?_
  refine J_if_ne (tgt := 9) X dX2_putRoad_5 (by decide) (fun c5 => ?_) (fun c5 => ?_)
  · rw [if_neg c5] at hf
    refine J_aload_n X 0 dX2_putRoad_9 rfl rfl ?_
    refine J_get X hO.1 inX2 rfl 0 (Nat.le_of_ble_eq_true rfl) wd_61 rfl (v := .ref (o.1 (a + 1))) rfl dX2_putRoad_10 ?_
    refine J_iload_n X 1 dX2_putRoad_13 rfl rfl ?_
    refine J_bipush X (9 : Int32) dX2_putRoad_14 (by decide) ?_
    refine J_imul X dX2_putRoad_16 ?_
    refine J_iload_n X 2 dX2_putRoad_17 rfl rfl ?_
    refine J_iadd X dX2_putRoad_18 ?_
    refine J_iload_n X 3 dX2_putRoad_19 rfl rfl ?_
    obtain ⟨h2, qh2, hf⟩ := ob hf
    refine J_callSN X (rest := []) (rs := []) (c_X5_put l o emb A hA (a + 1) 81 hO.2.1 ((x1 * (9 : Int32)) + x2) x3 h h2 qh2) nw_224 wd_225 wd_34 wd_226 hd_X5_put ⟨Nat.le_of_ble_eq_true rfl, Nat.le_of_ble_eq_true rfl⟩ ⟨Nat.zero_le _, Nat.zero_le _⟩ (Nat.le_of_ble_eq_true rfl) dX2_putRoad_20 rfl rfl ?_
    refine J_aload_n X 0 dX2_putRoad_23 rfl rfl ?_
    refine J_get X hO.1 inX2 rfl 0 (Nat.le_of_ble_eq_true rfl) wd_61 rfl (v := .ref (o.1 (a + 1))) rfl dX2_putRoad_24 ?_
    refine J_iload_n X 2 dX2_putRoad_27 rfl rfl ?_
    refine J_bipush X (9 : Int32) dX2_putRoad_28 (by decide) ?_
    refine J_imul X dX2_putRoad_30 ?_
    refine J_iload_n X 1 dX2_putRoad_31 rfl rfl ?_
    refine J_iadd X dX2_putRoad_32 ?_
    refine J_iload_n X 3 dX2_putRoad_33 rfl rfl ?_
    obtain ⟨h3, qh3, hf⟩ := ob hf
    refine J_callSN X (rest := []) (rs := []) (c_X5_put l o emb A hA (a + 1) 81 hO.2.1 ((x2 * (9 : Int32)) + x1) x3 h2 h3 qh3) nw_224 wd_225 wd_34 wd_226 hd_X5_put ⟨Nat.le_of_ble_eq_true rfl, Nat.le_of_ble_eq_true rfl⟩ ⟨Nat.zero_le _, Nat.zero_le _⟩ (Nat.le_of_ble_eq_true rfl) dX2_putRoad_34 rfl rfl ?_
    cases hf
    exact J_vret X dX2_putRoad_37
  · rw [if_pos c5] at hf
    cases hf
    exact J_vret X dX2_putRoad_8
theorem hd_X2_isOpen : yX2_isOpen.cls ≠ "java/lang/invoke/MethodHandle" ∧ yX2_isOpen.cls ≠ "java/lang/invoke/VarHandle" ∧ (parseMethodDescriptor yX2_isOpen.desc).map (fun d => d.parameters.length) = some 2 := by decide +kernel
set_option maxHeartbeats 4000000 in
set_option maxRecDepth 100000 in
theorem c_X2_isOpen (l : Launch) (o : Om) (emb : Hp → va_W) (A : Nat → Prop) (hA : ∀ h : Hp, va_D A (emb h)) (a : Nat) (hO : isX2 o emb a) (x1 : Int32) (x2 : Int32) (h : Hp) (r : Int32) (hf : f_X2_isOpen a x1 x2 h = some r) : Ct l o emb A yX2_isOpen cX2_isOpen 3 (some .boolean) 2 43 [.ref (o.1 a), .int x1, .int x2] h (some (.int r)) h := by
  refine Ct.of RX2 rfl (by decide +kernel) hA (Nat.le_of_ble_eq_true rfl) (fun p e s m args below meth c X => ?_)
  refine J_sub (lo' := [(0, .ref (o.1 a)), (1, .int x1), (2, .int x2)]) [0, 1, 2] rfl ?_
  rw [f_X2_isOpen] at hf
  refine J_aload_n X 0 dX2_isOpen_0 rfl rfl ?_
  refine J_iload_n X 1 dX2_isOpen_1 rfl rfl ?_
  refine J_iload_n X 2 dX2_isOpen_2 rfl rfl ?_
  obtain ⟨v1, qv1, hf⟩ := ob hf
  refine J_callV X (rest := []) (rs := [.int v1]) (c_X2_roadBetween l o emb A hA a hO x1 x2 h v1 qv1) hO.1 rfl rfl wd_340 wd_341 wd_342 wd_35 wd_343 hd_X2_roadBetween ⟨Nat.le_of_ble_eq_true rfl, Nat.le_of_ble_eq_true rfl⟩ ⟨Nat.zero_le _, Nat.zero_le _⟩ (Nat.le_of_ble_eq_true rfl) dX2_isOpen_3 rfl rfl ?_
  refine J_const X (0 : Int32) dX2_isOpen_6 (by decide) ?_
  refine J_bipush X (8 : Int32) dX2_isOpen_7 (by decide) ?_
  obtain ⟨v2, qv2, hf⟩ := ob hf
  refine J_callSN X (rest := []) (rs := [.int v2]) (c_X5_within l o emb A hA v1 (0 : Int32) (8 : Int32) h v2 qv2) nw_405 wd_217 wd_34 wd_218 hd_X5_within ⟨Nat.le_of_ble_eq_true rfl, Nat.le_of_ble_eq_true rfl⟩ ⟨Nat.zero_le _, Nat.zero_le _⟩ (Nat.le_of_ble_eq_true rfl) dX2_isOpen_9 rfl rfl ?_
  obtain ⟨v3, qv3, hf⟩ := ob hf
  have zv3 := (zck_s qv3).1
  have yv3 := (zck_s qv3).2
  rw [yv3] at zv3
  refine J_topi v3 yv3 ?_
  cases hf
  exact J_zret X zv3 dX2_isOpen_12
theorem hd_X2_openFrom : yX2_openFrom.cls ≠ "java/lang/invoke/MethodHandle" ∧ yX2_openFrom.cls ≠ "java/lang/invoke/VarHandle" ∧ (parseMethodDescriptor yX2_openFrom.desc).map (fun d => d.parameters.length) = some 1 := by decide +kernel
set_option maxHeartbeats 4000000 in
set_option maxRecDepth 100000 in
theorem cf_X2_openFrom_l4 {R : Type} (hA : ∀ h : Hp, va_D A (emb h)) (X : Cx p s m args meth c RX2 cX2_openFrom 4 (some .int) o) (a : Nat) (hO : isX2 o emb a) (s1 : Int32) (h : Hp) {kx : Int32 → Int32 → Option R} (t : R) : ∀ (n : Nat) (s2 : Int32) (s3 : Int32), f_X2_openFrom_l4 a s1 h kx n s2 s3 = some t → (∀ (s2 : Int32) (s3 : Int32), kx s2 s3 = some t → J p l e (rmf 3 65) s m args below meth c 0 0 Z o emb A H0 4 31 [(2, .int s2)] [] h) → J p l e (rmf 3 65) s m args below meth c 0 0 Z o emb A H0 4 4 [(0, .ref (o.1 a)), (1, .int s1), (2, .int s2), (3, .int s3)] [] h := by
  intro n
  induction n with
  | zero =>
    intro s2 s3 hf hk
    cases hf
  | succ n ih =>
    intro s2 s3 hf hk
    rw [f_X2_openFrom_l4] at hf
    refine J_iload_n X 3 dX2_openFrom_4 rfl rfl ?_
    refine J_bipush X (9 : Int32) dX2_openFrom_5 (by decide) ?_
    refine J_icmp_ge (tgt := 31) X dX2_openFrom_7 (by decide) (fun c7 => ?_) (fun c7 => ?_)
    · rw [if_pos c7] at hf
      exact J_sub [2] rfl (hk s2 s3 hf)
    · rw [if_neg c7] at hf
      refine J_aload_n X 0 dX2_openFrom_10 rfl rfl ?_
      refine J_iload_n X 1 dX2_openFrom_11 rfl rfl ?_
      refine J_iload_n X 3 dX2_openFrom_12 rfl rfl ?_
      obtain ⟨v1, qv1, hf⟩ := ob hf
      refine J_callV X (rest := []) (rs := [.int v1]) (c_X2_isOpen l o emb A hA a hO s1 s3 h v1 qv1) hO.1 rfl rfl wd_414 wd_415 wd_416 wd_35 wd_417 hd_X2_isOpen ⟨Nat.le_of_ble_eq_true rfl, Nat.le_of_ble_eq_true rfl⟩ ⟨Nat.zero_le _, Nat.zero_le _⟩ (Nat.le_of_ble_eq_true rfl) dX2_openFrom_13 rfl rfl ?_
      refine J_if_eq (tgt := 25) X dX2_openFrom_16 (by decide) (fun c16 => ?_) (fun c16 => ?_)
      · rw [if_pos c16] at hf
        obtain ⟨v2, qv2, hf⟩ := ob hf
        refine J_iinc X 3 [(3, .int v2), (0, .ref (o.1 a)), (1, .int s1), (2, .int s2)] dX2_openFrom_25 rfl (Option.some.inj qv2) (Nat.le_of_ble_eq_true rfl) rfl ?_
        refine J_goto (tgt := 4) X dX2_openFrom_28 (by decide) ?_
        exact J_sub [1, 2, 3, 0] rfl (ih s2 v2 hf hk)
      · rw [if_neg c16] at hf
        refine J_iload_n X 2 dX2_openFrom_19 rfl rfl ?_
        refine J_const X (1 : Int32) dX2_openFrom_20 (by decide) ?_
        refine J_iload_n X 3 dX2_openFrom_21 rfl rfl ?_
        refine J_ishl X dX2_openFrom_22 ?_
        refine J_ior X dX2_openFrom_23 ?_
        obtain ⟨v3, qv3, hf⟩ := ob hf
        refine J_topi v3 (Option.some.inj qv3) ?_
        refine J_istore_n X [(2, .int v3), (0, .ref (o.1 a)), (1, .int s1), (3, .int s3)] dX2_openFrom_24 rfl (Nat.le_of_ble_eq_true rfl) rfl ?_
        obtain ⟨v4, qv4, hf⟩ := ob hf
        refine J_iinc X 3 [(3, .int v4), (2, .int v3), (0, .ref (o.1 a)), (1, .int s1)] dX2_openFrom_25 rfl (Option.some.inj qv4) (Nat.le_of_ble_eq_true rfl) rfl ?_
        refine J_goto (tgt := 4) X dX2_openFrom_28 (by decide) ?_
        exact J_sub [2, 3, 1, 0] rfl (ih v3 v4 hf hk)
set_option maxHeartbeats 4000000 in
set_option maxRecDepth 100000 in
theorem c_X2_openFrom (l : Launch) (o : Om) (emb : Hp → va_W) (A : Nat → Prop) (hA : ∀ h : Hp, va_D A (emb h)) (a : Nat) (hO : isX2 o emb a) (x1 : Int32) (h : Hp) (r : Int32) (hf : f_X2_openFrom a x1 h = some r) : Ct l o emb A yX2_openFrom cX2_openFrom 4 (some .int) 3 65 [.ref (o.1 a), .int x1] h (some (.int r)) h := by
  refine Ct.of RX2 rfl (by decide +kernel) hA (Nat.le_of_ble_eq_true rfl) (fun p e s m args below meth c X => ?_)
  refine J_sub (lo' := [(0, .ref (o.1 a)), (1, .int x1)]) [0, 1] rfl ?_
  rw [f_X2_openFrom] at hf
  refine J_const X (0 : Int32) dX2_openFrom_0 (by decide) ?_
  refine J_istore_n X [(2, .int (0 : Int32)), (0, .ref (o.1 a)), (1, .int x1)] dX2_openFrom_1 rfl (Nat.le_of_ble_eq_true rfl) rfl ?_
  refine J_const X (0 : Int32) dX2_openFrom_2 (by decide) ?_
  refine J_istore_n X [(3, .int (0 : Int32)), (2, .int (0 : Int32)), (0, .ref (o.1 a)), (1, .int x1)] dX2_openFrom_3 rfl (Nat.le_of_ble_eq_true rfl) rfl ?_
  refine J_sub (lo' := [(0, .ref (o.1 a)), (1, .int x1), (2, .int (0 : Int32)), (3, .int (0 : Int32))]) [2, 3, 1, 0] rfl ?_
  refine cf_X2_openFrom_l4 hA X a hO x1 h _ _ (0 : Int32) (0 : Int32) hf (fun w5 w6 hf => ?_)
  refine J_iload_n X 0 dX2_openFrom_31 rfl rfl ?_
  cases hf
  exact J_iret X dX2_openFrom_32
theorem hd_X2_countRoads : yX2_countRoads.cls ≠ "java/lang/invoke/MethodHandle" ∧ yX2_countRoads.cls ≠ "java/lang/invoke/VarHandle" ∧ (parseMethodDescriptor yX2_countRoads.desc).map (fun d => d.parameters.length) = some 0 := by decide +kernel
set_option maxHeartbeats 4000000 in
set_option maxRecDepth 100000 in
theorem cf_X2_countRoads_l4 {R : Type} (hA : ∀ h : Hp, va_D A (emb h)) (X : Cx p s m args meth c RX2 cX2_countRoads 3 (some .int) o) (a : Nat) (hO : isX2 o emb a)  (h : Hp) {kx : Int32 → Int32 → Option R} (t : R) : ∀ (n : Nat) (s1 : Int32) (s2 : Int32), f_X2_countRoads_l4 a h kx n s1 s2 = some t → (∀ (s1 : Int32) (s2 : Int32), kx s1 s2 = some t → J p l e (rmf 0 0) s m args below meth c 0 0 Z o emb A H0 3 33 [(1, .int s1)] [] h) → J p l e (rmf 0 0) s m args below meth c 0 0 Z o emb A H0 3 4 [(0, .ref (o.1 a)), (1, .int s1), (2, .int s2)] [] h := by
  intro n
  induction n with
  | zero =>
    intro s1 s2 hf hk
    cases hf
  | succ n ih =>
    intro s1 s2 hf hk
    rw [f_X2_countRoads_l4] at hf
    refine J_iload_n X 2 dX2_countRoads_4 rfl rfl ?_
    refine J_aload_n X 0 dX2_countRoads_5 rfl rfl ?_
    refine J_get X hO.1 inX2 rfl 0 (Nat.le_of_ble_eq_true rfl) wd_61 rfl (v := .ref (o.1 (a + 1))) rfl dX2_countRoads_6 ?_
    refine J_alenI X hO.2.1 (81 : Int32) (by decide) dX2_countRoads_9 ?_
    refine J_icmp_ge (tgt := 33) X dX2_countRoads_10 (by decide) (fun c10 => ?_) (fun c10 => ?_)
    · rw [if_pos c10] at hf
      exact J_sub [1] rfl (hk s1 s2 hf)
    · rw [if_neg c10] at hf
      refine J_aload_n X 0 dX2_countRoads_13 rfl rfl ?_
      refine J_get X hO.1 inX2 rfl 0 (Nat.le_of_ble_eq_true rfl) wd_61 rfl (v := .ref (o.1 (a + 1))) rfl dX2_countRoads_14 ?_
      refine J_iload_n X 2 dX2_countRoads_17 rfl rfl ?_
      obtain ⟨v1, qv1, hf⟩ := ob hf
      refine J_iald X hO.2.1 (ald_s qv1).1 dX2_countRoads_18 ?_
      refine J_topi v1 (ald_s qv1).2 ?_
      refine J_bipush X (-6 : Int32) dX2_countRoads_19 (by decide) ?_
      refine J_icmp_eq (tgt := 27) X dX2_countRoads_21 (by decide) (fun c21 => ?_) (fun c21 => ?_)
      · rw [if_pos c21] at hf
        obtain ⟨v2, qv2, hf⟩ := ob hf
        refine J_iinc X 2 [(2, .int v2), (0, .ref (o.1 a)), (1, .int s1)] dX2_countRoads_27 rfl (Option.some.inj qv2) (Nat.le_of_ble_eq_true rfl) rfl ?_
        refine J_goto (tgt := 4) X dX2_countRoads_30 (by decide) ?_
        exact J_sub [1, 2, 0] rfl (ih s1 v2 hf hk)
      · rw [if_neg c21] at hf
        obtain ⟨v3, qv3, hf⟩ := ob hf
        refine J_iinc X 1 [(1, .int v3), (0, .ref (o.1 a)), (2, .int s2)] dX2_countRoads_24 rfl (Option.some.inj qv3) (Nat.le_of_ble_eq_true rfl) rfl ?_
        obtain ⟨v4, qv4, hf⟩ := ob hf
        refine J_iinc X 2 [(2, .int v4), (1, .int v3), (0, .ref (o.1 a))] dX2_countRoads_27 rfl (Option.some.inj qv4) (Nat.le_of_ble_eq_true rfl) rfl ?_
        refine J_goto (tgt := 4) X dX2_countRoads_30 (by decide) ?_
        exact J_sub [2, 1, 0] rfl (ih v3 v4 hf hk)
set_option maxHeartbeats 4000000 in
set_option maxRecDepth 100000 in
theorem c_X2_countRoads (l : Launch) (o : Om) (emb : Hp → va_W) (A : Nat → Prop) (hA : ∀ h : Hp, va_D A (emb h)) (a : Nat) (hO : isX2 o emb a) (h : Hp) (r : Int32) (hf : f_X2_countRoads a h = some r) : Ct l o emb A yX2_countRoads cX2_countRoads 3 (some .int) 0 0 [.ref (o.1 a)] h (some (.int r)) h := by
  refine Ct.of RX2 rfl (by decide +kernel) hA (Nat.le_of_ble_eq_true rfl) (fun p e s m args below meth c X => ?_)
  refine J_sub (lo' := [(0, .ref (o.1 a))]) [0] rfl ?_
  rw [f_X2_countRoads] at hf
  refine J_const X (0 : Int32) dX2_countRoads_0 (by decide) ?_
  refine J_istore_n X [(1, .int (0 : Int32)), (0, .ref (o.1 a))] dX2_countRoads_1 rfl (Nat.le_of_ble_eq_true rfl) rfl ?_
  refine J_const X (0 : Int32) dX2_countRoads_2 (by decide) ?_
  refine J_istore_n X [(2, .int (0 : Int32)), (1, .int (0 : Int32)), (0, .ref (o.1 a))] dX2_countRoads_3 rfl (Nat.le_of_ble_eq_true rfl) rfl ?_
  refine J_sub (lo' := [(0, .ref (o.1 a)), (1, .int (0 : Int32)), (2, .int (0 : Int32))]) [2, 1, 0] rfl ?_
  refine cf_X2_countRoads_l4 hA X a hO  h _ _ (0 : Int32) (0 : Int32) hf (fun w5 w6 hf => ?_)
  refine J_iload_n X 0 dX2_countRoads_33 rfl rfl ?_
  refine J_const X (2 : Int32) dX2_countRoads_34 (by decide) ?_
  refine J_idiv X dX2_countRoads_35 (by decide) ?_
  cases hf
  exact J_iret X dX2_countRoads_36
theorem hd_X2_countOpen : yX2_countOpen.cls ≠ "java/lang/invoke/MethodHandle" ∧ yX2_countOpen.cls ≠ "java/lang/invoke/VarHandle" ∧ (parseMethodDescriptor yX2_countOpen.desc).map (fun d => d.parameters.length) = some 0 := by decide +kernel
set_option maxHeartbeats 4000000 in
set_option maxRecDepth 100000 in
theorem cf_X2_countOpen_l4 {R : Type} (hA : ∀ h : Hp, va_D A (emb h)) (X : Cx p s m args meth c RX2 cX2_countOpen 3 (some .int) o) (a : Nat) (hO : isX2 o emb a)  (h : Hp) {kx : Int32 → Int32 → Option R} (t : R) : ∀ (n : Nat) (s1 : Int32) (s2 : Int32), f_X2_countOpen_l4 a h kx n s1 s2 = some t → (∀ (s1 : Int32) (s2 : Int32), kx s1 s2 = some t → J p l e (rmf 4 88) s m args below meth c 0 0 Z o emb A H0 3 27 [(1, .int s1)] [] h) → J p l e (rmf 4 88) s m args below meth c 0 0 Z o emb A H0 3 4 [(0, .ref (o.1 a)), (1, .int s1), (2, .int s2)] [] h := by
  intro n
  induction n with
  | zero =>
    intro s1 s2 hf hk
    cases hf
  | succ n ih =>
    intro s1 s2 hf hk
    rw [f_X2_countOpen_l4] at hf
    refine J_iload_n X 2 dX2_countOpen_4 rfl rfl ?_
    refine J_bipush X (9 : Int32) dX2_countOpen_5 (by decide) ?_
    refine J_icmp_ge (tgt := 27) X dX2_countOpen_7 (by decide) (fun c7 => ?_) (fun c7 => ?_)
    · rw [if_pos c7] at hf
      exact J_sub [1] rfl (hk s1 s2 hf)
    · rw [if_neg c7] at hf
      refine J_iload_n X 1 dX2_countOpen_10 rfl rfl ?_
      refine J_aload_n X 0 dX2_countOpen_11 rfl rfl ?_
      refine J_iload_n X 2 dX2_countOpen_12 rfl rfl ?_
      obtain ⟨v1, qv1, hf⟩ := ob hf
      refine J_callV X (rest := [.int s1]) (rs := [.int v1, .int s1]) (c_X2_openFrom l o emb A hA a hO s2 h v1 qv1) hO.1 rfl rfl wd_410 wd_411 wd_412 wd_35 wd_413 hd_X2_openFrom ⟨Nat.le_of_ble_eq_true rfl, Nat.le_of_ble_eq_true rfl⟩ ⟨Nat.zero_le _, Nat.zero_le _⟩ (Nat.le_of_ble_eq_true rfl) dX2_countOpen_13 rfl rfl ?_
      obtain ⟨v2, qv2, hf⟩ := ob hf
      refine J_callS X (rest := [.int s1]) (rs := [.int v2, .int s1]) (c_J6_bitCount_0f7a4 l o emb A hA v1 h v2 qv2) wd_567 wd_258 wd_42 wd_259 hd_J6_bitCount_0f7a4 ⟨Nat.le_of_ble_eq_true rfl, Nat.le_of_ble_eq_true rfl⟩ ⟨Nat.zero_le _, Nat.zero_le _⟩ (Nat.le_of_ble_eq_true rfl) dX2_countOpen_16 rfl rfl ?_
      refine J_iadd X dX2_countOpen_19 ?_
      obtain ⟨v3, qv3, hf⟩ := ob hf
      refine J_topi v3 (Option.some.inj qv3) ?_
      refine J_istore_n X [(1, .int v3), (0, .ref (o.1 a)), (2, .int s2)] dX2_countOpen_20 rfl (Nat.le_of_ble_eq_true rfl) rfl ?_
      obtain ⟨v4, qv4, hf⟩ := ob hf
      refine J_iinc X 2 [(2, .int v4), (1, .int v3), (0, .ref (o.1 a))] dX2_countOpen_21 rfl (Option.some.inj qv4) (Nat.le_of_ble_eq_true rfl) rfl ?_
      refine J_goto (tgt := 4) X dX2_countOpen_24 (by decide) ?_
      exact J_sub [2, 1, 0] rfl (ih v3 v4 hf hk)
set_option maxHeartbeats 4000000 in
set_option maxRecDepth 100000 in
theorem c_X2_countOpen (l : Launch) (o : Om) (emb : Hp → va_W) (A : Nat → Prop) (hA : ∀ h : Hp, va_D A (emb h)) (a : Nat) (hO : isX2 o emb a) (h : Hp) (r : Int32) (hf : f_X2_countOpen a h = some r) : Ct l o emb A yX2_countOpen cX2_countOpen 3 (some .int) 4 88 [.ref (o.1 a)] h (some (.int r)) h := by
  refine Ct.of RX2 rfl (by decide +kernel) hA (Nat.le_of_ble_eq_true rfl) (fun p e s m args below meth c X => ?_)
  refine J_sub (lo' := [(0, .ref (o.1 a))]) [0] rfl ?_
  rw [f_X2_countOpen] at hf
  refine J_const X (0 : Int32) dX2_countOpen_0 (by decide) ?_
  refine J_istore_n X [(1, .int (0 : Int32)), (0, .ref (o.1 a))] dX2_countOpen_1 rfl (Nat.le_of_ble_eq_true rfl) rfl ?_
  refine J_const X (0 : Int32) dX2_countOpen_2 (by decide) ?_
  refine J_istore_n X [(2, .int (0 : Int32)), (1, .int (0 : Int32)), (0, .ref (o.1 a))] dX2_countOpen_3 rfl (Nat.le_of_ble_eq_true rfl) rfl ?_
  refine J_sub (lo' := [(0, .ref (o.1 a)), (1, .int (0 : Int32)), (2, .int (0 : Int32))]) [2, 1, 0] rfl ?_
  refine cf_X2_countOpen_l4 hA X a hO  h _ _ (0 : Int32) (0 : Int32) hf (fun w5 w6 hf => ?_)
  refine J_iload_n X 0 dX2_countOpen_27 rfl rfl ?_
  refine J_const X (2 : Int32) dX2_countOpen_28 (by decide) ?_
  refine J_idiv X dX2_countOpen_29 (by decide) ?_
  cases hf
  exact J_iret X dX2_countOpen_30
theorem hd_X2_addWear : yX2_addWear.cls ≠ "java/lang/invoke/MethodHandle" ∧ yX2_addWear.cls ≠ "java/lang/invoke/VarHandle" ∧ (parseMethodDescriptor yX2_addWear.desc).map (fun d => d.parameters.length) = some 0 := by decide +kernel
set_option maxHeartbeats 4000000 in
set_option maxRecDepth 100000 in
theorem cf_X2_addWear_l4 {R : Type} (hA : ∀ h : Hp, va_D A (emb h)) (X : Cx p s m args meth c RX2 cX2_addWear 3 (some .int) o) (a : Nat) (hO : isX2 o emb a)  (h : Hp) {kx : Int32 → Int32 → Option R} (t : R) : ∀ (n : Nat) (s1 : Int32) (s2 : Int32), f_X2_addWear_l4 a h kx n s1 s2 = some t → (∀ (s1 : Int32) (s2 : Int32), kx s1 s2 = some t → J p l e (rmf 1 22) s m args below meth c 0 0 Z o emb A H0 3 43 [(1, .int s1)] [] h) → J p l e (rmf 1 22) s m args below meth c 0 0 Z o emb A H0 3 4 [(0, .ref (o.1 a)), (1, .int s1), (2, .int s2)] [] h := by
  intro n
  induction n with
  | zero =>
    intro s1 s2 hf hk
    cases hf
  | succ n ih =>
    intro s1 s2 hf hk
    rw [f_X2_addWear_l4] at hf
    refine J_iload_n X 2 dX2_addWear_4 rfl rfl ?_
    refine J_aload_n X 0 dX2_addWear_5 rfl rfl ?_
    refine J_get X hO.1 inX2 rfl 0 (Nat.le_of_ble_eq_true rfl) wd_61 rfl (v := .ref (o.1 (a + 1))) rfl dX2_addWear_6 ?_
    refine J_alenI X hO.2.1 (81 : Int32) (by decide) dX2_addWear_9 ?_
    refine J_icmp_ge (tgt := 43) X dX2_addWear_10 (by decide) (fun c10 => ?_) (fun c10 => ?_)
    · rw [if_pos c10] at hf
      exact J_sub [1] rfl (hk s1 s2 hf)
    · rw [if_neg c10] at hf
      refine J_aload_n X 0 dX2_addWear_13 rfl rfl ?_
      refine J_get X hO.1 inX2 rfl 0 (Nat.le_of_ble_eq_true rfl) wd_61 rfl (v := .ref (o.1 (a + 1))) rfl dX2_addWear_14 ?_
      refine J_iload_n X 2 dX2_addWear_17 rfl rfl ?_
      obtain ⟨v1, qv1, hf⟩ := ob hf
      refine J_iald X hO.2.1 (ald_s qv1).1 dX2_addWear_18 ?_
      refine J_topi v1 (ald_s qv1).2 ?_
      refine J_const X (0 : Int32) dX2_addWear_19 (by decide) ?_
      refine J_bipush X (9 : Int32) dX2_addWear_20 (by decide) ?_
      obtain ⟨v2, qv2, hf⟩ := ob hf
      refine J_callSN X (rest := []) (rs := [.int v2]) (c_X5_within l o emb A hA v1 (0 : Int32) (9 : Int32) h v2 qv2) nw_405 wd_217 wd_34 wd_218 hd_X5_within ⟨Nat.le_of_ble_eq_true rfl, Nat.le_of_ble_eq_true rfl⟩ ⟨Nat.zero_le _, Nat.zero_le _⟩ (Nat.le_of_ble_eq_true rfl) dX2_addWear_22 rfl rfl ?_
      refine J_if_eq (tgt := 37) X dX2_addWear_25 (by decide) (fun c25 => ?_) (fun c25 => ?_)
      · rw [if_pos c25] at hf
        obtain ⟨v3, qv3, hf⟩ := ob hf
        refine J_iinc X 2 [(2, .int v3), (0, .ref (o.1 a)), (1, .int s1)] dX2_addWear_37 rfl (Option.some.inj qv3) (Nat.le_of_ble_eq_true rfl) rfl ?_
        refine J_goto (tgt := 4) X dX2_addWear_40 (by decide) ?_
        exact J_sub [1, 2, 0] rfl (ih s1 v3 hf hk)
      · rw [if_neg c25] at hf
        refine J_iload_n X 1 dX2_addWear_28 rfl rfl ?_
        refine J_aload_n X 0 dX2_addWear_29 rfl rfl ?_
        refine J_get X hO.1 inX2 rfl 0 (Nat.le_of_ble_eq_true rfl) wd_61 rfl (v := .ref (o.1 (a + 1))) rfl dX2_addWear_30 ?_
        refine J_iload_n X 2 dX2_addWear_33 rfl rfl ?_
        obtain ⟨v4, qv4, hf⟩ := ob hf
        refine J_iald X hO.2.1 (ald_s qv4).1 dX2_addWear_34 ?_
        refine J_topi v4 (ald_s qv4).2 ?_
        refine J_iadd X dX2_addWear_35 ?_
        obtain ⟨v5, qv5, hf⟩ := ob hf
        refine J_topi v5 (Option.some.inj qv5) ?_
        refine J_istore_n X [(1, .int v5), (0, .ref (o.1 a)), (2, .int s2)] dX2_addWear_36 rfl (Nat.le_of_ble_eq_true rfl) rfl ?_
        obtain ⟨v6, qv6, hf⟩ := ob hf
        refine J_iinc X 2 [(2, .int v6), (1, .int v5), (0, .ref (o.1 a))] dX2_addWear_37 rfl (Option.some.inj qv6) (Nat.le_of_ble_eq_true rfl) rfl ?_
        refine J_goto (tgt := 4) X dX2_addWear_40 (by decide) ?_
        exact J_sub [2, 1, 0] rfl (ih v5 v6 hf hk)
set_option maxHeartbeats 4000000 in
set_option maxRecDepth 100000 in
theorem c_X2_addWear (l : Launch) (o : Om) (emb : Hp → va_W) (A : Nat → Prop) (hA : ∀ h : Hp, va_D A (emb h)) (a : Nat) (hO : isX2 o emb a) (h : Hp) (r : Int32) (hf : f_X2_addWear a h = some r) : Ct l o emb A yX2_addWear cX2_addWear 3 (some .int) 1 22 [.ref (o.1 a)] h (some (.int r)) h := by
  refine Ct.of RX2 rfl (by decide +kernel) hA (Nat.le_of_ble_eq_true rfl) (fun p e s m args below meth c X => ?_)
  refine J_sub (lo' := [(0, .ref (o.1 a))]) [0] rfl ?_
  rw [f_X2_addWear] at hf
  refine J_const X (0 : Int32) dX2_addWear_0 (by decide) ?_
  refine J_istore_n X [(1, .int (0 : Int32)), (0, .ref (o.1 a))] dX2_addWear_1 rfl (Nat.le_of_ble_eq_true rfl) rfl ?_
  refine J_const X (0 : Int32) dX2_addWear_2 (by decide) ?_
  refine J_istore_n X [(2, .int (0 : Int32)), (1, .int (0 : Int32)), (0, .ref (o.1 a))] dX2_addWear_3 rfl (Nat.le_of_ble_eq_true rfl) rfl ?_
  refine J_sub (lo' := [(0, .ref (o.1 a)), (1, .int (0 : Int32)), (2, .int (0 : Int32))]) [2, 1, 0] rfl ?_
  refine cf_X2_addWear_l4 hA X a hO  h _ _ (0 : Int32) (0 : Int32) hf (fun w7 w8 hf => ?_)
  refine J_iload_n X 0 dX2_addWear_43 rfl rfl ?_
  refine J_const X (2 : Int32) dX2_addWear_44 (by decide) ?_
  refine J_idiv X dX2_addWear_45 (by decide) ?_
  cases hf
  exact J_iret X dX2_addWear_46
theorem hd_X2_reached : yX2_reached.cls ≠ "java/lang/invoke/MethodHandle" ∧ yX2_reached.cls ≠ "java/lang/invoke/VarHandle" ∧ (parseMethodDescriptor yX2_reached.desc).map (fun d => d.parameters.length) = some 2 := by decide +kernel
set_option maxHeartbeats 4000000 in
set_option maxRecDepth 100000 in
theorem cf_X2_reached_l27 {R : Type} (hA : ∀ h : Hp, va_D A (emb h)) (X : Cx p s m args meth c RX2 cX2_reached 6 (some .int) o) (a : Nat) (hO : isX2 o emb a) (s1 : Int32) (s4 : Int32) (h : Hp) {kx : Int32 → Int32 → Option R} (t : R) : ∀ (n : Nat) (s3 : Int32) (s5 : Int32), f_X2_reached_l27 a s1 s4 h kx n s3 s5 = some t → (∀ (s3 : Int32) (s5 : Int32), kx s3 s5 = some t → J p l e (rmf 4 88) s m args below meth c 0 0 Z o emb A H0 6 64 [(0, .ref (o.1 a)), (1, .int s1), (3, .int s3), (4, .int s4)] [] h) → J p l e (rmf 4 88) s m args below meth c 0 0 Z o emb A H0 6 27 [(0, .ref (o.1 a)), (1, .int s1), (3, .int s3), (4, .int s4), (5, .int s5)] [] h := by
  intro n
  induction n with
  | zero =>
    intro s3 s5 hf hk
    cases hf
  | succ n ih =>
    intro s3 s5 hf hk
    rw [f_X2_reached_l27] at hf
    refine J_iload X 4 dX2_reached_27 rfl ?_
    refine J_bipush X (9 : Int32) dX2_reached_29 (by decide) ?_
    refine J_icmp_ge (tgt := 64) X dX2_reached_31 (by decide) (fun c31 => ?_) (fun c31 => ?_)
    · rw [if_pos c31] at hf
      exact J_sub [0, 1, 2, 3] rfl (hk s3 s5 hf)
    · rw [if_neg c31] at hf
      refine J_iload X 4 dX2_reached_34 rfl ?_
      refine J_iload_n X 1 dX2_reached_36 rfl rfl ?_
      refine J_icmp_eq (tgt := 58) X dX2_reached_37 (by decide) (fun c37 => ?_) (fun c37 => ?_)
      · rw [if_pos c37] at hf
        obtain ⟨v3, qv3, hf⟩ := ob hf
        refine J_iinc X 4 [(5, .int v3), (0, .ref (o.1 a)), (1, .int s1), (3, .int s3), (4, .int s4)] dX2_reached_58 rfl (Option.some.inj qv3) (Nat.le_of_ble_eq_true rfl) rfl ?_
        refine J_goto (tgt := 27) X dX2_reached_61 (by decide) ?_
        exact J_sub [1, 2, 3, 4, 0] rfl (ih s3 v3 hf hk)
      · rw [if_neg c37] at hf
        refine J_iload_n X 2 dX2_reached_40 rfl rfl ?_
        refine J_iload X 4 dX2_reached_41 rfl ?_
        obtain ⟨v4, qv4, hf⟩ := ob hf
        refine J_callSN X (rest := []) (rs := [.int v4]) (c_X5_holds l o emb A hA s3 s5 h v4 qv4) nw_442 wd_443 wd_34 wd_444 hd_X5_holds ⟨Nat.le_of_ble_eq_true rfl, Nat.le_of_ble_eq_true rfl⟩ ⟨Nat.zero_le _, Nat.zero_le _⟩ (Nat.le_of_ble_eq_true rfl) dX2_reached_43 rfl rfl ?_
        refine J_if_eq (tgt := 58) X dX2_reached_46 (by decide) (fun c46 => ?_) (fun c46 => ?_)
        · rw [if_pos c46] at hf
          obtain ⟨v5, qv5, hf⟩ := ob hf
          refine J_iinc X 4 [(5, .int v5), (0, .ref (o.1 a)), (1, .int s1), (3, .int s3), (4, .int s4)] dX2_reached_58 rfl (Option.some.inj qv5) (Nat.le_of_ble_eq_true rfl) rfl ?_
          refine J_goto (tgt := 27) X dX2_reached_61 (by decide) ?_
          exact J_sub [1, 2, 3, 4, 0] rfl (ih s3 v5 hf hk)
        · rw [if_neg c46] at hf
          refine J_iload_n X 2 dX2_reached_49 rfl rfl ?_
          refine J_aload_n X 0 dX2_reached_50 rfl rfl ?_
          refine J_iload X 4 dX2_reached_51 rfl ?_
          obtain ⟨v6, qv6, hf⟩ := ob hf
          refine J_callV X (rest := [.int s3]) (rs := [.int v6, .int s3]) (c_X2_openFrom l o emb A hA a hO s5 h v6 qv6) hO.1 rfl rfl wd_410 wd_411 wd_412 wd_35 wd_413 hd_X2_openFrom ⟨Nat.le_of_ble_eq_true rfl, Nat.le_of_ble_eq_true rfl⟩ ⟨Nat.zero_le _, Nat.zero_le _⟩ (Nat.le_of_ble_eq_true rfl) dX2_reached_53 rfl rfl ?_
          refine J_ior X dX2_reached_56 ?_
          obtain ⟨v7, qv7, hf⟩ := ob hf
          refine J_topi v7 (Option.some.inj qv7) ?_
          refine J_istore_n X [(3, .int v7), (0, .ref (o.1 a)), (1, .int s1), (4, .int s4), (5, .int s5)] dX2_reached_57 rfl (Nat.le_of_ble_eq_true rfl) rfl ?_
          obtain ⟨v8, qv8, hf⟩ := ob hf
          refine J_iinc X 4 [(5, .int v8), (3, .int v7), (0, .ref (o.1 a)), (1, .int s1), (4, .int s4)] dX2_reached_58 rfl (Option.some.inj qv8) (Nat.le_of_ble_eq_true rfl) rfl ?_
          refine J_goto (tgt := 27) X dX2_reached_61 (by decide) ?_
          exact J_sub [2, 3, 1, 4, 0] rfl (ih v7 v8 hf hk)
set_option maxHeartbeats 4000000 in
set_option maxRecDepth 100000 in
theorem cf_X2_reached_l17 {R : Type} (hA : ∀ h : Hp, va_D A (emb h)) (X : Cx p s m args meth c RX2 cX2_reached 6 (some .int) o) (a : Nat) (hO : isX2 o emb a) (s1 : Int32) (h : Hp) {kx : Int32 → Int32 → Option R} (t : R) : ∀ (n : Nat) (s3 : Int32) (s4 : Int32), f_X2_reached_l17 a s1 h kx n s3 s4 = some t → (∀ (s3 : Int32) (s4 : Int32), kx s3 s4 = some t → J p l e (rmf 4 88) s m args below meth c 0 0 Z o emb A H0 6 70 [(3, .int s3)] [] h) → J p l e (rmf 4 88) s m args below meth c 0 0 Z o emb A H0 6 17 [(0, .ref (o.1 a)), (1, .int s1), (3, .int s3), (4, .int s4)] [] h := by
  intro n
  induction n with
  | zero =>
    intro s3 s4 hf hk
    cases hf
  | succ n ih =>
    intro s3 s4 hf hk
    rw [f_X2_reached_l17] at hf
    refine J_iload X 3 dX2_reached_17 rfl ?_
    refine J_bipush X (9 : Int32) dX2_reached_19 (by decide) ?_
    refine J_icmp_ge (tgt := 70) X dX2_reached_21 (by decide) (fun c21 => ?_) (fun c21 => ?_)
    · rw [if_pos c21] at hf
      exact J_sub [2] rfl (hk s3 s4 hf)
    · rw [if_neg c21] at hf
      refine J_const X (0 : Int32) dX2_reached_24 (by decide) ?_
      refine J_istore X [(5, .int (0 : Int32)), (0, .ref (o.1 a)), (1, .int s1), (3, .int s3), (4, .int s4)] dX2_reached_25 (Nat.le_of_ble_eq_true rfl) rfl ?_
      refine J_sub (lo' := [(0, .ref (o.1 a)), (1, .int s1), (3, .int s3), (4, .int s4), (5, .int (0 : Int32))]) [1, 2, 3, 4, 0] rfl ?_
      refine cf_X2_reached_l27 hA X a hO s1 s4 h _ _ s3 (0 : Int32) hf (fun w9 w10 hf => ?_)
      obtain ⟨v11, qv11, hf⟩ := ob hf
      refine J_iinc X 3 [(4, .int v11), (0, .ref (o.1 a)), (1, .int s1), (3, .int w9)] dX2_reached_64 rfl (Option.some.inj qv11) (Nat.le_of_ble_eq_true rfl) rfl ?_
      refine J_goto (tgt := 17) X dX2_reached_67 (by decide) ?_
      exact J_sub [1, 2, 3, 0] rfl (ih w9 v11 hf hk)
set_option maxHeartbeats 4000000 in
set_option maxRecDepth 100000 in
theorem c_X2_reached (l : Launch) (o : Om) (emb : Hp → va_W) (A : Nat → Prop) (hA : ∀ h : Hp, va_D A (emb h)) (a : Nat) (hO : isX2 o emb a) (x1 : Int32) (x2 : Int32) (h : Hp) (r : Int32) (hf : f_X2_reached a x1 x2 h = some r) : Ct l o emb A yX2_reached cX2_reached 6 (some .int) 4 88 [.ref (o.1 a), .int x1, .int x2] h (some (.int r)) h := by
  refine Ct.of RX2 rfl (by decide +kernel) hA (Nat.le_of_ble_eq_true rfl) (fun p e s m args below meth c X => ?_)
  refine J_sub (lo' := [(0, .ref (o.1 a)), (1, .int x1), (2, .int x2)]) [0, 1, 2] rfl ?_
  rw [f_X2_reached] at hf
  refine J_const X (1 : Int32) dX2_reached_0 (by decide) ?_
  refine J_iload_n X 1 dX2_reached_1 rfl rfl ?_
  refine J_ishl X dX2_reached_2 ?_
  refine J_aload_n X 0 dX2_reached_3 rfl rfl ?_
  refine J_iload_n X 1 dX2_reached_4 rfl rfl ?_
  obtain ⟨v1, qv1, hf⟩ := ob hf
  refine J_callV X (rest := [.int ((1 : Int32) <<< (x1 &&& 31))]) (rs := [.int v1, .int ((1 : Int32) <<< (x1 &&& 31))]) (c_X2_openFrom l o emb A hA a hO x1 h v1 qv1) hO.1 rfl rfl wd_410 wd_411 wd_412 wd_35 wd_413 hd_X2_openFrom ⟨Nat.le_of_ble_eq_true rfl, Nat.le_of_ble_eq_true rfl⟩ ⟨Nat.zero_le _, Nat.zero_le _⟩ (Nat.le_of_ble_eq_true rfl) dX2_reached_5 rfl rfl ?_
  refine J_iload_n X 2 dX2_reached_8 rfl rfl ?_
  refine J_const X (-1 : Int32) dX2_reached_9 (by decide) ?_
  refine J_ixor X dX2_reached_10 ?_
  refine J_iand X dX2_reached_11 ?_
  refine J_ior X dX2_reached_12 ?_
  obtain ⟨v2, qv2, hf⟩ := ob hf
  refine J_topi v2 (Option.some.inj qv2) ?_
  refine J_istore_n X [(3, .int v2), (0, .ref (o.1 a)), (1, .int x1), (2, .int x2)] dX2_reached_13 rfl (Nat.le_of_ble_eq_true rfl) rfl ?_
  refine J_const X (1 : Int32) dX2_reached_14 (by decide) ?_
  refine J_istore X [(4, .int (1 : Int32)), (3, .int v2), (0, .ref (o.1 a)), (1, .int x1), (2, .int x2)] dX2_reached_15 (Nat.le_of_ble_eq_true rfl) rfl ?_
  refine J_sub (lo' := [(0, .ref (o.1 a)), (1, .int x1), (3, .int v2), (4, .int (1 : Int32))]) [2, 3, 1, 0] rfl ?_
  refine cf_X2_reached_l17 hA X a hO x1 h _ _ v2 (1 : Int32) hf (fun w12 w13 hf => ?_)
  refine J_iload_n X 0 dX2_reached_70 rfl rfl ?_
  cases hf
  exact J_iret X dX2_reached_71
theorem hd_X2_isThere : yX2_isThere.cls ≠ "java/lang/invoke/MethodHandle" ∧ yX2_isThere.cls ≠ "java/lang/invoke/VarHandle" ∧ (parseMethodDescriptor yX2_isThere.desc).map (fun d => d.parameters.length) = some 1 := by decide +kernel
set_option maxHeartbeats 4000000 in
set_option maxRecDepth 100000 in
theorem c_X2_isThere (l : Launch) (o : Om) (emb : Hp → va_W) (A : Nat → Prop) (hA : ∀ h : Hp, va_D A (emb h)) (a : Nat) (hO : isX2 o emb a) (x1 : Int32) (h : Hp) (r : Int32) (hf : f_X2_isThere a x1 h = some r) : Ct l o emb A yX2_isThere cX2_isThere 2 (some .boolean) 1 21 [.ref (o.1 a), .int x1] h (some (.int r)) h := by
  refine Ct.of RX2 rfl (by decide +kernel) hA (Nat.le_of_ble_eq_true rfl) (fun p e s m args below meth c X => ?_)
  refine J_sub (lo' := [(0, .ref (o.1 a)), (1, .int x1)]) [0, 1] rfl ?_
  rw [f_X2_isThere] at hf
  refine J_iload_n X 1 dX2_isThere_0 rfl rfl ?_
  obtain ⟨v1, qv1, hf⟩ := ob hf
  refine J_callSN X (rest := []) (rs := [.int v1]) (c_X5_isWalker l o emb A hA x1 h v1 qv1) nw_253 wd_236 wd_34 wd_237 hd_X5_isWalker ⟨Nat.le_of_ble_eq_true rfl, Nat.le_of_ble_eq_true rfl⟩ ⟨Nat.zero_le _, Nat.zero_le _⟩ (Nat.le_of_ble_eq_true rfl) dX2_isThere_1 rfl rfl ?_
  refine J_if_eq (tgt := 23) X dX2_isThere_4 (by decide) (fun c4 => ?_) (fun c4 => ?_)
  · rw [if_pos c4] at hf
    refine J_const X (0 : Int32) dX2_isThere_23 (by decide) ?_
    cases hf
    exact J_zret X rfl dX2_isThere_24
  · rw [if_neg c4] at hf
    refine J_aload_n X 0 dX2_isThere_7 rfl rfl ?_
    refine J_get X hO.1 inX2 rfl 1 (Nat.le_of_ble_eq_true rfl) wd_62 rfl (v := .ref (o.1 (a + 2))) rfl dX2_isThere_8 ?_
    refine J_iload_n X 1 dX2_isThere_11 rfl rfl ?_
    obtain ⟨v2, qv2, hf⟩ := ob hf
    refine J_callSN X (rest := []) (rs := [.int v2]) (c_X5_at l o emb A hA (a + 2) 6 hO.2.2.1 x1 h v2 qv2) nw_254 wd_255 wd_34 wd_256 hd_X5_at ⟨Nat.le_of_ble_eq_true rfl, Nat.le_of_ble_eq_true rfl⟩ ⟨Nat.zero_le _, Nat.zero_le _⟩ (Nat.le_of_ble_eq_true rfl) dX2_isThere_12 rfl rfl ?_
    refine J_const X (-1 : Int32) dX2_isThere_15 (by decide) ?_
    refine J_icmp_eq (tgt := 23) X dX2_isThere_16 (by decide) (fun c16 => ?_) (fun c16 => ?_)
    · rw [if_pos c16] at hf
      refine J_const X (0 : Int32) dX2_isThere_23 (by decide) ?_
      cases hf
      exact J_zret X rfl dX2_isThere_24
    · rw [if_neg c16] at hf
      refine J_const X (1 : Int32) dX2_isThere_19 (by decide) ?_
      refine J_goto (tgt := 24) X dX2_isThere_20 (by decide) ?_
      cases hf
      exact J_zret X rfl dX2_isThere_24
theorem hd_X2_placeOf : yX2_placeOf.cls ≠ "java/lang/invoke/MethodHandle" ∧ yX2_placeOf.cls ≠ "java/lang/invoke/VarHandle" ∧ (parseMethodDescriptor yX2_placeOf.desc).map (fun d => d.parameters.length) = some 1 := by decide +kernel
set_option maxHeartbeats 4000000 in
set_option maxRecDepth 100000 in
theorem c_X2_placeOf (l : Launch) (o : Om) (emb : Hp → va_W) (A : Nat → Prop) (hA : ∀ h : Hp, va_D A (emb h)) (a : Nat) (hO : isX2 o emb a) (x1 : Int32) (h : Hp) (r : Int32) (hf : f_X2_placeOf a x1 h = some r) : Ct l o emb A yX2_placeOf cX2_placeOf 2 (some .int) 1 21 [.ref (o.1 a), .int x1] h (some (.int r)) h := by
  refine Ct.of RX2 rfl (by decide +kernel) hA (Nat.le_of_ble_eq_true rfl) (fun p e s m args below meth c X => ?_)
  refine J_sub (lo' := [(0, .ref (o.1 a)), (1, .int x1)]) [0, 1] rfl ?_
  rw [f_X2_placeOf] at hf
  refine J_aload_n X 0 dX2_placeOf_0 rfl rfl ?_
  refine J_get X hO.1 inX2 rfl 1 (Nat.le_of_ble_eq_true rfl) wd_62 rfl (v := .ref (o.1 (a + 2))) rfl dX2_placeOf_1 ?_
  refine J_iload_n X 1 dX2_placeOf_4 rfl rfl ?_
  obtain ⟨v1, qv1, hf⟩ := ob hf
  refine J_callSN X (rest := []) (rs := [.int v1]) (c_X5_at l o emb A hA (a + 2) 6 hO.2.2.1 x1 h v1 qv1) nw_254 wd_255 wd_34 wd_256 hd_X5_at ⟨Nat.le_of_ble_eq_true rfl, Nat.le_of_ble_eq_true rfl⟩ ⟨Nat.zero_le _, Nat.zero_le _⟩ (Nat.le_of_ble_eq_true rfl) dX2_placeOf_5 rfl rfl ?_
  cases hf
  exact J_iret X dX2_placeOf_8
theorem hd_X2_ironOf : yX2_ironOf.cls ≠ "java/lang/invoke/MethodHandle" ∧ yX2_ironOf.cls ≠ "java/lang/invoke/VarHandle" ∧ (parseMethodDescriptor yX2_ironOf.desc).map (fun d => d.parameters.length) = some 1 := by decide +kernel
set_option maxHeartbeats 4000000 in
set_option maxRecDepth 100000 in
theorem c_X2_ironOf (l : Launch) (o : Om) (emb : Hp → va_W) (A : Nat → Prop) (hA : ∀ h : Hp, va_D A (emb h)) (a : Nat) (hO : isX2 o emb a) (x1 : Int32) (h : Hp) (r : Int32) (hf : f_X2_ironOf a x1 h = some r) : Ct l o emb A yX2_ironOf cX2_ironOf 2 (some .int) 1 21 [.ref (o.1 a), .int x1] h (some (.int r)) h := by
  refine Ct.of RX2 rfl (by decide +kernel) hA (Nat.le_of_ble_eq_true rfl) (fun p e s m args below meth c X => ?_)
  refine J_sub (lo' := [(0, .ref (o.1 a)), (1, .int x1)]) [0, 1] rfl ?_
  rw [f_X2_ironOf] at hf
  refine J_aload_n X 0 dX2_ironOf_0 rfl rfl ?_
  refine J_get X hO.1 inX2 rfl 2 (Nat.le_of_ble_eq_true rfl) wd_63 rfl (v := .ref (o.1 (a + 3))) rfl dX2_ironOf_1 ?_
  refine J_iload_n X 1 dX2_ironOf_4 rfl rfl ?_
  obtain ⟨v1, qv1, hf⟩ := ob hf
  refine J_callSN X (rest := []) (rs := [.int v1]) (c_X5_at l o emb A hA (a + 3) 6 hO.2.2.2 x1 h v1 qv1) nw_254 wd_255 wd_34 wd_256 hd_X5_at ⟨Nat.le_of_ble_eq_true rfl, Nat.le_of_ble_eq_true rfl⟩ ⟨Nat.zero_le _, Nat.zero_le _⟩ (Nat.le_of_ble_eq_true rfl) dX2_ironOf_5 rfl rfl ?_
  cases hf
  exact J_iret X dX2_ironOf_8
theorem hd_X2_putWalker : yX2_putWalker.cls ≠ "java/lang/invoke/MethodHandle" ∧ yX2_putWalker.cls ≠ "java/lang/invoke/VarHandle" ∧ (parseMethodDescriptor yX2_putWalker.desc).map (fun d => d.parameters.length) = some 3 := by decide +kernel
set_option maxHeartbeats 4000000 in
set_option maxRecDepth 100000 in
theorem c_X2_putWalker (l : Launch) (o : Om) (emb : Hp → va_W) (A : Nat → Prop) (hA : ∀ h : Hp, va_D A (emb h)) (a : Nat) (hO : isX2 o emb a) (x1 : Int32) (x2 : Int32) (x3 : Int32) (h : Hp)  (h' : Hp) (hf : f_X2_putWalker a x1 x2 x3 h = some h') : Ct l o emb A yX2_putWalker cX2_putWalker 4 none 1 22 [.ref (o.1 a), .int x1, .int x2, .int x3] h none h' := by
  refine Ct.of RX2 rfl (by decide +kernel) hA (Nat.le_of_ble_eq_true rfl) (fun p e s m args below meth c X => ?_)
  refine J_sub (lo' := [(0, .ref (o.1 a)), (1, .int x1), (2, .int x2), (3, .int x3)]) [0, 1, 2, 3] rfl ?_
  rw [f_X2_putWalker] at hf
  refine J_aload_n X 0 dX2_putWalker_0 rfl rfl ?_
  refine J_get X hO.1 inX2 rfl 1 (Nat.le_of_ble_eq_true rfl) wd_62 rfl (v := .ref (o.1 (a + 2))) rfl dX2_putWalker_1 ?_
  refine J_iload_n X 1 dX2_putWalker_4 rfl rfl ?_
  refine J_iload_n X 2 dX2_putWalker_5 rfl rfl ?_
  obtain ⟨h1, qh1, hf⟩ := ob hf
  refine J_callSN X (rest := []) (rs := []) (c_X5_put l o emb A hA (a + 2) 6 hO.2.2.1 x1 x2 h h1 qh1) nw_224 wd_225 wd_34 wd_226 hd_X5_put ⟨Nat.le_of_ble_eq_true rfl, Nat.le_of_ble_eq_true rfl⟩ ⟨Nat.zero_le _, Nat.zero_le _⟩ (Nat.le_of_ble_eq_true rfl) dX2_putWalker_6 rfl rfl ?_
  refine J_aload_n X 0 dX2_putWalker_9 rfl rfl ?_
  refine J_get X hO.1 inX2 rfl 2 (Nat.le_of_ble_eq_true rfl) wd_63 rfl (v := .ref (o.1 (a + 3))) rfl dX2_putWalker_10 ?_
  refine J_iload_n X 1 dX2_putWalker_13 rfl rfl ?_
  refine J_iload_n X 3 dX2_putWalker_14 rfl rfl ?_
  refine J_if_eq (tgt := 22) X dX2_putWalker_15 (by decide) (fun c15 => ?_) (fun c15 => ?_)
  · rw [if_pos c15] at hf
    refine J_const X (0 : Int32) dX2_putWalker_22 (by decide) ?_
    obtain ⟨h2, qh2, hf⟩ := ob hf
    refine J_callSN X (rest := []) (rs := []) (c_X5_put l o emb A hA (a + 3) 6 hO.2.2.2 x1 (0 : Int32) h1 h2 qh2) nw_224 wd_225 wd_34 wd_226 hd_X5_put ⟨Nat.le_of_ble_eq_true rfl, Nat.le_of_ble_eq_true rfl⟩ ⟨Nat.zero_le _, Nat.zero_le _⟩ (Nat.le_of_ble_eq_true rfl) dX2_putWalker_23 rfl rfl ?_
    cases hf
    exact J_vret X dX2_putWalker_26
  · rw [if_neg c15] at hf
    refine J_const X (1 : Int32) dX2_putWalker_18 (by decide) ?_
    refine J_goto (tgt := 23) X dX2_putWalker_19 (by decide) ?_
    obtain ⟨h3, qh3, hf⟩ := ob hf
    refine J_callSN X (rest := []) (rs := []) (c_X5_put l o emb A hA (a + 3) 6 hO.2.2.2 x1 (1 : Int32) h1 h3 qh3) nw_224 wd_225 wd_34 wd_226 hd_X5_put ⟨Nat.le_of_ble_eq_true rfl, Nat.le_of_ble_eq_true rfl⟩ ⟨Nat.zero_le _, Nat.zero_le _⟩ (Nat.le_of_ble_eq_true rfl) dX2_putWalker_23 rfl rfl ?_
    cases hf
    exact J_vret X dX2_putWalker_26
theorem hd_X2_walkersThere : yX2_walkersThere.cls ≠ "java/lang/invoke/MethodHandle" ∧ yX2_walkersThere.cls ≠ "java/lang/invoke/VarHandle" ∧ (parseMethodDescriptor yX2_walkersThere.desc).map (fun d => d.parameters.length) = some 0 := by decide +kernel
set_option maxHeartbeats 4000000 in
set_option maxRecDepth 100000 in
theorem cf_X2_walkersThere_l4 {R : Type} (hA : ∀ h : Hp, va_D A (emb h)) (X : Cx p s m args meth c RX2 cX2_walkersThere 3 (some .int) o) (a : Nat) (hO : isX2 o emb a)  (h : Hp) {kx : Int32 → Int32 → Option R} (t : R) : ∀ (n : Nat) (s1 : Int32) (s2 : Int32), f_X2_walkersThere_l4 a h kx n s1 s2 = some t → (∀ (s1 : Int32) (s2 : Int32), kx s1 s2 = some t → J p l e (rmf 2 42) s m args below meth c 0 0 Z o emb A H0 3 30 [(1, .int s1)] [] h) → J p l e (rmf 2 42) s m args below meth c 0 0 Z o emb A H0 3 4 [(0, .ref (o.1 a)), (1, .int s1), (2, .int s2)] [] h := by
  intro n
  induction n with
  | zero =>
    intro s1 s2 hf hk
    cases hf
  | succ n ih =>
    intro s1 s2 hf hk
    rw [f_X2_walkersThere_l4] at hf
    refine J_iload_n X 2 dX2_walkersThere_4 rfl rfl ?_
    refine J_bipush X (6 : Int32) dX2_walkersThere_5 (by decide) ?_
    refine J_icmp_ge (tgt := 30) X dX2_walkersThere_7 (by decide) (fun c7 => ?_) (fun c7 => ?_)
    · rw [if_pos c7] at hf
      exact J_sub [1] rfl (hk s1 s2 hf)
    · rw [if_neg c7] at hf
      refine J_aload_n X 0 dX2_walkersThere_10 rfl rfl ?_
      refine J_iload_n X 2 dX2_walkersThere_11 rfl rfl ?_
      obtain ⟨v1, qv1, hf⟩ := ob hf
      refine J_callV X (rest := []) (rs := [.int v1]) (c_X2_isThere l o emb A hA a hO s2 h v1 qv1) hO.1 rfl rfl wd_249 wd_250 wd_251 wd_35 wd_252 hd_X2_isThere ⟨Nat.le_of_ble_eq_true rfl, Nat.le_of_ble_eq_true rfl⟩ ⟨Nat.zero_le _, Nat.zero_le _⟩ (Nat.le_of_ble_eq_true rfl) dX2_walkersThere_12 rfl rfl ?_
      refine J_if_eq (tgt := 24) X dX2_walkersThere_15 (by decide) (fun c15 => ?_) (fun c15 => ?_)
      · rw [if_pos c15] at hf
        obtain ⟨v2, qv2, hf⟩ := ob hf
        refine J_iinc X 2 [(2, .int v2), (0, .ref (o.1 a)), (1, .int s1)] dX2_walkersThere_24 rfl (Option.some.inj qv2) (Nat.le_of_ble_eq_true rfl) rfl ?_
        refine J_goto (tgt := 4) X dX2_walkersThere_27 (by decide) ?_
        exact J_sub [1, 2, 0] rfl (ih s1 v2 hf hk)
      · rw [if_neg c15] at hf
        refine J_iload_n X 1 dX2_walkersThere_18 rfl rfl ?_
        refine J_const X (1 : Int32) dX2_walkersThere_19 (by decide) ?_
        refine J_iload_n X 2 dX2_walkersThere_20 rfl rfl ?_
        refine J_ishl X dX2_walkersThere_21 ?_
        refine J_ior X dX2_walkersThere_22 ?_
        obtain ⟨v3, qv3, hf⟩ := ob hf
        refine J_topi v3 (Option.some.inj qv3) ?_
        refine J_istore_n X [(1, .int v3), (0, .ref (o.1 a)), (2, .int s2)] dX2_walkersThere_23 rfl (Nat.le_of_ble_eq_true rfl) rfl ?_
        obtain ⟨v4, qv4, hf⟩ := ob hf
        refine J_iinc X 2 [(2, .int v4), (1, .int v3), (0, .ref (o.1 a))] dX2_walkersThere_24 rfl (Option.some.inj qv4) (Nat.le_of_ble_eq_true rfl) rfl ?_
        refine J_goto (tgt := 4) X dX2_walkersThere_27 (by decide) ?_
        exact J_sub [2, 1, 0] rfl (ih v3 v4 hf hk)
set_option maxHeartbeats 4000000 in
set_option maxRecDepth 100000 in
theorem c_X2_walkersThere (l : Launch) (o : Om) (emb : Hp → va_W) (A : Nat → Prop) (hA : ∀ h : Hp, va_D A (emb h)) (a : Nat) (hO : isX2 o emb a) (h : Hp) (r : Int32) (hf : f_X2_walkersThere a h = some r) : Ct l o emb A yX2_walkersThere cX2_walkersThere 3 (some .int) 2 42 [.ref (o.1 a)] h (some (.int r)) h := by
  refine Ct.of RX2 rfl (by decide +kernel) hA (Nat.le_of_ble_eq_true rfl) (fun p e s m args below meth c X => ?_)
  refine J_sub (lo' := [(0, .ref (o.1 a))]) [0] rfl ?_
  rw [f_X2_walkersThere] at hf
  refine J_const X (0 : Int32) dX2_walkersThere_0 (by decide) ?_
  refine J_istore_n X [(1, .int (0 : Int32)), (0, .ref (o.1 a))] dX2_walkersThere_1 rfl (Nat.le_of_ble_eq_true rfl) rfl ?_
  refine J_const X (0 : Int32) dX2_walkersThere_2 (by decide) ?_
  refine J_istore_n X [(2, .int (0 : Int32)), (1, .int (0 : Int32)), (0, .ref (o.1 a))] dX2_walkersThere_3 rfl (Nat.le_of_ble_eq_true rfl) rfl ?_
  refine J_sub (lo' := [(0, .ref (o.1 a)), (1, .int (0 : Int32)), (2, .int (0 : Int32))]) [2, 1, 0] rfl ?_
  refine cf_X2_walkersThere_l4 hA X a hO  h _ _ (0 : Int32) (0 : Int32) hf (fun w5 w6 hf => ?_)
  refine J_iload_n X 0 dX2_walkersThere_30 rfl rfl ?_
  cases hf
  exact J_iret X dX2_walkersThere_31
theorem hd_X2_shutIn : yX2_shutIn.cls ≠ "java/lang/invoke/MethodHandle" ∧ yX2_shutIn.cls ≠ "java/lang/invoke/VarHandle" ∧ (parseMethodDescriptor yX2_shutIn.desc).map (fun d => d.parameters.length) = some 0 := by decide +kernel
set_option maxHeartbeats 4000000 in
set_option maxRecDepth 100000 in
theorem cf_X2_shutIn_l4 {R : Type} (hA : ∀ h : Hp, va_D A (emb h)) (X : Cx p s m args meth c RX2 cX2_shutIn 3 (some .int) o) (a : Nat) (hO : isX2 o emb a)  (h : Hp) {kx : Int32 → Int32 → Option R} (t : R) : ∀ (n : Nat) (s1 : Int32) (s2 : Int32), f_X2_shutIn_l4 a h kx n s1 s2 = some t → (∀ (s1 : Int32) (s2 : Int32), kx s1 s2 = some t → J p l e (rmf 4 88) s m args below meth c 0 0 Z o emb A H0 3 42 [(1, .int s1)] [] h) → J p l e (rmf 4 88) s m args below meth c 0 0 Z o emb A H0 3 4 [(0, .ref (o.1 a)), (1, .int s1), (2, .int s2)] [] h := by
  intro n
  induction n with
  | zero =>
    intro s1 s2 hf hk
    cases hf
  | succ n ih =>
    intro s1 s2 hf hk
    rw [f_X2_shutIn_l4] at hf
    refine J_iload_n X 2 dX2_shutIn_4 rfl rfl ?_
    refine J_bipush X (6 : Int32) dX2_shutIn_5 (by decide) ?_
    refine J_icmp_ge (tgt := 42) X dX2_shutIn_7 (by decide) (fun c7 => ?_) (fun c7 => ?_)
    · rw [if_pos c7] at hf
      exact J_sub [1] rfl (hk s1 s2 hf)
    · rw [if_neg c7] at hf
      refine J_aload_n X 0 dX2_shutIn_10 rfl rfl ?_
      refine J_iload_n X 2 dX2_shutIn_11 rfl rfl ?_
      obtain ⟨v1, qv1, hf⟩ := ob hf
      refine J_callV X (rest := []) (rs := [.int v1]) (c_X2_isThere l o emb A hA a hO s2 h v1 qv1) hO.1 rfl rfl wd_249 wd_250 wd_251 wd_35 wd_252 hd_X2_isThere ⟨Nat.le_of_ble_eq_true rfl, Nat.le_of_ble_eq_true rfl⟩ ⟨Nat.zero_le _, Nat.zero_le _⟩ (Nat.le_of_ble_eq_true rfl) dX2_shutIn_12 rfl rfl ?_
      refine J_if_eq (tgt := 36) X dX2_shutIn_15 (by decide) (fun c15 => ?_) (fun c15 => ?_)
      · rw [if_pos c15] at hf
        obtain ⟨v2, qv2, hf⟩ := ob hf
        refine J_iinc X 2 [(2, .int v2), (0, .ref (o.1 a)), (1, .int s1)] dX2_shutIn_36 rfl (Option.some.inj qv2) (Nat.le_of_ble_eq_true rfl) rfl ?_
        refine J_goto (tgt := 4) X dX2_shutIn_39 (by decide) ?_
        exact J_sub [1, 2, 0] rfl (ih s1 v2 hf hk)
      · rw [if_neg c15] at hf
        refine J_aload_n X 0 dX2_shutIn_18 rfl rfl ?_
        refine J_aload_n X 0 dX2_shutIn_19 rfl rfl ?_
        refine J_iload_n X 2 dX2_shutIn_20 rfl rfl ?_
        obtain ⟨v3, qv3, hf⟩ := ob hf
        refine J_callV X (rest := [.ref (o.1 a)]) (rs := [.int v3, .ref (o.1 a)]) (c_X2_placeOf l o emb A hA a hO s2 h v3 qv3) hO.1 rfl rfl wd_370 wd_371 wd_372 wd_35 wd_373 hd_X2_placeOf ⟨Nat.le_of_ble_eq_true rfl, Nat.le_of_ble_eq_true rfl⟩ ⟨Nat.zero_le _, Nat.zero_le _⟩ (Nat.le_of_ble_eq_true rfl) dX2_shutIn_21 rfl rfl ?_
        obtain ⟨v4, qv4, hf⟩ := ob hf
        refine J_callV X (rest := []) (rs := [.int v4]) (c_X2_openFrom l o emb A hA a hO v3 h v4 qv4) hO.1 rfl rfl wd_410 wd_411 wd_412 wd_35 wd_413 hd_X2_openFrom ⟨Nat.le_of_ble_eq_true rfl, Nat.le_of_ble_eq_true rfl⟩ ⟨Nat.zero_le _, Nat.zero_le _⟩ (Nat.le_of_ble_eq_true rfl) dX2_shutIn_24 rfl rfl ?_
        refine J_if_ne (tgt := 36) X dX2_shutIn_27 (by decide) (fun c27 => ?_) (fun c27 => ?_)
        · rw [if_neg c27] at hf
          obtain ⟨v5, qv5, hf⟩ := ob hf
          refine J_iinc X 2 [(2, .int v5), (0, .ref (o.1 a)), (1, .int s1)] dX2_shutIn_36 rfl (Option.some.inj qv5) (Nat.le_of_ble_eq_true rfl) rfl ?_
          refine J_goto (tgt := 4) X dX2_shutIn_39 (by decide) ?_
          exact J_sub [1, 2, 0] rfl (ih s1 v5 hf hk)
        · rw [if_pos c27] at hf
          refine J_iload_n X 1 dX2_shutIn_30 rfl rfl ?_
          refine J_const X (1 : Int32) dX2_shutIn_31 (by decide) ?_
          refine J_iload_n X 2 dX2_shutIn_32 rfl rfl ?_
          refine J_ishl X dX2_shutIn_33 ?_
          refine J_ior X dX2_shutIn_34 ?_
          obtain ⟨v6, qv6, hf⟩ := ob hf
          refine J_topi v6 (Option.some.inj qv6) ?_
          refine J_istore_n X [(1, .int v6), (0, .ref (o.1 a)), (2, .int s2)] dX2_shutIn_35 rfl (Nat.le_of_ble_eq_true rfl) rfl ?_
          obtain ⟨v7, qv7, hf⟩ := ob hf
          refine J_iinc X 2 [(2, .int v7), (1, .int v6), (0, .ref (o.1 a))] dX2_shutIn_36 rfl (Option.some.inj qv7) (Nat.le_of_ble_eq_true rfl) rfl ?_
          refine J_goto (tgt := 4) X dX2_shutIn_39 (by decide) ?_
          exact J_sub [2, 1, 0] rfl (ih v6 v7 hf hk)
set_option maxHeartbeats 4000000 in
set_option maxRecDepth 100000 in
theorem c_X2_shutIn (l : Launch) (o : Om) (emb : Hp → va_W) (A : Nat → Prop) (hA : ∀ h : Hp, va_D A (emb h)) (a : Nat) (hO : isX2 o emb a) (h : Hp) (r : Int32) (hf : f_X2_shutIn a h = some r) : Ct l o emb A yX2_shutIn cX2_shutIn 3 (some .int) 4 88 [.ref (o.1 a)] h (some (.int r)) h := by
  refine Ct.of RX2 rfl (by decide +kernel) hA (Nat.le_of_ble_eq_true rfl) (fun p e s m args below meth c X => ?_)
  refine J_sub (lo' := [(0, .ref (o.1 a))]) [0] rfl ?_
  rw [f_X2_shutIn] at hf
  refine J_const X (0 : Int32) dX2_shutIn_0 (by decide) ?_
  refine J_istore_n X [(1, .int (0 : Int32)), (0, .ref (o.1 a))] dX2_shutIn_1 rfl (Nat.le_of_ble_eq_true rfl) rfl ?_
  refine J_const X (0 : Int32) dX2_shutIn_2 (by decide) ?_
  refine J_istore_n X [(2, .int (0 : Int32)), (1, .int (0 : Int32)), (0, .ref (o.1 a))] dX2_shutIn_3 rfl (Nat.le_of_ble_eq_true rfl) rfl ?_
  refine J_sub (lo' := [(0, .ref (o.1 a)), (1, .int (0 : Int32)), (2, .int (0 : Int32))]) [2, 1, 0] rfl ?_
  refine cf_X2_shutIn_l4 hA X a hO  h _ _ (0 : Int32) (0 : Int32) hf (fun w8 w9 hf => ?_)
  refine J_iload_n X 0 dX2_shutIn_42 rfl rfl ?_
  cases hf
  exact J_iret X dX2_shutIn_43
theorem hd_X2_walk : yX2_walk.cls ≠ "java/lang/invoke/MethodHandle" ∧ yX2_walk.cls ≠ "java/lang/invoke/VarHandle" ∧ (parseMethodDescriptor yX2_walk.desc).map (fun d => d.parameters.length) = some 2 := by decide +kernel
set_option maxHeartbeats 4000000 in
set_option maxRecDepth 100000 in
theorem c_X2_walk (l : Launch) (o : Om) (emb : Hp → va_W) (A : Nat → Prop) (hA : ∀ h : Hp, va_D A (emb h)) (a : Nat) (hO : isX2 o emb a) (x1 : Int32) (x2 : Int32) (h : Hp) (r : Int32) (h' : Hp) (hf : f_X2_walk a x1 x2 h = some (r, h')) : Ct l o emb A yX2_walk cX2_walk 6 (some .int) 2 45 [.ref (o.1 a), .int x1, .int x2] h (some (.int r)) h' := by
  refine Ct.of RX2 rfl (by decide +kernel) hA (Nat.le_of_ble_eq_true rfl) (fun p e s m args below meth c X => ?_)
  refine J_sub (lo' := [(0, .ref (o.1 a)), (1, .int x1), (2, .int x2)]) [0, 1, 2] rfl ?_
  rw [f_X2_walk] at hf
  refine J_aload_n X 0 dX2_walk_0 rfl rfl ?_
  refine J_iload_n X 1 dX2_walk_1 rfl rfl ?_
  obtain ⟨v1, qv1, hf⟩ := ob hf
  refine J_callV X (rest := []) (rs := [.int v1]) (c_X2_isThere l o emb A hA a hO x1 h v1 qv1) hO.1 rfl rfl wd_249 wd_250 wd_251 wd_35 wd_252 hd_X2_isThere ⟨Nat.le_of_ble_eq_true rfl, Nat.le_of_ble_eq_true rfl⟩ ⟨Nat.zero_le _, Nat.zero_le _⟩ (Nat.le_of_ble_eq_true rfl) dX2_walk_2 rfl rfl ?_
  refine J_if_ne (tgt := 10) X dX2_walk_5 (by decide) (fun c5 => ?_) (fun c5 => ?_)
  · rw [if_neg c5] at hf
    refine J_aload_n X 0 dX2_walk_10 rfl rfl ?_
    refine J_iload_n X 1 dX2_walk_11 rfl rfl ?_
    obtain ⟨v2, qv2, hf⟩ := ob hf
    refine J_callV X (rest := []) (rs := [.int v2]) (c_X2_placeOf l o emb A hA a hO x1 h v2 qv2) hO.1 rfl rfl wd_370 wd_371 wd_372 wd_35 wd_373 hd_X2_placeOf ⟨Nat.le_of_ble_eq_true rfl, Nat.le_of_ble_eq_true rfl⟩ ⟨Nat.zero_le _, Nat.zero_le _⟩ (Nat.le_of_ble_eq_true rfl) dX2_walk_12 rfl rfl ?_
    refine J_istore_n X [(3, .int v2), (0, .ref (o.1 a)), (1, .int x1), (2, .int x2)] dX2_walk_15 rfl (Nat.le_of_ble_eq_true rfl) rfl ?_
    refine J_iload_n X 0 dX2_walk_16 rfl rfl ?_
    refine J_iload_n X 3 dX2_walk_17 rfl rfl ?_
    refine J_icmp_ne (tgt := 23) X dX2_walk_18 (by decide) (fun c18 => ?_) (fun c18 => ?_)
    · rw [if_neg c18] at hf
      refine J_aload_n X 1 dX2_walk_23 rfl rfl ?_
      refine J_iload_n X 0 dX2_walk_24 rfl rfl ?_
      refine J_iload_n X 3 dX2_walk_25 rfl rfl ?_
      obtain ⟨v3, qv3, hf⟩ := ob hf
      refine J_callV X (rest := []) (rs := [.int v3]) (c_X2_roadBetween l o emb A hA a hO v2 x2 h v3 qv3) hO.1 rfl rfl wd_340 wd_341 wd_342 wd_35 wd_343 hd_X2_roadBetween ⟨Nat.le_of_ble_eq_true rfl, Nat.le_of_ble_eq_true rfl⟩ ⟨Nat.zero_le _, Nat.zero_le _⟩ (Nat.le_of_ble_eq_true rfl) dX2_walk_26 rfl rfl ?_
      refine J_istore X [(4, .int v3), (3, .int v2), (0, .ref (o.1 a)), (1, .int x1), (2, .int x2)] dX2_walk_29 (Nat.le_of_ble_eq_true rfl) rfl ?_
      refine J_iload X 0 dX2_walk_31 rfl ?_
      refine J_bipush X (-6 : Int32) dX2_walk_33 (by decide) ?_
      refine J_icmp_ne (tgt := 40) X dX2_walk_35 (by decide) (fun c35 => ?_) (fun c35 => ?_)
      · rw [if_neg c35] at hf
        refine J_iload X 0 dX2_walk_40 rfl ?_
        refine J_bipush X (100 : Int32) dX2_walk_42 (by decide) ?_
        refine J_icmp_lt (tgt := 49) X dX2_walk_44 (by decide) (fun c44 => ?_) (fun c44 => ?_)
        · rw [if_pos c44] at hf
          refine J_iload X 0 dX2_walk_49 rfl ?_
          refine J_bipush X (9 : Int32) dX2_walk_51 (by decide) ?_
          refine J_icmp_lt (tgt := 58) X dX2_walk_53 (by decide) (fun c53 => ?_) (fun c53 => ?_)
          · rw [if_pos c53] at hf
            refine J_bipush X (9 : Int32) dX2_walk_58 (by decide) ?_
            refine J_iload X 0 dX2_walk_60 rfl ?_
            refine J_const X (1 : Int32) dX2_walk_62 (by decide) ?_
            refine J_iadd X dX2_walk_63 ?_
            refine J_aload_n X 2 dX2_walk_64 rfl rfl ?_
            refine J_iload_n X 3 dX2_walk_65 rfl rfl ?_
            obtain ⟨v4, qv4, hf⟩ := ob hf
            refine J_callV X (rest := [.int (v3 + (1 : Int32)), .int (9 : Int32)]) (rs := [.int v4, .int (v3 + (1 : Int32)), .int (9 : Int32)]) (c_X2_ironOf l o emb A hA a hO x1 h v4 qv4) hO.1 rfl rfl wd_362 wd_363 wd_364 wd_35 wd_365 hd_X2_ironOf ⟨Nat.le_of_ble_eq_true rfl, Nat.le_of_ble_eq_true rfl⟩ ⟨Nat.zero_le _, Nat.zero_le _⟩ (Nat.le_of_ble_eq_true rfl) dX2_walk_66 rfl rfl ?_
            refine J_iadd X dX2_walk_69 ?_
            refine J_mmin X wd_374 wd_353 wd_43 wd_354 ⟨Nat.le_of_ble_eq_true rfl, Nat.le_of_ble_eq_true rfl, Nat.zero_le _, Nat.zero_le _⟩ dX2_walk_70 ?_
            obtain ⟨v5, qv5, hf⟩ := ob hf
            refine J_topi v5 (Option.some.inj qv5) ?_
            refine J_istore X [(5, .int v5), (4, .int v3), (3, .int v2), (0, .ref (o.1 a)), (1, .int x1), (2, .int x2)] dX2_walk_73 (Nat.le_of_ble_eq_true rfl) rfl ?_
            refine J_aload_n X 3 dX2_walk_75 rfl rfl ?_
            refine J_iload_n X 2 dX2_walk_76 rfl rfl ?_
            refine J_iload_n X 5 dX2_walk_77 rfl rfl ?_
            refine J_iload X 0 dX2_walk_78 rfl ?_
            obtain ⟨h6, qh6, hf⟩ := ob hf
            refine J_callV X (rest := []) (rs := []) (c_X2_putRoad l o emb A hA a hO v2 x2 v5 h h6 qh6) hO.1 rfl rfl wd_344 wd_220 wd_221 wd_35 wd_222 hd_X2_putRoad ⟨Nat.le_of_ble_eq_true rfl, Nat.le_of_ble_eq_true rfl⟩ ⟨Nat.zero_le _, Nat.zero_le _⟩ (Nat.le_of_ble_eq_true rfl) dX2_walk_80 rfl rfl ?_
            refine J_aload_n X 3 dX2_walk_83 rfl rfl ?_
            refine J_get X hO.1 inX2 rfl 1 (Nat.le_of_ble_eq_true rfl) wd_62 rfl (v := .ref (o.1 (a + 2))) rfl dX2_walk_84 ?_
            refine J_iload_n X 4 dX2_walk_87 rfl rfl ?_
            refine J_iload_n X 5 dX2_walk_88 rfl rfl ?_
            obtain ⟨h7, qh7, hf⟩ := ob hf
            refine J_callSN X (rest := []) (rs := []) (c_X5_put l o emb A hA (a + 2) 6 hO.2.2.1 x1 x2 h6 h7 qh7) nw_224 wd_225 wd_34 wd_226 hd_X5_put ⟨Nat.le_of_ble_eq_true rfl, Nat.le_of_ble_eq_true rfl⟩ ⟨Nat.zero_le _, Nat.zero_le _⟩ (Nat.le_of_ble_eq_true rfl) dX2_walk_89 rfl rfl ?_
            refine J_iload X 0 dX2_walk_92 rfl ?_
            refine J_bipush X (9 : Int32) dX2_walk_94 (by decide) ?_
            refine J_icmp_ne (tgt := 117) X dX2_walk_96 (by decide) (fun c96 => ?_) (fun c96 => ?_)
            · rw [if_neg c96] at hf
              refine J_const X (0 : Int32) dX2_walk_117 (by decide) ?_
              cases hf
              exact J_iret X dX2_walk_118
            · rw [if_pos c96] at hf
              refine J_aload_n X 3 dX2_walk_99 rfl rfl ?_
              refine J_get X hO.1 inX2 rfl 4 (Nat.le_of_ble_eq_true rfl) wd_66 rfl (v := .int (h7.1 a 4)) rfl dX2_walk_100 ?_
              refine J_bipush X (-6 : Int32) dX2_walk_103 (by decide) ?_
              refine J_icmp_ne (tgt := 117) X dX2_walk_105 (by decide) (fun c105 => ?_) (fun c105 => ?_)
              · rw [if_neg c105] at hf
                refine J_const X (0 : Int32) dX2_walk_117 (by decide) ?_
                cases hf
                exact J_iret X dX2_walk_118
              · rw [if_pos c105] at hf
                refine J_aload_n X 3 dX2_walk_108 rfl rfl ?_
                refine J_iload_n X 2 dX2_walk_109 rfl rfl ?_
                refine J_iload_n X 5 dX2_walk_110 rfl rfl ?_
                obtain ⟨v8, qv8, hf⟩ := ob hf
                refine J_callSN X (rest := [.ref (o.1 a)]) (rs := [.int v8, .ref (o.1 a)]) (c_X5_nameOfRoad l o emb A hA v2 x2 h7 v8 qv8) nw_349 wd_350 wd_34 wd_351 hd_X5_nameOfRoad ⟨Nat.le_of_ble_eq_true rfl, Nat.le_of_ble_eq_true rfl⟩ ⟨Nat.zero_le _, Nat.zero_le _⟩ (Nat.le_of_ble_eq_true rfl) dX2_walk_111 rfl rfl ?_
                obtain ⟨h9, qh9, hf⟩ := ob hf
                refine J_put X hO.1 inX2 tyX2 tyX2_ok nmX2 rfl 4 (Nat.le_of_ble_eq_true rfl) (by decide) wd_66 rfl rfl (ty := .int) (by decide +kernel) rfl rfl (Nat.le_of_ble_eq_true rfl) dX2_walk_114 ?_
                refine J_hp h9 (Option.some.inj qh9) ?_
                refine J_const X (0 : Int32) dX2_walk_117 (by decide) ?_
                cases hf
                exact J_iret X dX2_walk_118
          · rw [if_neg c53] at hf
            refine J_const X (5 : Int32) dX2_walk_56 (by decide) ?_
            cases hf
            exact J_iret X dX2_walk_57
        · rw [if_neg c44] at hf
          refine J_const X (4 : Int32) dX2_walk_47 (by decide) ?_
          cases hf
          exact J_iret X dX2_walk_48
      · rw [if_pos c35] at hf
        refine J_const X (3 : Int32) dX2_walk_38 (by decide) ?_
        cases hf
        exact J_iret X dX2_walk_39
    · rw [if_pos c18] at hf
      refine J_const X (2 : Int32) dX2_walk_21 (by decide) ?_
      cases hf
      exact J_iret X dX2_walk_22
  · rw [if_pos c5] at hf
    refine J_const X (1 : Int32) dX2_walk_8 (by decide) ?_
    cases hf
    exact J_iret X dX2_walk_9
theorem hd_X2_changeIron : yX2_changeIron.cls ≠ "java/lang/invoke/MethodHandle" ∧ yX2_changeIron.cls ≠ "java/lang/invoke/VarHandle" ∧ (parseMethodDescriptor yX2_changeIron.desc).map (fun d => d.parameters.length) = some 1 := by decide +kernel
set_option maxHeartbeats 4000000 in
set_option maxRecDepth 100000 in
theorem c_X2_changeIron (l : Launch) (o : Om) (emb : Hp → va_W) (A : Nat → Prop) (hA : ∀ h : Hp, va_D A (emb h)) (a : Nat) (hO : isX2 o emb a) (x1 : Int32) (h : Hp) (r : Int32) (h' : Hp) (hf : f_X2_changeIron a x1 h = some (r, h')) : Ct l o emb A yX2_changeIron cX2_changeIron 2 (some .int) 2 42 [.ref (o.1 a), .int x1] h (some (.int r)) h' := by
  refine Ct.of RX2 rfl (by decide +kernel) hA (Nat.le_of_ble_eq_true rfl) (fun p e s m args below meth c X => ?_)
  refine J_sub (lo' := [(0, .ref (o.1 a)), (1, .int x1)]) [0, 1] rfl ?_
  rw [f_X2_changeIron] at hf
  refine J_aload_n X 0 dX2_changeIron_0 rfl rfl ?_
  refine J_iload_n X 1 dX2_changeIron_1 rfl rfl ?_
  obtain ⟨v1, qv1, hf⟩ := ob hf
  refine J_callV X (rest := []) (rs := [.int v1]) (c_X2_isThere l o emb A hA a hO x1 h v1 qv1) hO.1 rfl rfl wd_249 wd_250 wd_251 wd_35 wd_252 hd_X2_isThere ⟨Nat.le_of_ble_eq_true rfl, Nat.le_of_ble_eq_true rfl⟩ ⟨Nat.zero_le _, Nat.zero_le _⟩ (Nat.le_of_ble_eq_true rfl) dX2_changeIron_2 rfl rfl ?_
  refine J_if_ne (tgt := 10) X dX2_changeIron_5 (by decide) (fun c5 => ?_) (fun c5 => ?_)
  · rw [if_neg c5] at hf
    refine J_aload_n X 0 dX2_changeIron_10 rfl rfl ?_
    refine J_get X hO.1 inX2 rfl 2 (Nat.le_of_ble_eq_true rfl) wd_63 rfl (v := .ref (o.1 (a + 3))) rfl dX2_changeIron_11 ?_
    refine J_iload_n X 1 dX2_changeIron_14 rfl rfl ?_
    refine J_const X (1 : Int32) dX2_changeIron_15 (by decide) ?_
    refine J_aload_n X 0 dX2_changeIron_16 rfl rfl ?_
    refine J_iload_n X 1 dX2_changeIron_17 rfl rfl ?_
    obtain ⟨v2, qv2, hf⟩ := ob hf
    refine J_callV X (rest := [.int (1 : Int32), .int x1, .ref (o.1 (a + 3))]) (rs := [.int v2, .int (1 : Int32), .int x1, .ref (o.1 (a + 3))]) (c_X2_ironOf l o emb A hA a hO x1 h v2 qv2) hO.1 rfl rfl wd_362 wd_363 wd_364 wd_35 wd_365 hd_X2_ironOf ⟨Nat.le_of_ble_eq_true rfl, Nat.le_of_ble_eq_true rfl⟩ ⟨Nat.zero_le _, Nat.zero_le _⟩ (Nat.le_of_ble_eq_true rfl) dX2_changeIron_18 rfl rfl ?_
    refine J_isub X dX2_changeIron_21 ?_
    obtain ⟨h3, qh3, hf⟩ := ob hf
    refine J_callSN X (rest := []) (rs := []) (c_X5_put l o emb A hA (a + 3) 6 hO.2.2.2 x1 ((1 : Int32) - v2) h h3 qh3) nw_224 wd_225 wd_34 wd_226 hd_X5_put ⟨Nat.le_of_ble_eq_true rfl, Nat.le_of_ble_eq_true rfl⟩ ⟨Nat.zero_le _, Nat.zero_le _⟩ (Nat.le_of_ble_eq_true rfl) dX2_changeIron_22 rfl rfl ?_
    refine J_const X (0 : Int32) dX2_changeIron_25 (by decide) ?_
    cases hf
    exact J_iret X dX2_changeIron_26
  · rw [if_pos c5] at hf
    refine J_const X (1 : Int32) dX2_changeIron_8 (by decide) ?_
    cases hf
    exact J_iret X dX2_changeIron_9
theorem hd_X2_bringIn : yX2_bringIn.cls ≠ "java/lang/invoke/MethodHandle" ∧ yX2_bringIn.cls ≠ "java/lang/invoke/VarHandle" ∧ (parseMethodDescriptor yX2_bringIn.desc).map (fun d => d.parameters.length) = some 2 := by decide +kernel
set_option maxHeartbeats 4000000 in
set_option maxRecDepth 100000 in
theorem c_X2_bringIn (l : Launch) (o : Om) (emb : Hp → va_W) (A : Nat → Prop) (hA : ∀ h : Hp, va_D A (emb h)) (a : Nat) (hO : isX2 o emb a) (x1 : Int32) (x2 : Int32) (h : Hp) (r : Int32) (h' : Hp) (hf : f_X2_bringIn a x1 x2 h = some (r, h')) : Ct l o emb A yX2_bringIn cX2_bringIn 4 (some .int) 2 45 [.ref (o.1 a), .int x1, .int x2] h (some (.int r)) h' := by
  refine Ct.of RX2 rfl (by decide +kernel) hA (Nat.le_of_ble_eq_true rfl) (fun p e s m args below meth c X => ?_)
  refine J_sub (lo' := [(0, .ref (o.1 a)), (1, .int x1), (2, .int x2)]) [0, 1, 2] rfl ?_
  rw [f_X2_bringIn] at hf
  refine J_aload_n X 0 dX2_bringIn_0 rfl rfl ?_
  refine J_iload_n X 1 dX2_bringIn_1 rfl rfl ?_
  refine J_iload_n X 2 dX2_bringIn_2 rfl rfl ?_
  obtain ⟨v1, qv1, hf⟩ := ob hf
  refine J_callV X (rest := []) (rs := [.int v1]) (c_X2_roadBetween l o emb A hA a hO x1 x2 h v1 qv1) hO.1 rfl rfl wd_340 wd_341 wd_342 wd_35 wd_343 hd_X2_roadBetween ⟨Nat.le_of_ble_eq_true rfl, Nat.le_of_ble_eq_true rfl⟩ ⟨Nat.zero_le _, Nat.zero_le _⟩ (Nat.le_of_ble_eq_true rfl) dX2_bringIn_3 rfl rfl ?_
  refine J_istore_n X [(3, .int v1), (0, .ref (o.1 a)), (1, .int x1), (2, .int x2)] dX2_bringIn_6 rfl (Nat.le_of_ble_eq_true rfl) rfl ?_
  refine J_iload_n X 0 dX2_bringIn_7 rfl rfl ?_
  refine J_bipush X (-6 : Int32) dX2_bringIn_8 (by decide) ?_
  refine J_icmp_ne (tgt := 15) X dX2_bringIn_10 (by decide) (fun c10 => ?_) (fun c10 => ?_)
  · rw [if_neg c10] at hf
    refine J_iload_n X 0 dX2_bringIn_15 rfl rfl ?_
    refine J_bipush X (100 : Int32) dX2_bringIn_16 (by decide) ?_
    refine J_icmp_lt (tgt := 23) X dX2_bringIn_18 (by decide) (fun c18 => ?_) (fun c18 => ?_)
    · rw [if_pos c18] at hf
      refine J_aload_n X 1 dX2_bringIn_23 rfl rfl ?_
      refine J_iload_n X 2 dX2_bringIn_24 rfl rfl ?_
      refine J_iload_n X 3 dX2_bringIn_25 rfl rfl ?_
      refine J_bipush X (103 : Int32) dX2_bringIn_26 (by decide) ?_
      obtain ⟨h2, qh2, hf⟩ := ob hf
      refine J_callV X (rest := []) (rs := []) (c_X2_putRoad l o emb A hA a hO x1 x2 (103 : Int32) h h2 qh2) hO.1 rfl rfl wd_344 wd_220 wd_221 wd_35 wd_222 hd_X2_putRoad ⟨Nat.le_of_ble_eq_true rfl, Nat.le_of_ble_eq_true rfl⟩ ⟨Nat.zero_le _, Nat.zero_le _⟩ (Nat.le_of_ble_eq_true rfl) dX2_bringIn_28 rfl rfl ?_
      refine J_const X (0 : Int32) dX2_bringIn_31 (by decide) ?_
      cases hf
      exact J_iret X dX2_bringIn_32
    · rw [if_neg c18] at hf
      refine J_const X (4 : Int32) dX2_bringIn_21 (by decide) ?_
      cases hf
      exact J_iret X dX2_bringIn_22
  · rw [if_pos c10] at hf
    refine J_const X (3 : Int32) dX2_bringIn_13 (by decide) ?_
    cases hf
    exact J_iret X dX2_bringIn_14
theorem hd_X2_patch : yX2_patch.cls ≠ "java/lang/invoke/MethodHandle" ∧ yX2_patch.cls ≠ "java/lang/invoke/VarHandle" ∧ (parseMethodDescriptor yX2_patch.desc).map (fun d => d.parameters.length) = some 4 := by decide +kernel
set_option maxHeartbeats 4000000 in
set_option maxRecDepth 100000 in
theorem c_X2_patch (l : Launch) (o : Om) (emb : Hp → va_W) (A : Nat → Prop) (hA : ∀ h : Hp, va_D A (emb h)) (a : Nat) (hO : isX2 o emb a) (x1 : Int32) (x2 : Int32) (x3 : Int32) (x4 : Int32) (h : Hp) (r : Int32) (h' : Hp) (hf : f_X2_patch a x1 x2 x3 x4 h = some (r, h')) : Ct l o emb A yX2_patch cX2_patch 7 (some .int) 2 45 [.ref (o.1 a), .int x1, .int x2, .int x3, .int x4] h (some (.int r)) h' := by
  refine Ct.of RX2 rfl (by decide +kernel) hA (Nat.le_of_ble_eq_true rfl) (fun p e s m args below meth c X => ?_)
  refine J_sub (lo' := [(0, .ref (o.1 a)), (1, .int x1), (2, .int x2), (3, .int x3), (4, .int x4)]) [0, 1, 2, 3, 4] rfl ?_
  rw [f_X2_patch] at hf
  refine J_aload_n X 0 dX2_patch_0 rfl rfl ?_
  refine J_iload_n X 1 dX2_patch_1 rfl rfl ?_
  refine J_iload_n X 2 dX2_patch_2 rfl rfl ?_
  obtain ⟨v1, qv1, hf⟩ := ob hf
  refine J_callV X (rest := []) (rs := [.int v1]) (c_X2_roadBetween l o emb A hA a hO x1 x2 h v1 qv1) hO.1 rfl rfl wd_340 wd_341 wd_342 wd_35 wd_343 hd_X2_roadBetween ⟨Nat.le_of_ble_eq_true rfl, Nat.le_of_ble_eq_true rfl⟩ ⟨Nat.zero_le _, Nat.zero_le _⟩ (Nat.le_of_ble_eq_true rfl) dX2_patch_3 rfl rfl ?_
  refine J_istore X [(5, .int v1), (0, .ref (o.1 a)), (1, .int x1), (2, .int x2), (3, .int x3), (4, .int x4)] dX2_patch_6 (Nat.le_of_ble_eq_true rfl) rfl ?_
  refine J_aload_n X 1 dX2_patch_8 rfl rfl ?_
  refine J_iload_n X 4 dX2_patch_9 rfl rfl ?_
  refine J_iload X 5 dX2_patch_10 rfl ?_
  obtain ⟨v2, qv2, hf⟩ := ob hf
  refine J_callV X (rest := []) (rs := [.int v2]) (c_X2_roadBetween l o emb A hA a hO x3 x4 h v2 qv2) hO.1 rfl rfl wd_340 wd_341 wd_342 wd_35 wd_343 hd_X2_roadBetween ⟨Nat.le_of_ble_eq_true rfl, Nat.le_of_ble_eq_true rfl⟩ ⟨Nat.zero_le _, Nat.zero_le _⟩ (Nat.le_of_ble_eq_true rfl) dX2_patch_12 rfl rfl ?_
  refine J_istore X [(6, .int v2), (5, .int v1), (0, .ref (o.1 a)), (1, .int x1), (2, .int x2), (3, .int x3), (4, .int x4)] dX2_patch_15 (Nat.le_of_ble_eq_true rfl) rfl ?_
  refine J_iload X 1 dX2_patch_17 rfl ?_
  refine J_bipush X (-6 : Int32) dX2_patch_19 (by decide) ?_
  refine J_icmp_eq (tgt := 31) X dX2_patch_21 (by decide) (fun c21 => ?_) (fun c21 => ?_)
  · rw [if_pos c21] at hf
    refine J_const X (3 : Int32) dX2_patch_31 (by decide) ?_
    cases hf
    exact J_iret X dX2_patch_32
  · rw [if_neg c21] at hf
    refine J_iload X 0 dX2_patch_24 rfl ?_
    refine J_bipush X (-6 : Int32) dX2_patch_26 (by decide) ?_
    refine J_icmp_ne (tgt := 33) X dX2_patch_28 (by decide) (fun c28 => ?_) (fun c28 => ?_)
    · rw [if_neg c28] at hf
      refine J_iload X 1 dX2_patch_33 rfl ?_
      refine J_bipush X (100 : Int32) dX2_patch_35 (by decide) ?_
      refine J_icmp_ge (tgt := 47) X dX2_patch_37 (by decide) (fun c37 => ?_) (fun c37 => ?_)
      · rw [if_pos c37] at hf
        refine J_const X (4 : Int32) dX2_patch_47 (by decide) ?_
        cases hf
        exact J_iret X dX2_patch_48
      · rw [if_neg c37] at hf
        refine J_iload X 0 dX2_patch_40 rfl ?_
        refine J_bipush X (100 : Int32) dX2_patch_42 (by decide) ?_
        refine J_icmp_lt (tgt := 49) X dX2_patch_44 (by decide) (fun c44 => ?_) (fun c44 => ?_)
        · rw [if_pos c44] at hf
          refine J_iload_n X 3 dX2_patch_49 rfl rfl ?_
          refine J_iload_n X 4 dX2_patch_50 rfl rfl ?_
          obtain ⟨v3, qv3, hf⟩ := ob hf
          refine J_callSN X (rest := []) (rs := [.int v3]) (c_X5_nameOfRoad l o emb A hA x1 x2 h v3 qv3) nw_349 wd_350 wd_34 wd_351 hd_X5_nameOfRoad ⟨Nat.le_of_ble_eq_true rfl, Nat.le_of_ble_eq_true rfl⟩ ⟨Nat.zero_le _, Nat.zero_le _⟩ (Nat.le_of_ble_eq_true rfl) dX2_patch_51 rfl rfl ?_
          refine J_iload_n X 5 dX2_patch_54 rfl rfl ?_
          refine J_iload X 6 dX2_patch_55 rfl ?_
          obtain ⟨v4, qv4, hf⟩ := ob hf
          refine J_callSN X (rest := [.int v3]) (rs := [.int v4, .int v3]) (c_X5_nameOfRoad l o emb A hA x3 x4 h v4 qv4) nw_349 wd_350 wd_34 wd_351 hd_X5_nameOfRoad ⟨Nat.le_of_ble_eq_true rfl, Nat.le_of_ble_eq_true rfl⟩ ⟨Nat.zero_le _, Nat.zero_le _⟩ (Nat.le_of_ble_eq_true rfl) dX2_patch_57 rfl rfl ?_
          refine J_icmp_ne (tgt := 66) X dX2_patch_60 (by decide) (fun c60 => ?_) (fun c60 => ?_)
          · rw [if_neg c60] at hf
            refine J_aload_n X 2 dX2_patch_66 rfl rfl ?_
            refine J_iload_n X 3 dX2_patch_67 rfl rfl ?_
            refine J_iload_n X 4 dX2_patch_68 rfl rfl ?_
            refine J_iload X 1 dX2_patch_69 rfl ?_
            refine J_const X (2 : Int32) dX2_patch_71 (by decide) ?_
            refine J_idiv X dX2_patch_72 (by decide) ?_
            obtain ⟨h5, qh5, hf⟩ := ob hf
            refine J_callV X (rest := []) (rs := []) (c_X2_putRoad l o emb A hA a hO x1 x2 (v1 / (2 : Int32)) h h5 qh5) hO.1 rfl rfl wd_344 wd_220 wd_221 wd_35 wd_222 hd_X2_putRoad ⟨Nat.le_of_ble_eq_true rfl, Nat.le_of_ble_eq_true rfl⟩ ⟨Nat.zero_le _, Nat.zero_le _⟩ (Nat.le_of_ble_eq_true rfl) dX2_patch_73 rfl rfl ?_
            refine J_aload_n X 2 dX2_patch_76 rfl rfl ?_
            refine J_iload_n X 5 dX2_patch_77 rfl rfl ?_
            refine J_iload X 6 dX2_patch_78 rfl ?_
            refine J_bipush X (-6 : Int32) dX2_patch_80 (by decide) ?_
            obtain ⟨h6, qh6, hf⟩ := ob hf
            refine J_callV X (rest := []) (rs := []) (c_X2_putRoad l o emb A hA a hO x3 x4 (-6 : Int32) h5 h6 qh6) hO.1 rfl rfl wd_344 wd_220 wd_221 wd_35 wd_222 hd_X2_putRoad ⟨Nat.le_of_ble_eq_true rfl, Nat.le_of_ble_eq_true rfl⟩ ⟨Nat.zero_le _, Nat.zero_le _⟩ (Nat.le_of_ble_eq_true rfl) dX2_patch_82 rfl rfl ?_
            refine J_const X (0 : Int32) dX2_patch_85 (by decide) ?_
            cases hf
            exact J_iret X dX2_patch_86
          · rw [if_pos c60] at hf
            refine J_bipush X (6 : Int32) dX2_patch_63 (by decide) ?_
            cases hf
            exact J_iret X dX2_patch_65
        · rw [if_neg c44] at hf
          refine J_const X (4 : Int32) dX2_patch_47 (by decide) ?_
          cases hf
          exact J_iret X dX2_patch_48
    · rw [if_pos c28] at hf
      refine J_const X (3 : Int32) dX2_patch_31 (by decide) ?_
      cases hf
      exact J_iret X dX2_patch_32
theorem hd_X2_passDay : yX2_passDay.cls ≠ "java/lang/invoke/MethodHandle" ∧ yX2_passDay.cls ≠ "java/lang/invoke/VarHandle" ∧ (parseMethodDescriptor yX2_passDay.desc).map (fun d => d.parameters.length) = some 0 := by decide +kernel
set_option maxHeartbeats 4000000 in
set_option maxRecDepth 100000 in
theorem cf_X2_passDay_l24 {R : Type} (hA : ∀ h : Hp, va_D A (emb h)) (X : Cx p s m args meth c RX2 cX2_passDay 2 (some .int) o) (a : Nat) (hO : isX2 o emb a)  {kx : Int32 → Hp → Option R} (t : R) : ∀ (n : Nat) (s1 : Int32) (h : Hp), f_X2_passDay_l24 a kx n s1 h = some t → (∀ (s1 : Int32) (h : Hp), kx s1 h = some t → J p l e (rmf 0 0) s m args below meth c 0 0 Z o emb A H0 2 79 [] [] h) → J p l e (rmf 0 0) s m args below meth c 0 0 Z o emb A H0 2 24 [(0, .ref (o.1 a)), (1, .int s1)] [] h := by
  intro n
  induction n with
  | zero =>
    intro s1 h hf hk
    cases hf
  | succ n ih =>
    intro s1 h hf hk
    rw [f_X2_passDay_l24] at hf
    refine J_iload_n X 1 dX2_passDay_24 rfl rfl ?_
    refine J_aload_n X 0 dX2_passDay_25 rfl rfl ?_
    refine J_get X hO.1 inX2 rfl 0 (Nat.le_of_ble_eq_true rfl) wd_61 rfl (v := .ref (o.1 (a + 1))) rfl dX2_passDay_26 ?_
    refine J_alenI X hO.2.1 (81 : Int32) (by decide) dX2_passDay_29 ?_
    refine J_icmp_ge (tgt := 79) X dX2_passDay_30 (by decide) (fun c30 => ?_) (fun c30 => ?_)
    · rw [if_pos c30] at hf
      exact J_sub [] rfl (hk s1 h hf)
    · rw [if_neg c30] at hf
      refine J_aload_n X 0 dX2_passDay_33 rfl rfl ?_
      refine J_get X hO.1 inX2 rfl 0 (Nat.le_of_ble_eq_true rfl) wd_61 rfl (v := .ref (o.1 (a + 1))) rfl dX2_passDay_34 ?_
      refine J_iload_n X 1 dX2_passDay_37 rfl rfl ?_
      obtain ⟨v2, qv2, hf⟩ := ob hf
      refine J_iald X hO.2.1 (ald_s qv2).1 dX2_passDay_38 ?_
      refine J_topi v2 (ald_s qv2).2 ?_
      refine J_bipush X (100 : Int32) dX2_passDay_39 (by decide) ?_
      refine J_icmp_le (tgt := 73) X dX2_passDay_41 (by decide) (fun c41 => ?_) (fun c41 => ?_)
      · rw [if_pos c41] at hf
        obtain ⟨v3, qv3, hf⟩ := ob hf
        refine J_iinc X 1 [(1, .int v3), (0, .ref (o.1 a))] dX2_passDay_73 rfl (Option.some.inj qv3) (Nat.le_of_ble_eq_true rfl) rfl ?_
        refine J_goto (tgt := 24) X dX2_passDay_76 (by decide) ?_
        exact J_sub [1, 0] rfl (ih v3 h hf hk)
      · rw [if_neg c41] at hf
        refine J_aload_n X 0 dX2_passDay_44 rfl rfl ?_
        refine J_get X hO.1 inX2 rfl 0 (Nat.le_of_ble_eq_true rfl) wd_61 rfl (v := .ref (o.1 (a + 1))) rfl dX2_passDay_45 ?_
        refine J_iload_n X 1 dX2_passDay_48 rfl rfl ?_
        refine J_aload_n X 0 dX2_passDay_49 rfl rfl ?_
        refine J_get X hO.1 inX2 rfl 0 (Nat.le_of_ble_eq_true rfl) wd_61 rfl (v := .ref (o.1 (a + 1))) rfl dX2_passDay_50 ?_
        refine J_iload_n X 1 dX2_passDay_53 rfl rfl ?_
        obtain ⟨v4, qv4, hf⟩ := ob hf
        refine J_iald X hO.2.1 (ald_s qv4).1 dX2_passDay_54 ?_
        refine J_topi v4 (ald_s qv4).2 ?_
        refine J_bipush X (101 : Int32) dX2_passDay_55 (by decide) ?_
        obtain ⟨t6, qt6, hf⟩ := ob hf
        have yk5 : J p l e (rmf 0 0) s m args below meth c 0 0 Z o emb A H0 2 72 [(0, .ref (o.1 a)), (1, .int s1)] [.int t6, .int s1, .ref (o.1 (a + 1))] h := by
          obtain ⟨h7, qh7, hf⟩ := ob hf
          refine J_iast X hO.2.1 (ast_s qh7).1 dX2_passDay_72 ?_
          refine J_hp h7 (ast_s qh7).2 ?_
          obtain ⟨v8, qv8, hf⟩ := ob hf
          refine J_iinc X 1 [(1, .int v8), (0, .ref (o.1 a))] dX2_passDay_73 rfl (Option.some.inj qv8) (Nat.le_of_ble_eq_true rfl) rfl ?_
          refine J_goto (tgt := 24) X dX2_passDay_76 (by decide) ?_
          exact J_sub [1, 0] rfl (ih v8 h7 hf hk)
        clear hf
        have hf := qt6
        clear qt6
        refine J_icmp_ne (tgt := 64) X dX2_passDay_57 (by decide) (fun c57 => ?_) (fun c57 => ?_)
        · rw [if_neg c57] at hf
          refine J_aload_n X 0 dX2_passDay_64 rfl rfl ?_
          refine J_get X hO.1 inX2 rfl 0 (Nat.le_of_ble_eq_true rfl) wd_61 rfl (v := .ref (o.1 (a + 1))) rfl dX2_passDay_65 ?_
          refine J_iload_n X 1 dX2_passDay_68 rfl rfl ?_
          obtain ⟨v9, qv9, hf⟩ := ob hf
          refine J_iald X hO.2.1 (ald_s qv9).1 dX2_passDay_69 ?_
          refine J_topi v9 (ald_s qv9).2 ?_
          refine J_const X (1 : Int32) dX2_passDay_70 (by decide) ?_
          refine J_isub X dX2_passDay_71 ?_
          cases hf
          exact J_sub [0, 1] rfl yk5
        · rw [if_pos c57] at hf
          refine J_const X (0 : Int32) dX2_passDay_60 (by decide) ?_
          refine J_goto (tgt := 72) X dX2_passDay_61 (by decide) ?_
          cases hf
          exact J_sub [0, 1] rfl yk5
set_option maxHeartbeats 4000000 in
set_option maxRecDepth 100000 in
theorem c_X2_passDay (l : Launch) (o : Om) (emb : Hp → va_W) (A : Nat → Prop) (hA : ∀ h : Hp, va_D A (emb h)) (a : Nat) (hO : isX2 o emb a) (h : Hp) (r : Int32) (h' : Hp) (hf : f_X2_passDay a h = some (r, h')) : Ct l o emb A yX2_passDay cX2_passDay 2 (some .int) 0 0 [.ref (o.1 a)] h (some (.int r)) h' := by
  refine Ct.of RX2 rfl (by decide +kernel) hA (Nat.le_of_ble_eq_true rfl) (fun p e s m args below meth c X => ?_)
  refine J_sub (lo' := [(0, .ref (o.1 a))]) [0] rfl ?_
  rw [f_X2_passDay] at hf
  refine J_aload_n X 0 dX2_passDay_0 rfl rfl ?_
  refine J_get X hO.1 inX2 rfl 3 (Nat.le_of_ble_eq_true rfl) wd_64 rfl (v := .int (h.1 a 3)) rfl dX2_passDay_1 ?_
  refine J_bipush X (99 : Int32) dX2_passDay_4 (by decide) ?_
  refine J_icmp_lt (tgt := 12) X dX2_passDay_6 (by decide) (fun c6 => ?_) (fun c6 => ?_)
  · rw [if_pos c6] at hf
    refine J_aload_n X 0 dX2_passDay_12 rfl rfl ?_
    refine J_dup X dX2_passDay_13 rfl ?_
    refine J_get X hO.1 inX2 rfl 3 (Nat.le_of_ble_eq_true rfl) wd_64 rfl (v := .int (h.1 a 3)) rfl dX2_passDay_14 ?_
    refine J_const X (1 : Int32) dX2_passDay_17 (by decide) ?_
    refine J_iadd X dX2_passDay_18 ?_
    obtain ⟨h1, qh1, hf⟩ := ob hf
    refine J_put X hO.1 inX2 tyX2 tyX2_ok nmX2 rfl 3 (Nat.le_of_ble_eq_true rfl) (by decide) wd_64 rfl rfl (ty := .int) (by decide +kernel) rfl rfl (Nat.le_of_ble_eq_true rfl) dX2_passDay_19 ?_
    refine J_hp h1 (Option.some.inj qh1) ?_
    refine J_const X (0 : Int32) dX2_passDay_22 (by decide) ?_
    refine J_istore_n X [(1, .int (0 : Int32)), (0, .ref (o.1 a))] dX2_passDay_23 rfl (Nat.le_of_ble_eq_true rfl) rfl ?_
    refine J_sub (lo' := [(0, .ref (o.1 a)), (1, .int (0 : Int32))]) [1, 0] rfl ?_
    refine cf_X2_passDay_l24 hA X a hO  _ _ (0 : Int32) h1 hf (fun w10 h11 hf => ?_)
    refine J_const X (0 : Int32) dX2_passDay_79 (by decide) ?_
    cases hf
    exact J_iret X dX2_passDay_80
  · rw [if_neg c6] at hf
    refine J_bipush X (7 : Int32) dX2_passDay_9 (by decide) ?_
    cases hf
    exact J_iret X dX2_passDay_11
theorem hd_X3_copyFrom : yX3_copyFrom.cls ≠ "java/lang/invoke/MethodHandle" ∧ yX3_copyFrom.cls ≠ "java/lang/invoke/VarHandle" ∧ (parseMethodDescriptor yX3_copyFrom.desc).map (fun d => d.parameters.length) = some 1 := by decide +kernel
set_option maxHeartbeats 4000000 in
set_option maxRecDepth 100000 in
theorem c_X3_copyFrom (l : Launch) (o : Om) (emb : Hp → va_W) (A : Nat → Prop) (hA : ∀ h : Hp, va_D A (emb h)) (a : Nat) (b1 : Nat) (hO : isX3 o emb a) (hB1 : isX3 o emb b1) (h : Hp)  (h' : Hp) (hf : f_X3_copyFrom a b1 h = some h') : Ct l o emb A yX3_copyFrom cX3_copyFrom 2 none 1 22 [.ref (o.1 a), .ref (o.1 b1)] h none h' := by
  refine Ct.of RX3 rfl (by decide +kernel) hA (Nat.le_of_ble_eq_true rfl) (fun p e s m args below meth c X => ?_)
  refine J_sub (lo' := [(0, .ref (o.1 a)), (1, .ref (o.1 b1))]) [0, 1] rfl ?_
  rw [f_X3_copyFrom] at hf
  refine J_aload_n X 1 dX3_copyFrom_0 rfl rfl ?_
  refine J_get X hB1.1 inX3 rfl 0 (Nat.le_of_ble_eq_true rfl) wd_87 rfl (v := .ref (o.1 (b1 + 1))) rfl dX3_copyFrom_1 ?_
  refine J_aload_n X 0 dX3_copyFrom_4 rfl rfl ?_
  refine J_get X hO.1 inX3 rfl 0 (Nat.le_of_ble_eq_true rfl) wd_87 rfl (v := .ref (o.1 (a + 1))) rfl dX3_copyFrom_5 ?_
  obtain ⟨h1, qh1, hf⟩ := ob hf
  refine J_callSN X (rest := []) (rs := []) (c_X5_copy l o emb A hA (b1 + 1) 8 (a + 1) 8 hB1.2.1 hO.2.1 h h1 qh1) nw_576 wd_324 wd_34 wd_325 hd_X5_copy ⟨Nat.le_of_ble_eq_true rfl, Nat.le_of_ble_eq_true rfl⟩ ⟨Nat.zero_le _, Nat.zero_le _⟩ (Nat.le_of_ble_eq_true rfl) dX3_copyFrom_8 rfl rfl ?_
  refine J_aload_n X 1 dX3_copyFrom_11 rfl rfl ?_
  refine J_get X hB1.1 inX3 rfl 1 (Nat.le_of_ble_eq_true rfl) wd_88 rfl (v := .ref (o.1 (b1 + 2))) rfl dX3_copyFrom_12 ?_
  refine J_aload_n X 0 dX3_copyFrom_15 rfl rfl ?_
  refine J_get X hO.1 inX3 rfl 1 (Nat.le_of_ble_eq_true rfl) wd_88 rfl (v := .ref (o.1 (a + 2))) rfl dX3_copyFrom_16 ?_
  obtain ⟨h2, qh2, hf⟩ := ob hf
  refine J_callSN X (rest := []) (rs := []) (c_X5_copy l o emb A hA (b1 + 2) 8 (a + 2) 8 hB1.2.2.1 hO.2.2.1 h1 h2 qh2) nw_576 wd_324 wd_34 wd_325 hd_X5_copy ⟨Nat.le_of_ble_eq_true rfl, Nat.le_of_ble_eq_true rfl⟩ ⟨Nat.zero_le _, Nat.zero_le _⟩ (Nat.le_of_ble_eq_true rfl) dX3_copyFrom_19 rfl rfl ?_
  refine J_aload_n X 1 dX3_copyFrom_22 rfl rfl ?_
  refine J_get X hB1.1 inX3 rfl 2 (Nat.le_of_ble_eq_true rfl) wd_89 rfl (v := .ref (o.1 (b1 + 3))) rfl dX3_copyFrom_23 ?_
  refine J_aload_n X 0 dX3_copyFrom_26 rfl rfl ?_
  refine J_get X hO.1 inX3 rfl 2 (Nat.le_of_ble_eq_true rfl) wd_89 rfl (v := .ref (o.1 (a + 3))) rfl dX3_copyFrom_27 ?_
  obtain ⟨h3, qh3, hf⟩ := ob hf
  refine J_callSN X (rest := []) (rs := []) (c_X5_copy l o emb A hA (b1 + 3) 8 (a + 3) 8 hB1.2.2.2 hO.2.2.2 h2 h3 qh3) nw_576 wd_324 wd_34 wd_325 hd_X5_copy ⟨Nat.le_of_ble_eq_true rfl, Nat.le_of_ble_eq_true rfl⟩ ⟨Nat.zero_le _, Nat.zero_le _⟩ (Nat.le_of_ble_eq_true rfl) dX3_copyFrom_30 rfl rfl ?_
  refine J_aload_n X 0 dX3_copyFrom_33 rfl rfl ?_
  refine J_aload_n X 1 dX3_copyFrom_34 rfl rfl ?_
  refine J_get X hB1.1 inX3 rfl 3 (Nat.le_of_ble_eq_true rfl) wd_90 rfl (v := .int (h3.1 b1 3)) rfl dX3_copyFrom_35 ?_
  obtain ⟨h4, qh4, hf⟩ := ob hf
  refine J_put X hO.1 inX3 tyX3 tyX3_ok nmX3 rfl 3 (Nat.le_of_ble_eq_true rfl) (by decide) wd_90 rfl rfl (ty := .int) (by decide +kernel) rfl rfl (Nat.le_of_ble_eq_true rfl) dX3_copyFrom_38 ?_
  refine J_hp h4 (Option.some.inj qh4) ?_
  cases hf
  exact J_vret X dX3_copyFrom_41
theorem hd_X3_add : yX3_add.cls ≠ "java/lang/invoke/MethodHandle" ∧ yX3_add.cls ≠ "java/lang/invoke/VarHandle" ∧ (parseMethodDescriptor yX3_add.desc).map (fun d => d.parameters.length) = some 3 := by decide +kernel
set_option maxHeartbeats 4000000 in
set_option maxRecDepth 100000 in
theorem c_X3_add (l : Launch) (o : Om) (emb : Hp → va_W) (A : Nat → Prop) (hA : ∀ h : Hp, va_D A (emb h)) (a : Nat) (hO : isX3 o emb a) (x1 : Int32) (x2 : Int32) (x3 : Int32) (h : Hp)  (h' : Hp) (hf : f_X3_add a x1 x2 x3 h = some h') : Ct l o emb A yX3_add cX3_add 4 none 1 22 [.ref (o.1 a), .int x1, .int x2, .int x3] h none h' := by
  refine Ct.of RX3 rfl (by decide +kernel) hA (Nat.le_of_ble_eq_true rfl) (fun p e s m args below meth c X => ?_)
  refine J_sub (lo' := [(0, .ref (o.1 a)), (1, .int x1), (2, .int x2), (3, .int x3)]) [0, 1, 2, 3] rfl ?_
  rw [f_X3_add] at hf
  refine J_aload_n X 0 dX3_add_0 rfl rfl ?_
  refine J_get X hO.1 inX3 rfl 3 (Nat.le_of_ble_eq_true rfl) wd_90 rfl (v := .int (h.1 a 3)) rfl dX3_add_1 ?_
  refine J_bipush X (8 : Int32) dX3_add_4 (by decide) ?_
  refine J_icmp_lt (tgt := 10) X dX3_add_6 (by decide) (fun c6 => ?_) (fun c6 => ?_)
  · rw [if_pos c6] at hf
    refine J_aload_n X 0 dX3_add_10 rfl rfl ?_
    refine J_get X hO.1 inX3 rfl 0 (Nat.le_of_ble_eq_true rfl) wd_87 rfl (v := .ref (o.1 (a + 1))) rfl dX3_add_11 ?_
    refine J_aload_n X 0 dX3_add_14 rfl rfl ?_
    refine J_get X hO.1 inX3 rfl 3 (Nat.le_of_ble_eq_true rfl) wd_90 rfl (v := .int (h.1 a 3)) rfl dX3_add_15 ?_
    refine J_iload_n X 1 dX3_add_18 rfl rfl ?_
    obtain ⟨h1, qh1, hf⟩ := ob hf
    refine J_callSN X (rest := []) (rs := []) (c_X5_put l o emb A hA (a + 1) 8 hO.2.1 (h.1 a 3) x1 h h1 qh1) nw_501 wd_225 wd_34 wd_226 hd_X5_put ⟨Nat.le_of_ble_eq_true rfl, Nat.le_of_ble_eq_true rfl⟩ ⟨Nat.zero_le _, Nat.zero_le _⟩ (Nat.le_of_ble_eq_true rfl) dX3_add_19 rfl rfl ?_
    refine J_aload_n X 0 dX3_add_22 rfl rfl ?_
    refine J_get X hO.1 inX3 rfl 1 (Nat.le_of_ble_eq_true rfl) wd_88 rfl (v := .ref (o.1 (a + 2))) rfl dX3_add_23 ?_
    refine J_aload_n X 0 dX3_add_26 rfl rfl ?_
    refine J_get X hO.1 inX3 rfl 3 (Nat.le_of_ble_eq_true rfl) wd_90 rfl (v := .int (h1.1 a 3)) rfl dX3_add_27 ?_
    refine J_iload_n X 2 dX3_add_30 rfl rfl ?_
    obtain ⟨h2, qh2, hf⟩ := ob hf
    refine J_callSN X (rest := []) (rs := []) (c_X5_put l o emb A hA (a + 2) 8 hO.2.2.1 (h1.1 a 3) x2 h1 h2 qh2) nw_501 wd_225 wd_34 wd_226 hd_X5_put ⟨Nat.le_of_ble_eq_true rfl, Nat.le_of_ble_eq_true rfl⟩ ⟨Nat.zero_le _, Nat.zero_le _⟩ (Nat.le_of_ble_eq_true rfl) dX3_add_31 rfl rfl ?_
    refine J_aload_n X 0 dX3_add_34 rfl rfl ?_
    refine J_get X hO.1 inX3 rfl 2 (Nat.le_of_ble_eq_true rfl) wd_89 rfl (v := .ref (o.1 (a + 3))) rfl dX3_add_35 ?_
    refine J_aload_n X 0 dX3_add_38 rfl rfl ?_
    refine J_get X hO.1 inX3 rfl 3 (Nat.le_of_ble_eq_true rfl) wd_90 rfl (v := .int (h2.1 a 3)) rfl dX3_add_39 ?_
    refine J_iload_n X 3 dX3_add_42 rfl rfl ?_
    obtain ⟨h3, qh3, hf⟩ := ob hf
    refine J_callSN X (rest := []) (rs := []) (c_X5_put l o emb A hA (a + 3) 8 hO.2.2.2 (h2.1 a 3) x3 h2 h3 qh3) nw_501 wd_225 wd_34 wd_226 hd_X5_put ⟨Nat.le_of_ble_eq_true rfl, Nat.le_of_ble_eq_true rfl⟩ ⟨Nat.zero_le _, Nat.zero_le _⟩ (Nat.le_of_ble_eq_true rfl) dX3_add_43 rfl rfl ?_
    refine J_aload_n X 0 dX3_add_46 rfl rfl ?_
    refine J_dup X dX3_add_47 rfl ?_
    refine J_get X hO.1 inX3 rfl 3 (Nat.le_of_ble_eq_true rfl) wd_90 rfl (v := .int (h3.1 a 3)) rfl dX3_add_48 ?_
    refine J_const X (1 : Int32) dX3_add_51 (by decide) ?_
    refine J_iadd X dX3_add_52 ?_
    obtain ⟨h4, qh4, hf⟩ := ob hf
    refine J_put X hO.1 inX3 tyX3 tyX3_ok nmX3 rfl 3 (Nat.le_of_ble_eq_true rfl) (by decide) wd_90 rfl rfl (ty := .int) (by decide +kernel) rfl rfl (Nat.le_of_ble_eq_true rfl) dX3_add_53 ?_
    refine J_hp h4 (Option.some.inj qh4) ?_
    cases hf
    exact J_vret X dX3_add_56
  · rw [if_neg c6] at hf
    cases hf
    exact J_vret X dX3_add_9
theorem hd_X3_allowGuess : yX3_allowGuess.cls ≠ "java/lang/invoke/MethodHandle" ∧ yX3_allowGuess.cls ≠ "java/lang/invoke/VarHandle" ∧ (parseMethodDescriptor yX3_allowGuess.desc).map (fun d => d.parameters.length) = some 1 := by decide +kernel
set_option maxHeartbeats 4000000 in
set_option maxRecDepth 100000 in
theorem cf_X3_allowGuess_l2 (hA : ∀ h : Hp, va_D A (emb h)) (X : Cx p s m args meth c RX3 cX3_allowGuess 3 (some .boolean) o) (a : Nat) (hO : isX3 o emb a) (s1 : Int32) (h : Hp) {kx : Int32 → Option Int32} (r : Int32) : ∀ (n : Nat) (s2 : Int32), f_X3_allowGuess_l2 a s1 h kx n s2 = some r → (∀ (s2 : Int32), kx s2 = some r → J p l e (rmf 1 25) s m args below meth c 0 0 (MQ below (WdQ o emb A (some (.int r)) h) args s 0 0 A) o emb A s.heap 3 55 [] [] h) → J p l e (rmf 1 25) s m args below meth c 0 0 (MQ below (WdQ o emb A (some (.int r)) h) args s 0 0 A) o emb A s.heap 3 2 [(0, .ref (o.1 a)), (1, .int s1), (2, .int s2)] [] h := by
  intro n
  induction n with
  | zero =>
    intro s2 hf hk
    cases hf
  | succ n ih =>
    intro s2 hf hk
    rw [f_X3_allowGuess_l2] at hf
    refine J_iload_n X 2 dX3_allowGuess_2 rfl rfl ?_
    refine J_aload_n X 0 dX3_allowGuess_3 rfl rfl ?_
    refine J_get X hO.1 inX3 rfl 3 (Nat.le_of_ble_eq_true rfl) wd_90 rfl (v := .int (h.1 a 3)) rfl dX3_allowGuess_4 ?_
    refine J_icmp_ge (tgt := 55) X dX3_allowGuess_7 (by decide) (fun c7 => ?_) (fun c7 => ?_)
    · rw [if_pos c7] at hf
      exact J_sub [] rfl (hk s2 hf)
    · rw [if_neg c7] at hf
      refine J_iload_n X 2 dX3_allowGuess_10 rfl rfl ?_
      refine J_bipush X (8 : Int32) dX3_allowGuess_11 (by decide) ?_
      refine J_icmp_ge (tgt := 55) X dX3_allowGuess_13 (by decide) (fun c13 => ?_) (fun c13 => ?_)
      · rw [if_pos c13] at hf
        exact J_sub [] rfl (hk s2 hf)
      · rw [if_neg c13] at hf
        refine J_aload_n X 0 dX3_allowGuess_16 rfl rfl ?_
        refine J_get X hO.1 inX3 rfl 0 (Nat.le_of_ble_eq_true rfl) wd_87 rfl (v := .ref (o.1 (a + 1))) rfl dX3_allowGuess_17 ?_
        refine J_iload_n X 2 dX3_allowGuess_20 rfl rfl ?_
        obtain ⟨v1, qv1, hf⟩ := ob hf
        refine J_callSN X (rest := []) (rs := [.int v1]) (c_X5_at l o emb A hA (a + 1) 8 hO.2.1 s2 h v1 qv1) nw_518 wd_255 wd_34 wd_256 hd_X5_at ⟨Nat.le_of_ble_eq_true rfl, Nat.le_of_ble_eq_true rfl⟩ ⟨Nat.zero_le _, Nat.zero_le _⟩ (Nat.le_of_ble_eq_true rfl) dX3_allowGuess_21 rfl rfl ?_
        refine J_aload_n X 0 dX3_allowGuess_24 rfl rfl ?_
        refine J_get X hO.1 inX3 rfl 1 (Nat.le_of_ble_eq_true rfl) wd_88 rfl (v := .ref (o.1 (a + 2))) rfl dX3_allowGuess_25 ?_
        refine J_iload_n X 2 dX3_allowGuess_28 rfl rfl ?_
        obtain ⟨v2, qv2, hf⟩ := ob hf
        refine J_callSN X (rest := [.int v1]) (rs := [.int v2, .int v1]) (c_X5_at l o emb A hA (a + 2) 8 hO.2.2.1 s2 h v2 qv2) nw_518 wd_255 wd_34 wd_256 hd_X5_at ⟨Nat.le_of_ble_eq_true rfl, Nat.le_of_ble_eq_true rfl⟩ ⟨Nat.zero_le _, Nat.zero_le _⟩ (Nat.le_of_ble_eq_true rfl) dX3_allowGuess_29 rfl rfl ?_
        refine J_iload_n X 1 dX3_allowGuess_32 rfl rfl ?_
        obtain ⟨v3, qv3, hf⟩ := ob hf
        refine J_callSN X (rest := []) (rs := [.int v3]) (c_X5_reading l o emb A hA v1 v2 s1 h v3 qv3) nw_519 wd_520 wd_34 wd_521 hd_X5_reading ⟨Nat.le_of_ble_eq_true rfl, Nat.le_of_ble_eq_true rfl⟩ ⟨Nat.zero_le _, Nat.zero_le _⟩ (Nat.le_of_ble_eq_true rfl) dX3_allowGuess_33 rfl rfl ?_
        refine J_aload_n X 0 dX3_allowGuess_36 rfl rfl ?_
        refine J_get X hO.1 inX3 rfl 2 (Nat.le_of_ble_eq_true rfl) wd_89 rfl (v := .ref (o.1 (a + 3))) rfl dX3_allowGuess_37 ?_
        refine J_iload_n X 2 dX3_allowGuess_40 rfl rfl ?_
        obtain ⟨v4, qv4, hf⟩ := ob hf
        refine J_callSN X (rest := [.int v3]) (rs := [.int v4, .int v3]) (c_X5_at l o emb A hA (a + 3) 8 hO.2.2.2 s2 h v4 qv4) nw_518 wd_255 wd_34 wd_256 hd_X5_at ⟨Nat.le_of_ble_eq_true rfl, Nat.le_of_ble_eq_true rfl⟩ ⟨Nat.zero_le _, Nat.zero_le _⟩ (Nat.le_of_ble_eq_true rfl) dX3_allowGuess_41 rfl rfl ?_
        refine J_icmp_eq (tgt := 49) X dX3_allowGuess_44 (by decide) (fun c44 => ?_) (fun c44 => ?_)
        · rw [if_pos c44] at hf
          obtain ⟨v5, qv5, hf⟩ := ob hf
          refine J_iinc X 2 [(2, .int v5), (0, .ref (o.1 a)), (1, .int s1)] dX3_allowGuess_49 rfl (Option.some.inj qv5) (Nat.le_of_ble_eq_true rfl) rfl ?_
          refine J_goto (tgt := 2) X dX3_allowGuess_52 (by decide) ?_
          exact J_sub [1, 2, 0] rfl (ih v5 hf hk)
        · rw [if_neg c44] at hf
          refine J_const X (0 : Int32) dX3_allowGuess_47 (by decide) ?_
          cases hf
          exact J_zret X rfl dX3_allowGuess_48
set_option maxHeartbeats 4000000 in
set_option maxRecDepth 100000 in
theorem c_X3_allowGuess (l : Launch) (o : Om) (emb : Hp → va_W) (A : Nat → Prop) (hA : ∀ h : Hp, va_D A (emb h)) (a : Nat) (hO : isX3 o emb a) (x1 : Int32) (h : Hp) (r : Int32) (hf : f_X3_allowGuess a x1 h = some r) : Ct l o emb A yX3_allowGuess cX3_allowGuess 3 (some .boolean) 1 25 [.ref (o.1 a), .int x1] h (some (.int r)) h := by
  refine Ct.of RX3 rfl (by decide +kernel) hA (Nat.le_of_ble_eq_true rfl) (fun p e s m args below meth c X => ?_)
  refine J_sub (lo' := [(0, .ref (o.1 a)), (1, .int x1)]) [0, 1] rfl ?_
  rw [f_X3_allowGuess] at hf
  refine J_const X (0 : Int32) dX3_allowGuess_0 (by decide) ?_
  refine J_istore_n X [(2, .int (0 : Int32)), (0, .ref (o.1 a)), (1, .int x1)] dX3_allowGuess_1 rfl (Nat.le_of_ble_eq_true rfl) rfl ?_
  refine J_sub (lo' := [(0, .ref (o.1 a)), (1, .int x1), (2, .int (0 : Int32))]) [1, 2, 0] rfl ?_
  refine cf_X3_allowGuess_l2 hA X a hO x1 h r _ (0 : Int32) hf (fun w6 hf => ?_)
  refine J_const X (1 : Int32) dX3_allowGuess_55 (by decide) ?_
  cases hf
  exact J_zret X rfl dX3_allowGuess_56
end CERT
end
