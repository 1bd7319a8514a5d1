section
/-- a private method of a class that the tables say can be made, by its rows of tables_1 -/
def lw_okq (q : MethodName × Nat) : Prop := (q.1.cls ≠ "java/lang/invoke/MethodHandle" ∧ q.1.cls ≠ "java/lang/invoke/VarHandle") ∧ Cond.instantiable q.1.cls q.2 ∈ tables_1 ∧ Cond.privateMethod q.1 ∈ tables_1 ∧ Cond.instanceMethod q.1 ∈ tables_1
theorem lw_p0 : lw_okq (⟨"RoadCobblers$Pad", "canGoOn", "(II)Z"⟩, 2) := ⟨⟨by decide +kernel, by decide +kernel⟩, List.mem_of_getElem? (i := 69) (by decide +kernel), List.mem_of_getElem? (i := 266) (by decide +kernel), List.mem_of_getElem? (i := 267) (by decide +kernel)⟩
theorem lw_p1 : lw_okq (⟨"RoadCobblers$Trial", "begin", "(LRoadCobblers$Shire;)V"⟩, 5) := ⟨⟨by decide +kernel, by decide +kernel⟩, List.mem_of_getElem? (i := 84) (by decide +kernel), List.mem_of_getElem? (i := 283) (by decide +kernel), List.mem_of_getElem? (i := 284) (by decide +kernel)⟩
theorem lw_p2 : lw_okq (⟨"RoadCobblers$Trial", "take", "(LRoadCobblers$Pad;I)I"⟩, 5) := ⟨⟨by decide +kernel, by decide +kernel⟩, List.mem_of_getElem? (i := 84) (by decide +kernel), List.mem_of_getElem? (i := 294) (by decide +kernel), List.mem_of_getElem? (i := 295) (by decide +kernel)⟩
theorem lw_p3 : lw_okq (⟨"RoadCobblers", "canBeDone", "()Z"⟩, 13) := ⟨⟨by decide +kernel, by decide +kernel⟩, List.mem_of_getElem? (i := 12) (by decide +kernel), List.mem_of_getElem? (i := 348) (by decide +kernel), List.mem_of_getElem? (i := 349) (by decide +kernel)⟩
theorem lw_p4 : lw_okq (⟨"RoadCobblers", "leastWay", "(IIZ)I"⟩, 13) := ⟨⟨by decide +kernel, by decide +kernel⟩, List.mem_of_getElem? (i := 12) (by decide +kernel), List.mem_of_getElem? (i := 390) (by decide +kernel), List.mem_of_getElem? (i := 391) (by decide +kernel)⟩
theorem lw_p5 : lw_okq (⟨"RoadCobblers", "lengthenFrom", "(IZ)V"⟩, 13) := ⟨⟨by decide +kernel, by decide +kernel⟩, List.mem_of_getElem? (i := 12) (by decide +kernel), List.mem_of_getElem? (i := 396) (by decide +kernel), List.mem_of_getElem? (i := 397) (by decide +kernel)⟩
theorem lw_p6 : lw_okq (⟨"RoadCobblers", "walksWithin", "(I)I"⟩, 13) := ⟨⟨by decide +kernel, by decide +kernel⟩, List.mem_of_getElem? (i := 12) (by decide +kernel), List.mem_of_getElem? (i := 419) (by decide +kernel), List.mem_of_getElem? (i := 420) (by decide +kernel)⟩
theorem lw_p7 : lw_okq (⟨"RoadCobblers", "fillLoads", "(II)V"⟩, 13) := ⟨⟨by decide +kernel, by decide +kernel⟩, List.mem_of_getElem? (i := 12) (by decide +kernel), List.mem_of_getElem? (i := 438) (by decide +kernel), List.mem_of_getElem? (i := 439) (by decide +kernel)⟩
theorem lw_p8 : lw_okq (⟨"RoadCobblers", "giveToOneMoreHand", "(I)V"⟩, 13) := ⟨⟨by decide +kernel, by decide +kernel⟩, List.mem_of_getElem? (i := 12) (by decide +kernel), List.mem_of_getElem? (i := 442) (by decide +kernel), List.mem_of_getElem? (i := 443) (by decide +kernel)⟩
theorem lw_p9 : lw_okq (⟨"RoadCobblers", "gatherFitting", "()I"⟩, 13) := ⟨⟨by decide +kernel, by decide +kernel⟩, List.mem_of_getElem? (i := 12) (by decide +kernel), List.mem_of_getElem? (i := 478) (by decide +kernel), List.mem_of_getElem? (i := 479) (by decide +kernel)⟩
theorem lw_p10 : lw_okq (⟨"RoadCobblers", "mostLeft", "(III)I"⟩, 13) := ⟨⟨by decide +kernel, by decide +kernel⟩, List.mem_of_getElem? (i := 12) (by decide +kernel), List.mem_of_getElem? (i := 494) (by decide +kernel), List.mem_of_getElem? (i := 495) (by decide +kernel)⟩
theorem lw_p11 : lw_okq (⟨"RoadCobblers", "winningTake", "(II)I"⟩, 13) := ⟨⟨by decide +kernel, by decide +kernel⟩, List.mem_of_getElem? (i := 12) (by decide +kernel), List.mem_of_getElem? (i := 503) (by decide +kernel), List.mem_of_getElem? (i := 504) (by decide +kernel)⟩
theorem lw_p12 : lw_okq (⟨"RoadCobblers", "fillChances", "(II)V"⟩, 13) := ⟨⟨by decide +kernel, by decide +kernel⟩, List.mem_of_getElem? (i := 12) (by decide +kernel), List.mem_of_getElem? (i := 511) (by decide +kernel), List.mem_of_getElem? (i := 512) (by decide +kernel)⟩
theorem lw_p13 : lw_okq (⟨"RoadCobblers$Trial", "takeDrawn", "(I)V"⟩, 5) := ⟨⟨by decide +kernel, by decide +kernel⟩, List.mem_of_getElem? (i := 84) (by decide +kernel), List.mem_of_getElem? (i := 527) (by decide +kernel), List.mem_of_getElem? (i := 528) (by decide +kernel)⟩
theorem lw_p14 : lw_okq (⟨"RoadCobblersModel", "asNow", "()V"⟩, 20) := ⟨⟨by decide +kernel, by decide +kernel⟩, List.mem_of_getElem? (i := 553) (by decide +kernel), List.mem_of_getElem? (i := 631) (by decide +kernel), List.mem_of_getElem? (i := 632) (by decide +kernel)⟩
theorem lw_p15 : lw_okq (⟨"RoadCobblersModel", "roadsOf", "()I"⟩, 20) := ⟨⟨by decide +kernel, by decide +kernel⟩, List.mem_of_getElem? (i := 553) (by decide +kernel), List.mem_of_getElem? (i := 635) (by decide +kernel), List.mem_of_getElem? (i := 636) (by decide +kernel)⟩
def lw_privs_1 : List (MethodName × Nat) := [(⟨"RoadCobblers$Pad", "canGoOn", "(II)Z"⟩, 2), (⟨"RoadCobblers$Trial", "begin", "(LRoadCobblers$Shire;)V"⟩, 5), (⟨"RoadCobblers$Trial", "take", "(LRoadCobblers$Pad;I)I"⟩, 5), (⟨"RoadCobblers", "canBeDone", "()Z"⟩, 13), (⟨"RoadCobblers", "leastWay", "(IIZ)I"⟩, 13), (⟨"RoadCobblers", "lengthenFrom", "(IZ)V"⟩, 13), (⟨"RoadCobblers", "walksWithin", "(I)I"⟩, 13), (⟨"RoadCobblers", "fillLoads", "(II)V"⟩, 13), (⟨"RoadCobblers", "giveToOneMoreHand", "(I)V"⟩, 13), (⟨"RoadCobblers", "gatherFitting", "()I"⟩, 13), (⟨"RoadCobblers", "mostLeft", "(III)I"⟩, 13), (⟨"RoadCobblers", "winningTake", "(II)I"⟩, 13), (⟨"RoadCobblers", "fillChances", "(II)V"⟩, 13), (⟨"RoadCobblers$Trial", "takeDrawn", "(I)V"⟩, 5), (⟨"RoadCobblersModel", "asNow", "()V"⟩, 20), (⟨"RoadCobblersModel", "roadsOf", "()I"⟩, 20)]
theorem lw_r1 : ∀ q ∈ lw_privs_1, lw_okq q := List.forall_mem_cons.mpr ⟨lw_p0, List.forall_mem_cons.mpr ⟨lw_p1, List.forall_mem_cons.mpr ⟨lw_p2, List.forall_mem_cons.mpr ⟨lw_p3, List.forall_mem_cons.mpr ⟨lw_p4, List.forall_mem_cons.mpr ⟨lw_p5, List.forall_mem_cons.mpr ⟨lw_p6, List.forall_mem_cons.mpr ⟨lw_p7, List.forall_mem_cons.mpr ⟨lw_p8, List.forall_mem_cons.mpr ⟨lw_p9, List.forall_mem_cons.mpr ⟨lw_p10, List.forall_mem_cons.mpr ⟨lw_p11, List.forall_mem_cons.mpr ⟨lw_p12, List.forall_mem_cons.mpr ⟨lw_p13, List.forall_mem_cons.mpr ⟨lw_p14, List.forall_mem_cons.mpr ⟨lw_p15, fun _ h => absurd h List.not_mem_nil⟩⟩⟩⟩⟩⟩⟩⟩⟩⟩⟩⟩⟩⟩⟩⟩
theorem lw_p16 : lw_okq (⟨"RoadCobblersModel", "faultOf", "()I"⟩, 20) := ⟨⟨by decide +kernel, by decide +kernel⟩, List.mem_of_getElem? (i := 553) (by decide +kernel), List.mem_of_getElem? (i := 658) (by decide +kernel), List.mem_of_getElem? (i := 659) (by decide +kernel)⟩
theorem lw_p17 : lw_okq (⟨"RoadCobblersModel", "goDays", "()I"⟩, 20) := ⟨⟨by decide +kernel, by decide +kernel⟩, List.mem_of_getElem? (i := 553) (by decide +kernel), List.mem_of_getElem? (i := 666) (by decide +kernel), List.mem_of_getElem? (i := 667) (by decide +kernel)⟩
theorem lw_p18 : lw_okq (⟨"RoadCobblersModel", "endDay", "()I"⟩, 20) := ⟨⟨by decide +kernel, by decide +kernel⟩, List.mem_of_getElem? (i := 553) (by decide +kernel), List.mem_of_getElem? (i := 670) (by decide +kernel), List.mem_of_getElem? (i := 671) (by decide +kernel)⟩
theorem lw_p19 : lw_okq (⟨"RoadCobblersModel", "bring", "(II)I"⟩, 20) := ⟨⟨by decide +kernel, by decide +kernel⟩, List.mem_of_getElem? (i := 553) (by decide +kernel), List.mem_of_getElem? (i := 674) (by decide +kernel), List.mem_of_getElem? (i := 675) (by decide +kernel)⟩
theorem lw_p20 : lw_okq (⟨"RoadCobblersModel", "barOf", "(II)I"⟩, 20) := ⟨⟨by decide +kernel, by decide +kernel⟩, List.mem_of_getElem? (i := 553) (by decide +kernel), List.mem_of_getElem? (i := 678) (by decide +kernel), List.mem_of_getElem? (i := 679) (by decide +kernel)⟩
theorem lw_p21 : lw_okq (⟨"RoadCobblersModel", "lay", "(III)V"⟩, 20) := ⟨⟨by decide +kernel, by decide +kernel⟩, List.mem_of_getElem? (i := 553) (by decide +kernel), List.mem_of_getElem? (i := 682) (by decide +kernel), List.mem_of_getElem? (i := 683) (by decide +kernel)⟩
theorem lw_p22 : lw_okq (⟨"RoadCobblersModel", "patch", "(IIII)I"⟩, 20) := ⟨⟨by decide +kernel, by decide +kernel⟩, List.mem_of_getElem? (i := 553) (by decide +kernel), List.mem_of_getElem? (i := 686) (by decide +kernel), List.mem_of_getElem? (i := 687) (by decide +kernel)⟩
theorem lw_p23 : lw_okq (⟨"RoadCobblersModel", "walk", "(II)I"⟩, 20) := ⟨⟨by decide +kernel, by decide +kernel⟩, List.mem_of_getElem? (i := 553) (by decide +kernel), List.mem_of_getElem? (i := 690) (by decide +kernel), List.mem_of_getElem? (i := 691) (by decide +kernel)⟩
theorem lw_p24 : lw_okq (⟨"RoadCobblersModel", "isThere", "(I)Z"⟩, 20) := ⟨⟨by decide +kernel, by decide +kernel⟩, List.mem_of_getElem? (i := 553) (by decide +kernel), List.mem_of_getElem? (i := 694) (by decide +kernel), List.mem_of_getElem? (i := 695) (by decide +kernel)⟩
theorem lw_p25 : lw_okq (⟨"RoadCobblersModel", "shoe", "(I)I"⟩, 20) := ⟨⟨by decide +kernel, by decide +kernel⟩, List.mem_of_getElem? (i := 553) (by decide +kernel), List.mem_of_getElem? (i := 701) (by decide +kernel), List.mem_of_getElem? (i := 702) (by decide +kernel)⟩
theorem lw_p26 : lw_okq (⟨"RoadCobblersModel", "barOfDays", "()I"⟩, 20) := ⟨⟨by decide +kernel, by decide +kernel⟩, List.mem_of_getElem? (i := 553) (by decide +kernel), List.mem_of_getElem? (i := 709) (by decide +kernel), List.mem_of_getElem? (i := 710) (by decide +kernel)⟩
theorem lw_p27 : lw_okq (⟨"RoadCobblersModel", "wearOf", "()I"⟩, 20) := ⟨⟨by decide +kernel, by decide +kernel⟩, List.mem_of_getElem? (i := 553) (by decide +kernel), List.mem_of_getElem? (i := 725) (by decide +kernel), List.mem_of_getElem? (i := 726) (by decide +kernel)⟩
theorem lw_p28 : lw_okq (⟨"RoadCobblersModel", "shutIn", "()I"⟩, 20) := ⟨⟨by decide +kernel, by decide +kernel⟩, List.mem_of_getElem? (i := 553) (by decide +kernel), List.mem_of_getElem? (i := 729) (by decide +kernel), List.mem_of_getElem? (i := 730) (by decide +kernel)⟩
theorem lw_p29 : lw_okq (⟨"RoadCobblersModel", "openFrom", "(I)I"⟩, 20) := ⟨⟨by decide +kernel, by decide +kernel⟩, List.mem_of_getElem? (i := 553) (by decide +kernel), List.mem_of_getElem? (i := 733) (by decide +kernel), List.mem_of_getElem? (i := 734) (by decide +kernel)⟩
theorem lw_p30 : lw_okq (⟨"RoadCobblersModel", "isOpen", "(II)Z"⟩, 20) := ⟨⟨by decide +kernel, by decide +kernel⟩, List.mem_of_getElem? (i := 553) (by decide +kernel), List.mem_of_getElem? (i := 737) (by decide +kernel), List.mem_of_getElem? (i := 738) (by decide +kernel)⟩
theorem lw_p31 : lw_okq (⟨"RoadCobblersModel", "partOf", "(I)I"⟩, 20) := ⟨⟨by decide +kernel, by decide +kernel⟩, List.mem_of_getElem? (i := 553) (by decide +kernel), List.mem_of_getElem? (i := 750) (by decide +kernel), List.mem_of_getElem? (i := 751) (by decide +kernel)⟩
def lw_privs_2 : List (MethodName × Nat) := [(⟨"RoadCobblersModel", "faultOf", "()I"⟩, 20), (⟨"RoadCobblersModel", "goDays", "()I"⟩, 20), (⟨"RoadCobblersModel", "endDay", "()I"⟩, 20), (⟨"RoadCobblersModel", "bring", "(II)I"⟩, 20), (⟨"RoadCobblersModel", "barOf", "(II)I"⟩, 20), (⟨"RoadCobblersModel", "lay", "(III)V"⟩, 20), (⟨"RoadCobblersModel", "patch", "(IIII)I"⟩, 20), (⟨"RoadCobblersModel", "walk", "(II)I"⟩, 20), (⟨"RoadCobblersModel", "isThere", "(I)Z"⟩, 20), (⟨"RoadCobblersModel", "shoe", "(I)I"⟩, 20), (⟨"RoadCobblersModel", "barOfDays", "()I"⟩, 20), (⟨"RoadCobblersModel", "wearOf", "()I"⟩, 20), (⟨"RoadCobblersModel", "shutIn", "()I"⟩, 20), (⟨"RoadCobblersModel", "openFrom", "(I)I"⟩, 20), (⟨"RoadCobblersModel", "isOpen", "(II)Z"⟩, 20), (⟨"RoadCobblersModel", "partOf", "(I)I"⟩, 20)]
theorem lw_r2 : ∀ q ∈ lw_privs_2, lw_okq q := List.forall_mem_cons.mpr ⟨lw_p16, List.forall_mem_cons.mpr ⟨lw_p17, List.forall_mem_cons.mpr ⟨lw_p18, List.forall_mem_cons.mpr ⟨lw_p19, List.forall_mem_cons.mpr ⟨lw_p20, List.forall_mem_cons.mpr ⟨lw_p21, List.forall_mem_cons.mpr ⟨lw_p22, List.forall_mem_cons.mpr ⟨lw_p23, List.forall_mem_cons.mpr ⟨lw_p24, List.forall_mem_cons.mpr ⟨lw_p25, List.forall_mem_cons.mpr ⟨lw_p26, List.forall_mem_cons.mpr ⟨lw_p27, List.forall_mem_cons.mpr ⟨lw_p28, List.forall_mem_cons.mpr ⟨lw_p29, List.forall_mem_cons.mpr ⟨lw_p30, List.forall_mem_cons.mpr ⟨lw_p31, fun _ h => absurd h List.not_mem_nil⟩⟩⟩⟩⟩⟩⟩⟩⟩⟩⟩⟩⟩⟩⟩⟩
theorem lw_p32 : lw_okq (⟨"RoadCobblersModel", "isFit", "(I)Z"⟩, 20) := ⟨⟨by decide +kernel, by decide +kernel⟩, List.mem_of_getElem? (i := 553) (by decide +kernel), List.mem_of_getElem? (i := 783) (by decide +kernel), List.mem_of_getElem? (i := 784) (by decide +kernel)⟩
def lw_privs_3 : List (MethodName × Nat) := [(⟨"RoadCobblersModel", "isFit", "(I)Z"⟩, 20)]
theorem lw_r3 : ∀ q ∈ lw_privs_3, lw_okq q := List.forall_mem_cons.mpr ⟨lw_p32, fun _ h => absurd h List.not_mem_nil⟩
def lw_privs : List (MethodName × Nat) := lw_privs_1 ++ (lw_privs_2 ++ (lw_privs_3))
def lw_tbl : List Cond := k2_sels lw_privs ++ tables_1
theorem lw_privs_ok : ∀ q ∈ lw_privs, lw_okq q := by
  show ∀ q ∈ lw_privs_1 ++ (lw_privs_2 ++ (lw_privs_3)), lw_okq q
  exact List.forall_mem_append.mpr ⟨lw_r1, List.forall_mem_append.mpr ⟨lw_r2, lw_r3⟩⟩
def RX0 : String := "RoadCobblers$Image"
def TX0 : u_T := fun k => match k with
  | 0 => ("RoadCobblers$Image", "shire", "LRoadCobblers$Shire;", true)
  | 1 => ("RoadCobblers$Image", "sights", "LRoadCobblers$Sights;", true)
  | _ => ("RoadCobblers$Image", "kept", "Z", false)
def tyX0 : Nat → FieldType := fun k => match k with
  | 0 => .object "RoadCobblers$Shire"
  | 1 => .object "RoadCobblers$Sights"
  | _ => .boolean
theorem nmX0 : ∀ a, a < 3 → ∀ b, b < 3 → a ≠ b → (TX0 a).2.1 ≠ (TX0 b).2.1 := by decide +kernel
theorem tyX0_ok : ∀ k, k < 3 → parseFieldDescriptor (TX0 k).2.2.1 = some (tyX0 k) := by decide +kernel
abbrev cX0_init : ByteArray := prog_2_method_1_code
def yX0_init : MethodName := ⟨RX0, "<init>", "()V"⟩
def RX1 : String := "RoadCobblers$Pad"
def TX1 : u_T := fun k => match k with
  | 0 => ("RoadCobblers$Pad", "signs", "[I", true)
  | _ => ("RoadCobblers$Pad", "count", "I", false)
def tyX1 : Nat → FieldType := fun k => match k with
  | 0 => .array .int
  | _ => .int
theorem nmX1 : ∀ a, a < 2 → ∀ b, b < 2 → a ≠ b → (TX1 a).2.1 ≠ (TX1 b).2.1 := by decide +kernel
theorem tyX1_ok : ∀ k, k < 2 → parseFieldDescriptor (TX1 k).2.2.1 = some (tyX1 k) := by decide +kernel
abbrev cX1_init : ByteArray := prog_3_method_1_code
def yX1_init : MethodName := ⟨RX1, "<init>", "()V"⟩
abbrev cX1_add : ByteArray := prog_3_method_2_code
def yX1_add : MethodName := ⟨RX1, "add", "(I)V"⟩
abbrev cX1_empty : ByteArray := prog_3_method_3_code
def yX1_empty : MethodName := ⟨RX1, "empty", "()V"⟩
abbrev cX1_signAt : ByteArray := prog_3_method_4_code
def yX1_signAt : MethodName := ⟨RX1, "signAt", "(I)I"⟩
abbrev cX1_placeAt : ByteArray := prog_3_method_5_code
def yX1_placeAt : MethodName := ⟨RX1, "placeAt", "(I)I"⟩
abbrev cX1_actLength : ByteArray := prog_3_method_6_code
def yX1_actLength : MethodName := ⟨RX1, "actLength", "(I)I"⟩
abbrev cX1_faultPlace : ByteArray := prog_3_method_7_code
def yX1_faultPlace : MethodName := ⟨RX1, "faultPlace", "()I"⟩
abbrev cX1_canGoOn : ByteArray := prog_3_method_8_code
def yX1_canGoOn : MethodName := ⟨RX1, "canGoOn", "(II)Z"⟩
def RX2 : String := "RoadCobblers$Shire"
def TX2 : u_T := fun k => match k with
  | 0 => ("RoadCobblers$Shire", "roads", "[I", true)
  | 1 => ("RoadCobblers$Shire", "places", "[I", true)
  | 2 => ("RoadCobblers$Shire", "irons", "[I", true)
  | 3 => ("RoadCobblers$Shire", "day", "I", false)
  | _ => ("RoadCobblers$Shire", "firstWorn", "I", false)
def tyX2 : Nat → FieldType := fun k => match k with
  | 0 => .array .int
  | 1 => .array .int
  | 2 => .array .int
  | 3 => .int
  | _ => .int
theorem nmX2 : ∀ a, a < 5 → ∀ b, b < 5 → a ≠ b → (TX2 a).2.1 ≠ (TX2 b).2.1 := by decide +kernel
theorem tyX2_ok : ∀ k, k < 5 → parseFieldDescriptor (TX2 k).2.2.1 = some (tyX2 k) := by decide +kernel
abbrev cX2_init : ByteArray := prog_4_method_1_code
def yX2_init : MethodName := ⟨RX2, "<init>", "()V"⟩
abbrev cX2_copyFrom : ByteArray := prog_4_method_2_code
def yX2_copyFrom : MethodName := ⟨RX2, "copyFrom", "(LRoadCobblers$Shire;)V"⟩
abbrev cX2_roadBetween : ByteArray := prog_4_method_3_code
def yX2_roadBetween : MethodName := ⟨RX2, "roadBetween", "(II)I"⟩
abbrev cX2_putRoad : ByteArray := prog_4_method_4_code
def yX2_putRoad : MethodName := ⟨RX2, "putRoad", "(III)V"⟩
abbrev cX2_isOpen : ByteArray := prog_4_method_5_code
def yX2_isOpen : MethodName := ⟨RX2, "isOpen", "(II)Z"⟩
abbrev cX2_openFrom : ByteArray := prog_4_method_6_code
def yX2_openFrom : MethodName := ⟨RX2, "openFrom", "(I)I"⟩
abbrev cX2_countRoads : ByteArray := prog_4_method_7_code
def yX2_countRoads : MethodName := ⟨RX2, "countRoads", "()I"⟩
abbrev cX2_countOpen : ByteArray := prog_4_method_8_code
def yX2_countOpen : MethodName := ⟨RX2, "countOpen", "()I"⟩
abbrev cX2_addWear : ByteArray := prog_4_method_9_code
def yX2_addWear : MethodName := ⟨RX2, "addWear", "()I"⟩
abbrev cX2_reached : ByteArray := prog_4_method_10_code
def yX2_reached : MethodName := ⟨RX2, "reached", "(II)I"⟩
abbrev cX2_isThere : ByteArray := prog_4_method_11_code
def yX2_isThere : MethodName := ⟨RX2, "isThere", "(I)Z"⟩
abbrev cX2_placeOf : ByteArray := prog_4_method_12_code
def yX2_placeOf : MethodName := ⟨RX2, "placeOf", "(I)I"⟩
abbrev cX2_ironOf : ByteArray := prog_4_method_13_code
def yX2_ironOf : MethodName := ⟨RX2, "ironOf", "(I)I"⟩
abbrev cX2_putWalker : ByteArray := prog_4_method_14_code
def yX2_putWalker : MethodName := ⟨RX2, "putWalker", "(IIZ)V"⟩
abbrev cX2_walkersThere : ByteArray := prog_4_method_15_code
def yX2_walkersThere : MethodName := ⟨RX2, "walkersThere", "()I"⟩
abbrev cX2_shutIn : ByteArray := prog_4_method_16_code
def yX2_shutIn : MethodName := ⟨RX2, "shutIn", "()I"⟩
abbrev cX2_walk : ByteArray := prog_4_method_17_code
def yX2_walk : MethodName := ⟨RX2, "walk", "(II)I"⟩
abbrev cX2_changeIron : ByteArray := prog_4_method_18_code
def yX2_changeIron : MethodName := ⟨RX2, "changeIron", "(I)I"⟩
abbrev cX2_bringIn : ByteArray := prog_4_method_19_code
def yX2_bringIn : MethodName := ⟨RX2, "bringIn", "(II)I"⟩
abbrev cX2_patch : ByteArray := prog_4_method_20_code
def yX2_patch : MethodName := ⟨RX2, "patch", "(IIII)I"⟩
abbrev cX2_passDay : ByteArray := prog_4_method_21_code
def yX2_passDay : MethodName := ⟨RX2, "passDay", "()I"⟩
def RX3 : String := "RoadCobblers$Sights"
def TX3 : u_T := fun k => match k with
  | 0 => ("RoadCobblers$Sights", "kinds", "[I", true)
  | 1 => ("RoadCobblers$Sights", "days", "[I", true)
  | 2 => ("RoadCobblers$Sights", "values", "[I", true)
  | _ => ("RoadCobblers$Sights", "count", "I", false)
def tyX3 : Nat → FieldType := fun k => match k with
  | 0 => .array .int
  | 1 => .array .int
  | 2 => .array .int
  | _ => .int
theorem nmX3 : ∀ a, a < 4 → ∀ b, b < 4 → a ≠ b → (TX3 a).2.1 ≠ (TX3 b).2.1 := by decide +kernel
theorem tyX3_ok : ∀ k, k < 4 → parseFieldDescriptor (TX3 k).2.2.1 = some (tyX3 k) := by decide +kernel
abbrev cX3_init : ByteArray := prog_5_method_1_code
def yX3_init : MethodName := ⟨RX3, "<init>", "()V"⟩
abbrev cX3_copyFrom : ByteArray := prog_5_method_2_code
def yX3_copyFrom : MethodName := ⟨RX3, "copyFrom", "(LRoadCobblers$Sights;)V"⟩
abbrev cX3_add : ByteArray := prog_5_method_3_code
def yX3_add : MethodName := ⟨RX3, "add", "(III)V"⟩
abbrev cX3_allowGuess : ByteArray := prog_5_method_4_code
def yX3_allowGuess : MethodName := ⟨RX3, "allowGuess", "(I)Z"⟩
def RX4 : String := "RoadCobblers$Trial"
def TX4 : u_T := fun k => match k with
  | 0 => ("RoadCobblers$Trial", "shire", "LRoadCobblers$Shire;", true)
  | 1 => ("RoadCobblers$Trial", "acts", "I", false)
  | 2 => ("RoadCobblers$Trial", "failedAct", "I", false)
  | 3 => ("RoadCobblers$Trial", "reason", "I", false)
  | _ => ("RoadCobblers$Trial", "wornAct", "I", false)
def tyX4 : Nat → FieldType := fun k => match k with
  | 0 => .object "RoadCobblers$Shire"
  | 1 => .int
  | 2 => .int
  | 3 => .int
  | _ => .int
theorem nmX4 : ∀ a, a < 5 → ∀ b, b < 5 → a ≠ b → (TX4 a).2.1 ≠ (TX4 b).2.1 := by decide +kernel
theorem tyX4_ok : ∀ k, k < 5 → parseFieldDescriptor (TX4 k).2.2.1 = some (tyX4 k) := by decide +kernel
abbrev cX4_init : ByteArray := prog_6_method_1_code
def yX4_init : MethodName := ⟨RX4, "<init>", "()V"⟩
abbrev cX4_follow : ByteArray := prog_6_method_2_code
def yX4_follow : MethodName := ⟨RX4, "follow", "(LRoadCobblers$Pad;LRoadCobblers$Shire;)V"⟩
abbrev cX4_begin : ByteArray := prog_6_method_3_code
def yX4_begin : MethodName := ⟨RX4, "begin", "(LRoadCobblers$Shire;)V"⟩
abbrev cX4_take : ByteArray := prog_6_method_4_code
def yX4_take : MethodName := ⟨RX4, "take", "(LRoadCobblers$Pad;I)I"⟩
abbrev cX4_followDraws : ByteArray := prog_6_method_5_code
def yX4_followDraws : MethodName := ⟨RX4, "followDraws", "(IILRoadCobblers$Shire;)V"⟩
abbrev cX4_takeDrawn : ByteArray := prog_6_method_6_code
def yX4_takeDrawn : MethodName := ⟨RX4, "takeDrawn", "(I)V"⟩
def RX5 : String := "RoadCobblers"
def TX5 : u_T := fun k => match k with
  | 0 => ("RoadCobblers", "shire", "LRoadCobblers$Shire;", true)
  | 1 => ("RoadCobblers", "sights", "LRoadCobblers$Sights;", true)
  | 2 => ("RoadCobblers", "pad", "LRoadCobblers$Pad;", true)
  | 3 => ("RoadCobblers", "trial", "LRoadCobblers$Trial;", true)
  | 4 => ("RoadCobblers", "firstImage", "LRoadCobblers$Image;", true)
  | 5 => ("RoadCobblers", "secondImage", "LRoadCobblers$Image;", true)
  | 6 => ("RoadCobblers", "lengths", "[I", true)
  | 7 => ("RoadCobblers", "loads", "[I", true)
  | 8 => ("RoadCobblers", "fewest", "[I", true)
  | 9 => ("RoadCobblers", "fitting", "[I", true)
  | 10 => ("RoadCobblers", "tally", "[I", true)
  | 11 => ("RoadCobblers", "firstTakes", "[I", true)
  | _ => ("RoadCobblers", "chances", "[J", true)
def tyX5 : Nat → FieldType := fun k => match k with
  | 0 => .object "RoadCobblers$Shire"
  | 1 => .object "RoadCobblers$Sights"
  | 2 => .object "RoadCobblers$Pad"
  | 3 => .object "RoadCobblers$Trial"
  | 4 => .object "RoadCobblers$Image"
  | 5 => .object "RoadCobblers$Image"
  | 6 => .array .int
  | 7 => .array .int
  | 8 => .array .int
  | 9 => .array .int
  | 10 => .array .int
  | 11 => .array .int
  | _ => .array .long
theorem nmX5 : ∀ a, a < 13 → ∀ b, b < 13 → a ≠ b → (TX5 a).2.1 ≠ (TX5 b).2.1 := by decide +kernel
theorem tyX5_ok : ∀ k, k < 13 → parseFieldDescriptor (TX5 k).2.2.1 = some (tyX5 k) := by decide +kernel
abbrev cX5_init : ByteArray := prog_1_method_1_code
def yX5_init : MethodName := ⟨RX5, "<init>", "()V"⟩
abbrev cX5_road : ByteArray := prog_1_method_2_code
def yX5_road : MethodName := ⟨RX5, "road", "(III)I"⟩
abbrev cX5_walker : ByteArray := prog_1_method_3_code
def yX5_walker : MethodName := ⟨RX5, "walker", "(IIZ)I"⟩
abbrev cX5_say : ByteArray := prog_1_method_4_code
def yX5_say : MethodName := ⟨RX5, "say", "(I)I"⟩
abbrev cX5_wipe : ByteArray := prog_1_method_5_code
def yX5_wipe : MethodName := ⟨RX5, "wipe", "()I"⟩
abbrev cX5_fault : ByteArray := prog_1_method_6_code
def yX5_fault : MethodName := ⟨RX5, "fault", "()I"⟩
abbrev cX5_judge : ByteArray := prog_1_method_7_code
def yX5_judge : MethodName := ⟨RX5, "judge", "(I)I"⟩
abbrev cX5_done : ByteArray := prog_1_method_8_code
def yX5_done : MethodName := ⟨RX5, "done", "()I"⟩
abbrev cX5_behind : ByteArray := prog_1_method_9_code
def yX5_behind : MethodName := ⟨RX5, "behind", "(II)I"⟩
abbrev cX5_goes : ByteArray := prog_1_method_10_code
def yX5_goes : MethodName := ⟨RX5, "goes", "(II)I"⟩
abbrev cX5_then : ByteArray := prog_1_method_11_code
def yX5_then : MethodName := ⟨RX5, "then", "(I)I"⟩
abbrev cX5_way : ByteArray := prog_1_method_12_code
def yX5_way : MethodName := ⟨RX5, "way", "(III)I"⟩
abbrev cX5_parts : ByteArray := prog_1_method_13_code
def yX5_parts : MethodName := ⟨RX5, "parts", "(I)I"⟩
abbrev cX5_strokes : ByteArray := prog_1_method_14_code
def yX5_strokes : MethodName := ⟨RX5, "strokes", "()I"⟩
abbrev cX5_mended : ByteArray := prog_1_method_15_code
def yX5_mended : MethodName := ⟨RX5, "mended", "(III)I"⟩
abbrev cX5_pays : ByteArray := prog_1_method_16_code
def yX5_pays : MethodName := ⟨RX5, "pays", "(IIII)J"⟩
abbrev cX5_seen : ByteArray := prog_1_method_17_code
def yX5_seen : MethodName := ⟨RX5, "seen", "(ZII)I"⟩
abbrev cX5_forget : ByteArray := prog_1_method_18_code
def yX5_forget : MethodName := ⟨RX5, "forget", "()I"⟩
abbrev cX5_who : ByteArray := prog_1_method_19_code
def yX5_who : MethodName := ⟨RX5, "who", "(I)I"⟩
abbrev cX5_ask : ByteArray := prog_1_method_20_code
def yX5_ask : MethodName := ⟨RX5, "ask", "(I)I"⟩
abbrev cX5_tacks : ByteArray := prog_1_method_21_code
def yX5_tacks : MethodName := ⟨RX5, "tacks", "(III)I"⟩
abbrev cX5_wet : ByteArray := prog_1_method_22_code
def yX5_wet : MethodName := ⟨RX5, "wet", "(IIIII)J"⟩
abbrev cX5_year : ByteArray := prog_1_method_23_code
def yX5_year : MethodName := ⟨RX5, "year", "(III)I"⟩
abbrev cX5_image : ByteArray := prog_1_method_24_code
def yX5_image : MethodName := ⟨RX5, "image", "(I)I"⟩
abbrev cX5_restore : ByteArray := prog_1_method_25_code
def yX5_restore : MethodName := ⟨RX5, "restore", "(I)I"⟩
abbrev cX5_told : ByteArray := prog_1_method_26_code
def yX5_told : MethodName := ⟨RX5, "told", "(I)I"⟩
abbrev cX5_canBeDone : ByteArray := prog_1_method_27_code
def yX5_canBeDone : MethodName := ⟨RX5, "canBeDone", "()Z"⟩
abbrev cX5_leastWay : ByteArray := prog_1_method_28_code
def yX5_leastWay : MethodName := ⟨RX5, "leastWay", "(IIZ)I"⟩
abbrev cX5_lengthenFrom : ByteArray := prog_1_method_29_code
def yX5_lengthenFrom : MethodName := ⟨RX5, "lengthenFrom", "(IZ)V"⟩
abbrev cX5_walksWithin : ByteArray := prog_1_method_30_code
def yX5_walksWithin : MethodName := ⟨RX5, "walksWithin", "(I)I"⟩
abbrev cX5_fillLoads : ByteArray := prog_1_method_31_code
def yX5_fillLoads : MethodName := ⟨RX5, "fillLoads", "(II)V"⟩
abbrev cX5_giveToOneMoreHand : ByteArray := prog_1_method_32_code
def yX5_giveToOneMoreHand : MethodName := ⟨RX5, "giveToOneMoreHand", "(I)V"⟩
abbrev cX5_gatherFitting : ByteArray := prog_1_method_33_code
def yX5_gatherFitting : MethodName := ⟨RX5, "gatherFitting", "()I"⟩
abbrev cX5_mostLeft : ByteArray := prog_1_method_34_code
def yX5_mostLeft : MethodName := ⟨RX5, "mostLeft", "(III)I"⟩
abbrev cX5_winningTake : ByteArray := prog_1_method_35_code
def yX5_winningTake : MethodName := ⟨RX5, "winningTake", "(II)I"⟩
abbrev cX5_fillChances : ByteArray := prog_1_method_36_code
def yX5_fillChances : MethodName := ⟨RX5, "fillChances", "(II)V"⟩
abbrev cX5_within : ByteArray := prog_1_method_37_code
def yX5_within : MethodName := ⟨RX5, "within", "(III)Z"⟩
abbrev cX5_isPlace : ByteArray := prog_1_method_38_code
def yX5_isPlace : MethodName := ⟨RX5, "isPlace", "(I)Z"⟩
abbrev cX5_isWalker : ByteArray := prog_1_method_39_code
def yX5_isWalker : MethodName := ⟨RX5, "isWalker", "(I)Z"⟩
abbrev cX5_areTwoPlaces : ByteArray := prog_1_method_40_code
def yX5_areTwoPlaces : MethodName := ⟨RX5, "areTwoPlaces", "(II)Z"⟩
abbrev cX5_nameOfRoad : ByteArray := prog_1_method_41_code
def yX5_nameOfRoad : MethodName := ⟨RX5, "nameOfRoad", "(II)I"⟩
abbrev cX5_holds : ByteArray := prog_1_method_42_code
def yX5_holds : MethodName := ⟨RX5, "holds", "(II)Z"⟩
abbrev cX5_at : ByteArray := prog_1_method_43_code
def yX5_at : MethodName := ⟨RX5, "at", "([II)I"⟩
abbrev cX5_put : ByteArray := prog_1_method_44_code
def yX5_put : MethodName := ⟨RX5, "put", "([III)V"⟩
abbrev cX5_copy : ByteArray := prog_1_method_45_code
def yX5_copy : MethodName := ⟨RX5, "copy", "([I[I)V"⟩
abbrev cX5_powerOfTen : ByteArray := prog_1_method_46_code
def yX5_powerOfTen : MethodName := ⟨RX5, "powerOfTen", "(I)J"⟩
abbrev cX5_digit : ByteArray := prog_1_method_47_code
def yX5_digit : MethodName := ⟨RX5, "digit", "(II)I"⟩
abbrev cX5_hasDigits : ByteArray := prog_1_method_48_code
def yX5_hasDigits : MethodName := ⟨RX5, "hasDigits", "(II)Z"⟩
abbrev cX5_countUsers : ByteArray := prog_1_method_49_code
def yX5_countUsers : MethodName := ⟨RX5, "countUsers", "(III)I"⟩
abbrev cX5_lowestTerms : ByteArray := prog_1_method_50_code
def yX5_lowestTerms : MethodName := ⟨RX5, "lowestTerms", "(JJI)J"⟩
abbrev cX5_commonDivisor : ByteArray := prog_1_method_51_code
def yX5_commonDivisor : MethodName := ⟨RX5, "commonDivisor", "(JJ)J"⟩
abbrev cX5_reading : ByteArray := prog_1_method_52_code
def yX5_reading : MethodName := ⟨RX5, "reading", "(III)I"⟩
def RX6 : String := "RoadCobblersModel"
def TX6 : u_T := fun k => match k with
  | 0 => ("RoadCobblersModel", "book", "[I", true)
  | 1 => ("RoadCobblersModel", "now", "[I", true)
  | 2 => ("RoadCobblersModel", "there", "I", false)
  | 3 => ("RoadCobblersModel", "sights", "I", false)
  | 4 => ("RoadCobblersModel", "sight", "[I", true)
  | 5 => ("RoadCobblersModel", "signs", "I", false)
  | 6 => ("RoadCobblersModel", "pad", "[I", true)
  | 7 => ("RoadCobblersModel", "wornAt", "I", false)
  | 8 => ("RoadCobblersModel", "wornRoad", "I", false)
  | 9 => ("RoadCobblersModel", "reason", "I", false)
  | 10 => ("RoadCobblersModel", "acts", "I", false)
  | 11 => ("RoadCobblersModel", "cost", "[I", true)
  | 12 => ("RoadCobblersModel", "digits", "[I", true)
  | 13 => ("RoadCobblersModel", "hands", "[I", true)
  | 14 => ("RoadCobblersModel", "counts", "[I", true)
  | 15 => ("RoadCobblersModel", "fitting", "[I", true)
  | 16 => ("RoadCobblersModel", "wins", "[Z", true)
  | 17 => ("RoadCobblersModel", "ways", "[J", true)
  | 18 => ("RoadCobblersModel", "image", "[I", true)
  | _ => ("RoadCobblersModel", "isKept", "[Z", true)
def tyX6 : Nat → FieldType := fun k => match k with
  | 0 => .array .int
  | 1 => .array .int
  | 2 => .int
  | 3 => .int
  | 4 => .array .int
  | 5 => .int
  | 6 => .array .int
  | 7 => .int
  | 8 => .int
  | 9 => .int
  | 10 => .int
  | 11 => .array .int
  | 12 => .array .int
  | 13 => .array .int
  | 14 => .array .int
  | 15 => .array .int
  | 16 => .array .boolean
  | 17 => .array .long
  | 18 => .array .int
  | _ => .array .boolean
theorem nmX6 : ∀ a, a < 20 → ∀ b, b < 20 → a ≠ b → (TX6 a).2.1 ≠ (TX6 b).2.1 := by decide +kernel
theorem tyX6_ok : ∀ k, k < 20 → parseFieldDescriptor (TX6 k).2.2.1 = some (tyX6 k) := by decide +kernel
abbrev cX6_init : ByteArray := prog_8_method_1_code
def yX6_init : MethodName := ⟨RX6, "<init>", "()V"⟩
abbrev cX6_in : ByteArray := prog_8_method_2_code
def yX6_in : MethodName := ⟨RX6, "in", "(III)Z"⟩
abbrev cX6_has : ByteArray := prog_8_method_3_code
def yX6_has : MethodName := ⟨RX6, "has", "(II)Z"⟩
abbrev cX6_bits : ByteArray := prog_8_method_4_code
def yX6_bits : MethodName := ⟨RX6, "bits", "(I)I"⟩
abbrev cX6_isPlace : ByteArray := prog_8_method_5_code
def yX6_isPlace : MethodName := ⟨RX6, "isPlace", "(I)Z"⟩
abbrev cX6_isThere : ByteArray := prog_8_method_6_code
def yX6_isThere : MethodName := ⟨RX6, "isThere", "(I)Z"⟩
abbrev cX6_roadsOf : ByteArray := prog_8_method_7_code
def yX6_roadsOf : MethodName := ⟨RX6, "roadsOf", "()I"⟩
abbrev cX6_road : ByteArray := prog_8_method_8_code
def yX6_road : MethodName := ⟨RX6, "road", "(III)I"⟩
abbrev cX6_walker : ByteArray := prog_8_method_9_code
def yX6_walker : MethodName := ⟨RX6, "walker", "(IIZ)I"⟩
abbrev cX6_say : ByteArray := prog_8_method_10_code
def yX6_say : MethodName := ⟨RX6, "say", "(I)I"⟩
abbrev cX6_wipe : ByteArray := prog_8_method_11_code
def yX6_wipe : MethodName := ⟨RX6, "wipe", "()I"⟩
abbrev cX6_faultOf : ByteArray := prog_8_method_12_code
def yX6_faultOf : MethodName := ⟨RX6, "faultOf", "()I"⟩
abbrev cX6_fault : ByteArray := prog_8_method_13_code
def yX6_fault : MethodName := ⟨RX6, "fault", "()I"⟩
abbrev cX6_asNow : ByteArray := prog_8_method_14_code
def yX6_asNow : MethodName := ⟨RX6, "asNow", "()V"⟩
abbrev cX6_lay : ByteArray := prog_8_method_15_code
def yX6_lay : MethodName := ⟨RX6, "lay", "(III)V"⟩
abbrev cX6_barOf : ByteArray := prog_8_method_16_code
def yX6_barOf : MethodName := ⟨RX6, "barOf", "(II)I"⟩
abbrev cX6_walk : ByteArray := prog_8_method_17_code
def yX6_walk : MethodName := ⟨RX6, "walk", "(II)I"⟩
abbrev cX6_shoe : ByteArray := prog_8_method_18_code
def yX6_shoe : MethodName := ⟨RX6, "shoe", "(I)I"⟩
abbrev cX6_bring : ByteArray := prog_8_method_19_code
def yX6_bring : MethodName := ⟨RX6, "bring", "(II)I"⟩
abbrev cX6_patch : ByteArray := prog_8_method_20_code
def yX6_patch : MethodName := ⟨RX6, "patch", "(IIII)I"⟩
abbrev cX6_endDay : ByteArray := prog_8_method_21_code
def yX6_endDay : MethodName := ⟨RX6, "endDay", "()I"⟩
abbrev cX6_isOpen : ByteArray := prog_8_method_22_code
def yX6_isOpen : MethodName := ⟨RX6, "isOpen", "(II)Z"⟩
abbrev cX6_openFrom : ByteArray := prog_8_method_23_code
def yX6_openFrom : MethodName := ⟨RX6, "openFrom", "(I)I"⟩
abbrev cX6_shutIn : ByteArray := prog_8_method_24_code
def yX6_shutIn : MethodName := ⟨RX6, "shutIn", "()I"⟩
abbrev cX6_wearOf : ByteArray := prog_8_method_25_code
def yX6_wearOf : MethodName := ⟨RX6, "wearOf", "()I"⟩
abbrev cX6_goDays : ByteArray := prog_8_method_26_code
def yX6_goDays : MethodName := ⟨RX6, "goDays", "()I"⟩
abbrev cX6_judge : ByteArray := prog_8_method_27_code
def yX6_judge : MethodName := ⟨RX6, "judge", "(I)I"⟩
abbrev cX6_barOfDays : ByteArray := prog_8_method_28_code
def yX6_barOfDays : MethodName := ⟨RX6, "barOfDays", "()I"⟩
abbrev cX6_done : ByteArray := prog_8_method_29_code
def yX6_done : MethodName := ⟨RX6, "done", "()I"⟩
abbrev cX6_behind : ByteArray := prog_8_method_30_code
def yX6_behind : MethodName := ⟨RX6, "behind", "(II)I"⟩
abbrev cX6_goes : ByteArray := prog_8_method_31_code
def yX6_goes : MethodName := ⟨RX6, "goes", "(II)I"⟩
abbrev cX6_then : ByteArray := prog_8_method_32_code
def yX6_then : MethodName := ⟨RX6, "then", "(I)I"⟩
abbrev cX6_way : ByteArray := prog_8_method_33_code
def yX6_way : MethodName := ⟨RX6, "way", "(III)I"⟩
abbrev cX6_partOf : ByteArray := prog_8_method_34_code
def yX6_partOf : MethodName := ⟨RX6, "partOf", "(I)I"⟩
abbrev cX6_parts : ByteArray := prog_8_method_35_code
def yX6_parts : MethodName := ⟨RX6, "parts", "(I)I"⟩
abbrev cX6_strokes : ByteArray := prog_8_method_36_code
def yX6_strokes : MethodName := ⟨RX6, "strokes", "()I"⟩
abbrev cX6_mended : ByteArray := prog_8_method_37_code
def yX6_mended : MethodName := ⟨RX6, "mended", "(III)I"⟩
abbrev cX6_lowest : ByteArray := prog_8_method_38_code
def yX6_lowest : MethodName := ⟨RX6, "lowest", "(JJI)J"⟩
abbrev cX6_pays : ByteArray := prog_8_method_39_code
def yX6_pays : MethodName := ⟨RX6, "pays", "(IIII)J"⟩
abbrev cX6_seen : ByteArray := prog_8_method_40_code
def yX6_seen : MethodName := ⟨RX6, "seen", "(ZII)I"⟩
abbrev cX6_forget : ByteArray := prog_8_method_41_code
def yX6_forget : MethodName := ⟨RX6, "forget", "()I"⟩
abbrev cX6_tellOf : ByteArray := prog_8_method_42_code
def yX6_tellOf : MethodName := ⟨RX6, "tellOf", "(III)I"⟩
abbrev cX6_isFit : ByteArray := prog_8_method_43_code
def yX6_isFit : MethodName := ⟨RX6, "isFit", "(I)Z"⟩
abbrev cX6_who : ByteArray := prog_8_method_44_code
def yX6_who : MethodName := ⟨RX6, "who", "(I)I"⟩
abbrev cX6_ask : ByteArray := prog_8_method_45_code
def yX6_ask : MethodName := ⟨RX6, "ask", "(I)I"⟩
abbrev cX6_tacks : ByteArray := prog_8_method_46_code
def yX6_tacks : MethodName := ⟨RX6, "tacks", "(III)I"⟩
abbrev cX6_wet : ByteArray := prog_8_method_47_code
def yX6_wet : MethodName := ⟨RX6, "wet", "(IIIII)J"⟩
abbrev cX6_year : ByteArray := prog_8_method_48_code
def yX6_year : MethodName := ⟨RX6, "year", "(III)I"⟩
abbrev cX6_image : ByteArray := prog_8_method_49_code
def yX6_image : MethodName := ⟨RX6, "image", "(I)I"⟩
abbrev cX6_restore : ByteArray := prog_8_method_50_code
def yX6_restore : MethodName := ⟨RX6, "restore", "(I)I"⟩
abbrev cX6_told : ByteArray := prog_8_method_51_code
def yX6_told : MethodName := ⟨RX6, "told", "(I)I"⟩
def RJ6 : String := "java/lang/Integer"
def TJ6 : u_T := fun k => match k with
  | _ => ("", "", "", false)
def tyJ6 : Nat → FieldType := fun k => match k with
  | _ => .int
theorem nmJ6 : ∀ a, a < 0 → ∀ b, b < 0 → a ≠ b → (TJ6 a).2.1 ≠ (TJ6 b).2.1 := by decide +kernel
theorem tyJ6_ok : ∀ k, k < 0 → parseFieldDescriptor (TJ6 k).2.2.1 = some (tyJ6 k) := by decide +kernel
abbrev cJ6_bitCount_0f7a4 : ByteArray := prog_9_method_49_code
def yJ6_bitCount_0f7a4 : MethodName := ⟨RJ6, "bitCount", "(I)I"⟩
def RJ9 : String := "java/lang/Math"
def TJ9 : u_T := fun k => match k with
  | _ => ("", "", "", false)
def tyJ9 : Nat → FieldType := fun k => match k with
  | _ => .int
theorem nmJ9 : ∀ a, a < 0 → ∀ b, b < 0 → a ≠ b → (TJ9 a).2.1 ≠ (TJ9 b).2.1 := by decide +kernel
theorem tyJ9_ok : ∀ k, k < 0 → parseFieldDescriptor (TJ9 k).2.2.1 = some (tyJ9 k) := by decide +kernel
abbrev cJ9_max_7cf53 : ByteArray := prog_10_method_65_code
def yJ9_max_7cf53 : MethodName := ⟨RJ9, "max", "(II)I"⟩
abbrev cJ9_min_7cf53 : ByteArray := prog_10_method_69_code
def yJ9_min_7cf53 : MethodName := ⟨RJ9, "min", "(II)I"⟩
def RJ7 : String := "java/util/Arrays"
def TJ7 : u_T := fun k => match k with
  | _ => ("", "", "", false)
def tyJ7 : Nat → FieldType := fun k => match k with
  | _ => .int
theorem nmJ7 : ∀ a, a < 0 → ∀ b, b < 0 → a ≠ b → (TJ7 a).2.1 ≠ (TJ7 b).2.1 := by decide +kernel
theorem tyJ7_ok : ∀ k, k < 0 → parseFieldDescriptor (TJ7 k).2.2.1 = some (tyJ7 k) := by decide +kernel
abbrev cJ7_fill_d0a16 : ByteArray := prog_11_method_101_code
def yJ7_fill_d0a16 : MethodName := ⟨RJ7, "fill", "([JJ)V"⟩
abbrev cJ7_fill_53178 : ByteArray := prog_11_method_103_code
def yJ7_fill_53178 : MethodName := ⟨RJ7, "fill", "([II)V"⟩
def RL : String := "RoadCobblersLaw"
abbrev cL_law : ByteArray := code
def yL_law : MethodName := ⟨RL, "law", "([I)Z"⟩
abbrev vwCl : List vw_C := [(RX0, TX0, 3), (RX1, TX1, 2), (RX2, TX2, 5), (RX3, TX3, 4), (RX4, TX4, 5), (RX5, TX5, 13), (RX6, TX6, 20)]
/-- the words of the tables that stay good along a run -/
def TT : List Cond := lw_tbl.filter goodWord
theorem TTin {w : Cond} (i : Nat) (h : lw_tbl[i]? = some w) (g : goodWord w = true) : w ∈ TT := List.mem_filter.mpr ⟨List.mem_of_getElem? h, g⟩
theorem TTgood : ∀ w ∈ TT, (w.onTables && w.keeps) = true ∨ ∃ ty, w = .arrayClass ty := fun w h => good_of_word (List.mem_filter.mp h).2
theorem TTall : ∀ w ∈ TT, w ∈ lw_tbl := fun w h => (List.mem_filter.mp h).1
/-- the links between nest mates -/
def isNest : Cond → Bool
  | .fieldLinkNest _ _ _ _ _ _ => true
  | .methodLinkNest _ _ _ _ => true
  | _ => false
def NW : List Cond := lw_tbl.filter isNest
theorem NWin {w : Cond} (i : Nat) (h : lw_tbl[i]? = some w) (g : isNest w = true) : w ∈ NW := List.mem_filter.mpr ⟨List.mem_of_getElem? h, g⟩
theorem NWall : ∀ w ∈ NW, w ∈ lw_tbl := fun w h => (List.mem_filter.mp h).1
theorem inX0 : ∀ w ∈ u_ws RX0 TX0 3, w ∈ TT := by decide +kernel
theorem inX1 : ∀ w ∈ u_ws RX1 TX1 2, w ∈ TT := by decide +kernel
theorem inX2 : ∀ w ∈ u_ws RX2 TX2 5, w ∈ TT := by decide +kernel
theorem inX3 : ∀ w ∈ u_ws RX3 TX3 4, w ∈ TT := by decide +kernel
theorem inX4 : ∀ w ∈ u_ws RX4 TX4 5, w ∈ TT := by decide +kernel
theorem inX5 : ∀ w ∈ u_ws RX5 TX5 13, w ∈ TT := by decide +kernel
theorem inX6 : ∀ w ∈ u_ws RX6 TX6 20, w ∈ TT := by decide +kernel
theorem wd_0 : Cond.selects RX1 yX1_canGoOn yX1_canGoOn ∈ TT := TTin 0 (by decide +kernel) (by decide +kernel)
theorem wd_1 : Cond.selects RX4 yX4_begin yX4_begin ∈ TT := TTin 1 (by decide +kernel) (by decide +kernel)
theorem wd_2 : Cond.selects RX4 yX4_take yX4_take ∈ TT := TTin 2 (by decide +kernel) (by decide +kernel)
theorem wd_3 : Cond.selects RX5 yX5_canBeDone yX5_canBeDone ∈ TT := TTin 3 (by decide +kernel) (by decide +kernel)
theorem wd_4 : Cond.selects RX5 yX5_leastWay yX5_leastWay ∈ TT := TTin 4 (by decide +kernel) (by decide +kernel)
theorem wd_5 : Cond.selects RX5 yX5_lengthenFrom yX5_lengthenFrom ∈ TT := TTin 5 (by decide +kernel) (by decide +kernel)
theorem wd_6 : Cond.selects RX5 yX5_walksWithin yX5_walksWithin ∈ TT := TTin 6 (by decide +kernel) (by decide +kernel)
theorem wd_7 : Cond.selects RX5 yX5_fillLoads yX5_fillLoads ∈ TT := TTin 7 (by decide +kernel) (by decide +kernel)
theorem wd_8 : Cond.selects RX5 yX5_giveToOneMoreHand yX5_giveToOneMoreHand ∈ TT := TTin 8 (by decide +kernel) (by decide +kernel)
theorem wd_9 : Cond.selects RX5 yX5_gatherFitting yX5_gatherFitting ∈ TT := TTin 9 (by decide +kernel) (by decide +kernel)
theorem wd_10 : Cond.selects RX5 yX5_mostLeft yX5_mostLeft ∈ TT := TTin 10 (by decide +kernel) (by decide +kernel)
theorem wd_11 : Cond.selects RX5 yX5_winningTake yX5_winningTake ∈ TT := TTin 11 (by decide +kernel) (by decide +kernel)
theorem wd_12 : Cond.selects RX5 yX5_fillChances yX5_fillChances ∈ TT := TTin 12 (by decide +kernel) (by decide +kernel)
theorem wd_13 : Cond.selects RX4 yX4_takeDrawn yX4_takeDrawn ∈ TT := TTin 13 (by decide +kernel) (by decide +kernel)
theorem wd_14 : Cond.selects RX6 yX6_asNow yX6_asNow ∈ TT := TTin 14 (by decide +kernel) (by decide +kernel)
theorem wd_15 : Cond.selects RX6 yX6_roadsOf yX6_roadsOf ∈ TT := TTin 15 (by decide +kernel) (by decide +kernel)
theorem wd_16 : Cond.selects RX6 yX6_faultOf yX6_faultOf ∈ TT := TTin 16 (by decide +kernel) (by decide +kernel)
theorem wd_17 : Cond.selects RX6 yX6_goDays yX6_goDays ∈ TT := TTin 17 (by decide +kernel) (by decide +kernel)
theorem wd_18 : Cond.selects RX6 yX6_endDay yX6_endDay ∈ TT := TTin 18 (by decide +kernel) (by decide +kernel)
theorem wd_19 : Cond.selects RX6 yX6_bring yX6_bring ∈ TT := TTin 19 (by decide +kernel) (by decide +kernel)
theorem wd_20 : Cond.selects RX6 yX6_barOf yX6_barOf ∈ TT := TTin 20 (by decide +kernel) (by decide +kernel)
theorem wd_21 : Cond.selects RX6 yX6_lay yX6_lay ∈ TT := TTin 21 (by decide +kernel) (by decide +kernel)
theorem wd_22 : Cond.selects RX6 yX6_patch yX6_patch ∈ TT := TTin 22 (by decide +kernel) (by decide +kernel)
theorem wd_23 : Cond.selects RX6 yX6_walk yX6_walk ∈ TT := TTin 23 (by decide +kernel) (by decide +kernel)
theorem wd_24 : Cond.selects RX6 yX6_isThere yX6_isThere ∈ TT := TTin 24 (by decide +kernel) (by decide +kernel)
theorem wd_25 : Cond.selects RX6 yX6_shoe yX6_shoe ∈ TT := TTin 25 (by decide +kernel) (by decide +kernel)
theorem wd_26 : Cond.selects RX6 yX6_barOfDays yX6_barOfDays ∈ TT := TTin 26 (by decide +kernel) (by decide +kernel)
theorem wd_27 : Cond.selects RX6 yX6_wearOf yX6_wearOf ∈ TT := TTin 27 (by decide +kernel) (by decide +kernel)
theorem wd_28 : Cond.selects RX6 yX6_shutIn yX6_shutIn ∈ TT := TTin 28 (by decide +kernel) (by decide +kernel)
theorem wd_29 : Cond.selects RX6 yX6_openFrom yX6_openFrom ∈ TT := TTin 29 (by decide +kernel) (by decide +kernel)
theorem wd_30 : Cond.selects RX6 yX6_isOpen yX6_isOpen ∈ TT := TTin 30 (by decide +kernel) (by decide +kernel)
theorem wd_31 : Cond.selects RX6 yX6_partOf yX6_partOf ∈ TT := TTin 31 (by decide +kernel) (by decide +kernel)
theorem wd_32 : Cond.selects RX6 yX6_isFit yX6_isFit ∈ TT := TTin 32 (by decide +kernel) (by decide +kernel)
theorem wd_33 : Cond.initialized RL ∈ TT := TTin 33 (by decide +kernel) (by decide +kernel)
theorem wd_34 : Cond.initialized RX5 ∈ TT := TTin 34 (by decide +kernel) (by decide +kernel)
theorem wd_35 : Cond.initialized RX2 ∈ TT := TTin 35 (by decide +kernel) (by decide +kernel)
theorem wd_36 : Cond.initialized RJ7 ∈ TT := TTin 36 (by decide +kernel) (by decide +kernel)
theorem wd_37 : Cond.initialized RX3 ∈ TT := TTin 37 (by decide +kernel) (by decide +kernel)
theorem wd_38 : Cond.initialized RX1 ∈ TT := TTin 38 (by decide +kernel) (by decide +kernel)
theorem wd_39 : Cond.initialized RX4 ∈ TT := TTin 39 (by decide +kernel) (by decide +kernel)
theorem wd_40 : Cond.initialized RX0 ∈ TT := TTin 40 (by decide +kernel) (by decide +kernel)
theorem wd_41 : Cond.initialized RX6 ∈ TT := TTin 41 (by decide +kernel) (by decide +kernel)
theorem wd_42 : Cond.initialized RJ6 ∈ TT := TTin 42 (by decide +kernel) (by decide +kernel)
theorem wd_43 : Cond.initialized RJ9 ∈ TT := TTin 43 (by decide +kernel) (by decide +kernel)
theorem wd_44 : Cond.classLink RL 7 RX5 ∈ TT := TTin 44 (by decide +kernel) (by decide +kernel)
theorem wd_45 : Cond.instantiable RX5 13 ∈ TT := TTin 45 (by decide +kernel) (by decide +kernel)
theorem wd_46 : Cond.methodLink RL 9 yX5_init ∈ TT := TTin 46 (by decide +kernel) (by decide +kernel)
theorem wd_47 : Cond.instanceMethod yX5_init ∈ TT := TTin 47 (by decide +kernel) (by decide +kernel)
theorem wd_48 : Cond.code yX5_init cX5_init 1 none ∈ TT := TTin 48 (by decide +kernel) (by decide +kernel)
theorem wd_49 : Cond.methodLink RX5 3 objectInit ∈ TT := TTin 49 (by decide +kernel) (by decide +kernel)
theorem wd_50 : Cond.instanceMethod objectInit ∈ TT := TTin 50 (by decide +kernel) (by decide +kernel)
theorem wd_51 : Cond.code objectInit ⟨#[0xb1]⟩ 1 none ∈ TT := TTin 51 (by decide +kernel) (by decide +kernel)
theorem wd_52 : Cond.classLink RX5 9 RX2 ∈ TT := TTin 52 (by decide +kernel) (by decide +kernel)
theorem wd_53 : Cond.instantiable RX2 5 ∈ TT := TTin 53 (by decide +kernel) (by decide +kernel)
theorem wd_54 : Cond.methodLink RX5 11 yX2_init ∈ TT := TTin 54 (by decide +kernel) (by decide +kernel)
theorem wd_55 : Cond.instanceMethod yX2_init ∈ TT := TTin 55 (by decide +kernel) (by decide +kernel)
theorem wd_56 : Cond.code yX2_init cX2_init 1 none ∈ TT := TTin 56 (by decide +kernel) (by decide +kernel)
theorem wd_57 : Cond.methodLink RX2 3 objectInit ∈ TT := TTin 57 (by decide +kernel) (by decide +kernel)
theorem wd_58 : Cond.methodLink RX2 28 yJ7_fill_53178 ∈ TT := TTin 58 (by decide +kernel) (by decide +kernel)
theorem wd_59 : Cond.static yJ7_fill_53178 ∈ TT := TTin 59 (by decide +kernel) (by decide +kernel)
theorem wd_60 : Cond.code yJ7_fill_53178 cJ7_fill_53178 4 none ∈ TT := TTin 60 (by decide +kernel) (by decide +kernel)
theorem wd_61 : Cond.fieldLink RX2 9 "RoadCobblers$Shire" "roads" "[I" ∈ TT := TTin 61 (by decide +kernel) (by decide +kernel)
theorem wd_62 : Cond.fieldLink RX2 15 "RoadCobblers$Shire" "places" "[I" ∈ TT := TTin 62 (by decide +kernel) (by decide +kernel)
theorem wd_63 : Cond.fieldLink RX2 18 "RoadCobblers$Shire" "irons" "[I" ∈ TT := TTin 63 (by decide +kernel) (by decide +kernel)
theorem wd_64 : Cond.fieldLink RX2 21 "RoadCobblers$Shire" "day" "I" ∈ TT := TTin 64 (by decide +kernel) (by decide +kernel)
theorem nw_65 : Cond.fieldLinkNest RX5 161 "RoadCobblers$Shire" "day" "I" "RoadCobblers" ∈ NW := NWin 65 (by decide +kernel) (by decide +kernel)
theorem wd_66 : Cond.fieldLink RX2 25 "RoadCobblers$Shire" "firstWorn" "I" ∈ TT := TTin 66 (by decide +kernel) (by decide +kernel)
theorem nw_67 : Cond.fieldLinkNest RX4 44 "RoadCobblers$Shire" "firstWorn" "I" "RoadCobblers" ∈ NW := NWin 67 (by decide +kernel) (by decide +kernel)
theorem nw_68 : Cond.fieldLinkNest RX5 167 "RoadCobblers$Shire" "firstWorn" "I" "RoadCobblers" ∈ NW := NWin 68 (by decide +kernel) (by decide +kernel)
theorem wd_80 : Cond.arrayClass .int ∈ TT := TTin 80 (by decide +kernel) (by decide +kernel)
theorem wd_81 : Cond.classLink RX5 16 RX3 ∈ TT := TTin 81 (by decide +kernel) (by decide +kernel)
theorem wd_82 : Cond.instantiable RX3 4 ∈ TT := TTin 82 (by decide +kernel) (by decide +kernel)
theorem nw_83 : Cond.methodLinkNest RX5 18 yX3_init "RoadCobblers" ∈ NW := NWin 83 (by decide +kernel) (by decide +kernel)
theorem wd_84 : Cond.instanceMethod yX3_init ∈ TT := TTin 84 (by decide +kernel) (by decide +kernel)
theorem wd_85 : Cond.code yX3_init cX3_init 1 none ∈ TT := TTin 85 (by decide +kernel) (by decide +kernel)
theorem wd_86 : Cond.methodLink RX3 3 objectInit ∈ TT := TTin 86 (by decide +kernel) (by decide +kernel)
theorem wd_87 : Cond.fieldLink RX3 9 "RoadCobblers$Sights" "kinds" "[I" ∈ TT := TTin 87 (by decide +kernel) (by decide +kernel)
theorem wd_88 : Cond.fieldLink RX3 15 "RoadCobblers$Sights" "days" "[I" ∈ TT := TTin 88 (by decide +kernel) (by decide +kernel)
theorem wd_89 : Cond.fieldLink RX3 18 "RoadCobblers$Sights" "values" "[I" ∈ TT := TTin 89 (by decide +kernel) (by decide +kernel)
theorem wd_90 : Cond.fieldLink RX3 21 "RoadCobblers$Sights" "count" "I" ∈ TT := TTin 90 (by decide +kernel) (by decide +kernel)
theorem nw_91 : Cond.fieldLinkNest RX5 222 "RoadCobblers$Sights" "count" "I" "RoadCobblers" ∈ NW := NWin 91 (by decide +kernel) (by decide +kernel)
theorem wd_101 : Cond.classLink RX5 23 RX1 ∈ TT := TTin 101 (by decide +kernel) (by decide +kernel)
theorem wd_102 : Cond.instantiable RX1 2 ∈ TT := TTin 102 (by decide +kernel) (by decide +kernel)
theorem nw_103 : Cond.methodLinkNest RX5 25 yX1_init "RoadCobblers" ∈ NW := NWin 103 (by decide +kernel) (by decide +kernel)
theorem wd_104 : Cond.instanceMethod yX1_init ∈ TT := TTin 104 (by decide +kernel) (by decide +kernel)
theorem wd_105 : Cond.code yX1_init cX1_init 1 none ∈ TT := TTin 105 (by decide +kernel) (by decide +kernel)
theorem wd_106 : Cond.methodLink RX1 3 objectInit ∈ TT := TTin 106 (by decide +kernel) (by decide +kernel)
theorem wd_107 : Cond.fieldLink RX1 9 "RoadCobblers$Pad" "signs" "[I" ∈ TT := TTin 107 (by decide +kernel) (by decide +kernel)
theorem wd_108 : Cond.fieldLink RX1 15 "RoadCobblers$Pad" "count" "I" ∈ TT := TTin 108 (by decide +kernel) (by decide +kernel)
theorem nw_109 : Cond.fieldLinkNest RX4 35 "RoadCobblers$Pad" "count" "I" "RoadCobblers" ∈ NW := NWin 109 (by decide +kernel) (by decide +kernel)
theorem nw_110 : Cond.fieldLinkNest RX5 106 "RoadCobblers$Pad" "count" "I" "RoadCobblers" ∈ NW := NWin 110 (by decide +kernel) (by decide +kernel)
theorem wd_116 : Cond.classLink RX5 30 RX4 ∈ TT := TTin 116 (by decide +kernel) (by decide +kernel)
theorem wd_117 : Cond.instantiable RX4 5 ∈ TT := TTin 117 (by decide +kernel) (by decide +kernel)
theorem nw_118 : Cond.methodLinkNest RX5 32 yX4_init "RoadCobblers" ∈ NW := NWin 118 (by decide +kernel) (by decide +kernel)
theorem wd_119 : Cond.instanceMethod yX4_init ∈ TT := TTin 119 (by decide +kernel) (by decide +kernel)
theorem wd_120 : Cond.code yX4_init cX4_init 1 none ∈ TT := TTin 120 (by decide +kernel) (by decide +kernel)
theorem wd_121 : Cond.methodLink RX4 3 objectInit ∈ TT := TTin 121 (by decide +kernel) (by decide +kernel)
theorem wd_122 : Cond.classLink RX4 9 RX2 ∈ TT := TTin 122 (by decide +kernel) (by decide +kernel)
theorem wd_123 : Cond.methodLink RX4 11 yX2_init ∈ TT := TTin 123 (by decide +kernel) (by decide +kernel)
theorem wd_124 : Cond.fieldLink RX4 12 "RoadCobblers$Trial" "shire" "LRoadCobblers$Shire;" ∈ TT := TTin 124 (by decide +kernel) (by decide +kernel)
theorem nw_125 : Cond.fieldLinkNest RX5 134 "RoadCobblers$Trial" "shire" "LRoadCobblers$Shire;" "RoadCobblers" ∈ NW := NWin 125 (by decide +kernel) (by decide +kernel)
theorem wd_126 : Cond.fieldLink RX4 18 "RoadCobblers$Trial" "acts" "I" ∈ TT := TTin 126 (by decide +kernel) (by decide +kernel)
theorem nw_127 : Cond.fieldLinkNest RX5 139 "RoadCobblers$Trial" "acts" "I" "RoadCobblers" ∈ NW := NWin 127 (by decide +kernel) (by decide +kernel)
theorem wd_128 : Cond.fieldLink RX4 22 "RoadCobblers$Trial" "failedAct" "I" ∈ TT := TTin 128 (by decide +kernel) (by decide +kernel)
theorem nw_129 : Cond.fieldLinkNest RX5 124 "RoadCobblers$Trial" "failedAct" "I" "RoadCobblers" ∈ NW := NWin 129 (by decide +kernel) (by decide +kernel)
theorem wd_130 : Cond.fieldLink RX4 25 "RoadCobblers$Trial" "reason" "I" ∈ TT := TTin 130 (by decide +kernel) (by decide +kernel)
theorem nw_131 : Cond.fieldLinkNest RX5 127 "RoadCobblers$Trial" "reason" "I" "RoadCobblers" ∈ NW := NWin 131 (by decide +kernel) (by decide +kernel)
theorem wd_132 : Cond.fieldLink RX4 28 "RoadCobblers$Trial" "wornAct" "I" ∈ TT := TTin 132 (by decide +kernel) (by decide +kernel)
theorem nw_133 : Cond.fieldLinkNest RX5 164 "RoadCobblers$Trial" "wornAct" "I" "RoadCobblers" ∈ NW := NWin 133 (by decide +kernel) (by decide +kernel)
theorem wd_145 : Cond.classLink RX5 37 RX0 ∈ TT := TTin 145 (by decide +kernel) (by decide +kernel)
theorem wd_146 : Cond.instantiable RX0 3 ∈ TT := TTin 146 (by decide +kernel) (by decide +kernel)
theorem nw_147 : Cond.methodLinkNest RX5 39 yX0_init "RoadCobblers" ∈ NW := NWin 147 (by decide +kernel) (by decide +kernel)
theorem wd_148 : Cond.instanceMethod yX0_init ∈ TT := TTin 148 (by decide +kernel) (by decide +kernel)
theorem wd_149 : Cond.code yX0_init cX0_init 1 none ∈ TT := TTin 149 (by decide +kernel) (by decide +kernel)
theorem wd_150 : Cond.methodLink RX0 1 objectInit ∈ TT := TTin 150 (by decide +kernel) (by decide +kernel)
theorem wd_151 : Cond.classLink RX0 7 RX2 ∈ TT := TTin 151 (by decide +kernel) (by decide +kernel)
theorem wd_152 : Cond.methodLink RX0 9 yX2_init ∈ TT := TTin 152 (by decide +kernel) (by decide +kernel)
theorem wd_153 : Cond.classLink RX0 16 RX3 ∈ TT := TTin 153 (by decide +kernel) (by decide +kernel)
theorem nw_154 : Cond.methodLinkNest RX0 18 yX3_init "RoadCobblers" ∈ NW := NWin 154 (by decide +kernel) (by decide +kernel)
theorem wd_155 : Cond.fieldLink RX0 10 "RoadCobblers$Image" "shire" "LRoadCobblers$Shire;" ∈ TT := TTin 155 (by decide +kernel) (by decide +kernel)
theorem nw_156 : Cond.fieldLinkNest RX5 250 "RoadCobblers$Image" "shire" "LRoadCobblers$Shire;" "RoadCobblers" ∈ NW := NWin 156 (by decide +kernel) (by decide +kernel)
theorem wd_157 : Cond.fieldLink RX0 19 "RoadCobblers$Image" "sights" "LRoadCobblers$Sights;" ∈ TT := TTin 157 (by decide +kernel) (by decide +kernel)
theorem nw_158 : Cond.fieldLinkNest RX5 251 "RoadCobblers$Image" "sights" "LRoadCobblers$Sights;" "RoadCobblers" ∈ NW := NWin 158 (by decide +kernel) (by decide +kernel)
theorem wd_159 : Cond.fieldLink RX0 23 "RoadCobblers$Image" "kept" "Z" ∈ TT := TTin 159 (by decide +kernel) (by decide +kernel)
theorem nw_160 : Cond.fieldLinkNest RX5 255 "RoadCobblers$Image" "kept" "Z" "RoadCobblers" ∈ NW := NWin 160 (by decide +kernel) (by decide +kernel)
theorem wd_168 : Cond.fieldLink RX5 12 "RoadCobblers" "shire" "LRoadCobblers$Shire;" ∈ TT := TTin 168 (by decide +kernel) (by decide +kernel)
theorem wd_169 : Cond.fieldLink RX5 19 "RoadCobblers" "sights" "LRoadCobblers$Sights;" ∈ TT := TTin 169 (by decide +kernel) (by decide +kernel)
theorem wd_170 : Cond.fieldLink RX5 26 "RoadCobblers" "pad" "LRoadCobblers$Pad;" ∈ TT := TTin 170 (by decide +kernel) (by decide +kernel)
theorem wd_171 : Cond.fieldLink RX5 33 "RoadCobblers" "trial" "LRoadCobblers$Trial;" ∈ TT := TTin 171 (by decide +kernel) (by decide +kernel)
theorem wd_172 : Cond.fieldLink RX5 40 "RoadCobblers" "firstImage" "LRoadCobblers$Image;" ∈ TT := TTin 172 (by decide +kernel) (by decide +kernel)
theorem wd_173 : Cond.fieldLink RX5 44 "RoadCobblers" "secondImage" "LRoadCobblers$Image;" ∈ TT := TTin 173 (by decide +kernel) (by decide +kernel)
theorem wd_174 : Cond.fieldLink RX5 47 "RoadCobblers" "lengths" "[I" ∈ TT := TTin 174 (by decide +kernel) (by decide +kernel)
theorem wd_175 : Cond.fieldLink RX5 51 "RoadCobblers" "loads" "[I" ∈ TT := TTin 175 (by decide +kernel) (by decide +kernel)
theorem wd_176 : Cond.fieldLink RX5 54 "RoadCobblers" "fewest" "[I" ∈ TT := TTin 176 (by decide +kernel) (by decide +kernel)
theorem wd_177 : Cond.fieldLink RX5 57 "RoadCobblers" "fitting" "[I" ∈ TT := TTin 177 (by decide +kernel) (by decide +kernel)
theorem wd_178 : Cond.fieldLink RX5 60 "RoadCobblers" "tally" "[I" ∈ TT := TTin 178 (by decide +kernel) (by decide +kernel)
theorem wd_179 : Cond.fieldLink RX5 63 "RoadCobblers" "firstTakes" "[I" ∈ TT := TTin 179 (by decide +kernel) (by decide +kernel)
theorem wd_180 : Cond.fieldLink RX5 66 "RoadCobblers" "chances" "[J" ∈ TT := TTin 180 (by decide +kernel) (by decide +kernel)
theorem wd_208 : Cond.arrayClass .long ∈ TT := TTin 208 (by decide +kernel) (by decide +kernel)
theorem wd_209 : Cond.methodLink RL 13 yX5_road ∈ TT := TTin 209 (by decide +kernel) (by decide +kernel)
theorem wd_210 : Cond.instanceMethod yX5_road ∈ TT := TTin 210 (by decide +kernel) (by decide +kernel)
theorem wd_211 : Cond.selects RX5 yX5_road yX5_road ∈ TT := TTin 211 (by decide +kernel) (by decide +kernel)
theorem wd_212 : Cond.code yX5_road cX5_road 4 (some .int) ∈ TT := TTin 212 (by decide +kernel) (by decide +kernel)
theorem wd_213 : Cond.methodLink RX5 70 yX5_areTwoPlaces ∈ TT := TTin 213 (by decide +kernel) (by decide +kernel)
theorem wd_214 : Cond.static yX5_areTwoPlaces ∈ TT := TTin 214 (by decide +kernel) (by decide +kernel)
theorem wd_215 : Cond.code yX5_areTwoPlaces cX5_areTwoPlaces 2 (some .boolean) ∈ TT := TTin 215 (by decide +kernel) (by decide +kernel)
theorem wd_216 : Cond.methodLink RX5 74 yX5_within ∈ TT := TTin 216 (by decide +kernel) (by decide +kernel)
theorem wd_217 : Cond.static yX5_within ∈ TT := TTin 217 (by decide +kernel) (by decide +kernel)
theorem wd_218 : Cond.code yX5_within cX5_within 3 (some .boolean) ∈ TT := TTin 218 (by decide +kernel) (by decide +kernel)
theorem wd_219 : Cond.methodLink RX5 78 yX2_putRoad ∈ TT := TTin 219 (by decide +kernel) (by decide +kernel)
theorem wd_220 : Cond.instanceMethod yX2_putRoad ∈ TT := TTin 220 (by decide +kernel) (by decide +kernel)
theorem wd_221 : Cond.selects RX2 yX2_putRoad yX2_putRoad ∈ TT := TTin 221 (by decide +kernel) (by decide +kernel)
theorem wd_222 : Cond.code yX2_putRoad cX2_putRoad 4 none ∈ TT := TTin 222 (by decide +kernel) (by decide +kernel)
theorem nw_223 : Cond.methodLinkNest RX2 38 yX5_areTwoPlaces "RoadCobblers" ∈ NW := NWin 223 (by decide +kernel) (by decide +kernel)
theorem nw_224 : Cond.methodLinkNest RX2 46 yX5_put "RoadCobblers" ∈ NW := NWin 224 (by decide +kernel) (by decide +kernel)
theorem wd_225 : Cond.static yX5_put ∈ TT := TTin 225 (by decide +kernel) (by decide +kernel)
theorem wd_226 : Cond.code yX5_put cX5_put 3 none ∈ TT := TTin 226 (by decide +kernel) (by decide +kernel)
theorem wd_227 : Cond.methodLink RX5 82 yX2_countRoads ∈ TT := TTin 227 (by decide +kernel) (by decide +kernel)
theorem wd_228 : Cond.instanceMethod yX2_countRoads ∈ TT := TTin 228 (by decide +kernel) (by decide +kernel)
theorem wd_229 : Cond.selects RX2 yX2_countRoads yX2_countRoads ∈ TT := TTin 229 (by decide +kernel) (by decide +kernel)
theorem wd_230 : Cond.code yX2_countRoads cX2_countRoads 3 (some .int) ∈ TT := TTin 230 (by decide +kernel) (by decide +kernel)
theorem wd_231 : Cond.methodLink RL 18 yX5_walker ∈ TT := TTin 231 (by decide +kernel) (by decide +kernel)
theorem wd_232 : Cond.instanceMethod yX5_walker ∈ TT := TTin 232 (by decide +kernel) (by decide +kernel)
theorem wd_233 : Cond.selects RX5 yX5_walker yX5_walker ∈ TT := TTin 233 (by decide +kernel) (by decide +kernel)
theorem wd_234 : Cond.code yX5_walker cX5_walker 4 (some .int) ∈ TT := TTin 234 (by decide +kernel) (by decide +kernel)
theorem wd_235 : Cond.methodLink RX5 86 yX5_isWalker ∈ TT := TTin 235 (by decide +kernel) (by decide +kernel)
theorem wd_236 : Cond.static yX5_isWalker ∈ TT := TTin 236 (by decide +kernel) (by decide +kernel)
theorem wd_237 : Cond.code yX5_isWalker cX5_isWalker 1 (some .boolean) ∈ TT := TTin 237 (by decide +kernel) (by decide +kernel)
theorem wd_238 : Cond.methodLink RX5 90 yX5_isPlace ∈ TT := TTin 238 (by decide +kernel) (by decide +kernel)
theorem wd_239 : Cond.static yX5_isPlace ∈ TT := TTin 239 (by decide +kernel) (by decide +kernel)
theorem wd_240 : Cond.code yX5_isPlace cX5_isPlace 1 (some .boolean) ∈ TT := TTin 240 (by decide +kernel) (by decide +kernel)
theorem wd_241 : Cond.methodLink RX5 93 yX2_putWalker ∈ TT := TTin 241 (by decide +kernel) (by decide +kernel)
theorem wd_242 : Cond.instanceMethod yX2_putWalker ∈ TT := TTin 242 (by decide +kernel) (by decide +kernel)
theorem wd_243 : Cond.selects RX2 yX2_putWalker yX2_putWalker ∈ TT := TTin 243 (by decide +kernel) (by decide +kernel)
theorem wd_244 : Cond.code yX2_putWalker cX2_putWalker 4 none ∈ TT := TTin 244 (by decide +kernel) (by decide +kernel)
theorem wd_245 : Cond.methodLink RX5 97 yX2_walkersThere ∈ TT := TTin 245 (by decide +kernel) (by decide +kernel)
theorem wd_246 : Cond.instanceMethod yX2_walkersThere ∈ TT := TTin 246 (by decide +kernel) (by decide +kernel)
theorem wd_247 : Cond.selects RX2 yX2_walkersThere yX2_walkersThere ∈ TT := TTin 247 (by decide +kernel) (by decide +kernel)
theorem wd_248 : Cond.code yX2_walkersThere cX2_walkersThere 3 (some .int) ∈ TT := TTin 248 (by decide +kernel) (by decide +kernel)
theorem wd_249 : Cond.methodLink RX2 77 yX2_isThere ∈ TT := TTin 249 (by decide +kernel) (by decide +kernel)
theorem wd_250 : Cond.instanceMethod yX2_isThere ∈ TT := TTin 250 (by decide +kernel) (by decide +kernel)
theorem wd_251 : Cond.selects RX2 yX2_isThere yX2_isThere ∈ TT := TTin 251 (by decide +kernel) (by decide +kernel)
theorem wd_252 : Cond.code yX2_isThere cX2_isThere 2 (some .boolean) ∈ TT := TTin 252 (by decide +kernel) (by decide +kernel)
theorem nw_253 : Cond.methodLinkNest RX2 73 yX5_isWalker "RoadCobblers" ∈ NW := NWin 253 (by decide +kernel) (by decide +kernel)
theorem nw_254 : Cond.methodLinkNest RX2 42 yX5_at "RoadCobblers" ∈ NW := NWin 254 (by decide +kernel) (by decide +kernel)
theorem wd_255 : Cond.static yX5_at ∈ TT := TTin 255 (by decide +kernel) (by decide +kernel)
theorem wd_256 : Cond.code yX5_at cX5_at 2 (some .int) ∈ TT := TTin 256 (by decide +kernel) (by decide +kernel)
theorem wd_257 : Cond.methodLink RX5 100 yJ6_bitCount_0f7a4 ∈ TT := TTin 257 (by decide +kernel) (by decide +kernel)
theorem wd_258 : Cond.static yJ6_bitCount_0f7a4 ∈ TT := TTin 258 (by decide +kernel) (by decide +kernel)
theorem wd_259 : Cond.code yJ6_bitCount_0f7a4 cJ6_bitCount_0f7a4 1 (some .int) ∈ TT := TTin 259 (by decide +kernel) (by decide +kernel)
theorem wd_260 : Cond.constant RJ6 265 (1431655765) ∈ TT := TTin 260 (by decide +kernel) (by decide +kernel)
theorem wd_261 : Cond.constant RJ6 266 (858993459) ∈ TT := TTin 261 (by decide +kernel) (by decide +kernel)
theorem wd_262 : Cond.constant RJ6 267 (252645135) ∈ TT := TTin 262 (by decide +kernel) (by decide +kernel)
theorem wd_263 : Cond.methodLink RL 23 yX5_say ∈ TT := TTin 263 (by decide +kernel) (by decide +kernel)
theorem wd_264 : Cond.instanceMethod yX5_say ∈ TT := TTin 264 (by decide +kernel) (by decide +kernel)
theorem wd_265 : Cond.selects RX5 yX5_say yX5_say ∈ TT := TTin 265 (by decide +kernel) (by decide +kernel)
theorem wd_266 : Cond.code yX5_say cX5_say 2 (some .int) ∈ TT := TTin 266 (by decide +kernel) (by decide +kernel)
theorem wd_267 : Cond.methodLink RX5 110 yX1_add ∈ TT := TTin 267 (by decide +kernel) (by decide +kernel)
theorem wd_268 : Cond.instanceMethod yX1_add ∈ TT := TTin 268 (by decide +kernel) (by decide +kernel)
theorem wd_269 : Cond.selects RX1 yX1_add yX1_add ∈ TT := TTin 269 (by decide +kernel) (by decide +kernel)
theorem wd_270 : Cond.code yX1_add cX1_add 2 none ∈ TT := TTin 270 (by decide +kernel) (by decide +kernel)
theorem nw_271 : Cond.methodLinkNest RX1 19 yX5_put "RoadCobblers" ∈ NW := NWin 271 (by decide +kernel) (by decide +kernel)
theorem wd_272 : Cond.methodLink RL 28 yX5_wipe ∈ TT := TTin 272 (by decide +kernel) (by decide +kernel)
theorem wd_273 : Cond.instanceMethod yX5_wipe ∈ TT := TTin 273 (by decide +kernel) (by decide +kernel)
theorem wd_274 : Cond.selects RX5 yX5_wipe yX5_wipe ∈ TT := TTin 274 (by decide +kernel) (by decide +kernel)
theorem wd_275 : Cond.code yX5_wipe cX5_wipe 2 (some .int) ∈ TT := TTin 275 (by decide +kernel) (by decide +kernel)
theorem wd_276 : Cond.methodLink RX5 114 yX1_empty ∈ TT := TTin 276 (by decide +kernel) (by decide +kernel)
theorem wd_277 : Cond.instanceMethod yX1_empty ∈ TT := TTin 277 (by decide +kernel) (by decide +kernel)
theorem wd_278 : Cond.selects RX1 yX1_empty yX1_empty ∈ TT := TTin 278 (by decide +kernel) (by decide +kernel)
theorem wd_279 : Cond.code yX1_empty cX1_empty 1 none ∈ TT := TTin 279 (by decide +kernel) (by decide +kernel)
theorem wd_280 : Cond.methodLink RL 33 yX5_fault ∈ TT := TTin 280 (by decide +kernel) (by decide +kernel)
theorem wd_281 : Cond.instanceMethod yX5_fault ∈ TT := TTin 281 (by decide +kernel) (by decide +kernel)
theorem wd_282 : Cond.selects RX5 yX5_fault yX5_fault ∈ TT := TTin 282 (by decide +kernel) (by decide +kernel)
theorem wd_283 : Cond.code yX5_fault cX5_fault 1 (some .int) ∈ TT := TTin 283 (by decide +kernel) (by decide +kernel)
theorem wd_284 : Cond.methodLink RX5 117 yX1_faultPlace ∈ TT := TTin 284 (by decide +kernel) (by decide +kernel)
theorem wd_285 : Cond.instanceMethod yX1_faultPlace ∈ TT := TTin 285 (by decide +kernel) (by decide +kernel)
theorem wd_286 : Cond.selects RX1 yX1_faultPlace yX1_faultPlace ∈ TT := TTin 286 (by decide +kernel) (by decide +kernel)
theorem wd_287 : Cond.code yX1_faultPlace cX1_faultPlace 5 (some .int) ∈ TT := TTin 287 (by decide +kernel) (by decide +kernel)
theorem wd_288 : Cond.methodLink RX1 35 yX1_actLength ∈ TT := TTin 288 (by decide +kernel) (by decide +kernel)
theorem wd_289 : Cond.instanceMethod yX1_actLength ∈ TT := TTin 289 (by decide +kernel) (by decide +kernel)
theorem wd_290 : Cond.selects RX1 yX1_actLength yX1_actLength ∈ TT := TTin 290 (by decide +kernel) (by decide +kernel)
theorem wd_291 : Cond.code yX1_actLength cX1_actLength 3 (some .int) ∈ TT := TTin 291 (by decide +kernel) (by decide +kernel)
theorem wd_292 : Cond.methodLink RX1 27 yX1_signAt ∈ TT := TTin 292 (by decide +kernel) (by decide +kernel)
theorem wd_293 : Cond.instanceMethod yX1_signAt ∈ TT := TTin 293 (by decide +kernel) (by decide +kernel)
theorem wd_294 : Cond.selects RX1 yX1_signAt yX1_signAt ∈ TT := TTin 294 (by decide +kernel) (by decide +kernel)
theorem wd_295 : Cond.code yX1_signAt cX1_signAt 2 (some .int) ∈ TT := TTin 295 (by decide +kernel) (by decide +kernel)
theorem nw_296 : Cond.methodLinkNest RX1 23 yX5_at "RoadCobblers" ∈ NW := NWin 296 (by decide +kernel) (by decide +kernel)
theorem nw_297 : Cond.methodLinkNest RX1 31 yX5_isWalker "RoadCobblers" ∈ NW := NWin 297 (by decide +kernel) (by decide +kernel)
theorem wd_298 : Cond.methodLink RX1 38 yX1_canGoOn ∈ TT := TTin 298 (by decide +kernel) (by decide +kernel)
theorem wd_300 : Cond.instanceMethod yX1_canGoOn ∈ TT := TTin 300 (by decide +kernel) (by decide +kernel)
theorem wd_301 : Cond.code yX1_canGoOn cX1_canGoOn 4 (some .boolean) ∈ TT := TTin 301 (by decide +kernel) (by decide +kernel)
theorem wd_302 : Cond.methodLink RX1 42 yX1_placeAt ∈ TT := TTin 302 (by decide +kernel) (by decide +kernel)
theorem wd_303 : Cond.instanceMethod yX1_placeAt ∈ TT := TTin 303 (by decide +kernel) (by decide +kernel)
theorem wd_304 : Cond.selects RX1 yX1_placeAt yX1_placeAt ∈ TT := TTin 304 (by decide +kernel) (by decide +kernel)
theorem wd_305 : Cond.code yX1_placeAt cX1_placeAt 2 (some .int) ∈ TT := TTin 305 (by decide +kernel) (by decide +kernel)
theorem nw_306 : Cond.methodLinkNest RX1 45 yX5_isPlace "RoadCobblers" ∈ NW := NWin 306 (by decide +kernel) (by decide +kernel)
theorem wd_307 : Cond.methodLink RL 37 yX5_judge ∈ TT := TTin 307 (by decide +kernel) (by decide +kernel)
theorem wd_308 : Cond.instanceMethod yX5_judge ∈ TT := TTin 308 (by decide +kernel) (by decide +kernel)
theorem wd_309 : Cond.selects RX5 yX5_judge yX5_judge ∈ TT := TTin 309 (by decide +kernel) (by decide +kernel)
theorem wd_310 : Cond.code yX5_judge cX5_judge 2 (some .int) ∈ TT := TTin 310 (by decide +kernel) (by decide +kernel)
theorem wd_311 : Cond.methodLink RX5 120 yX4_follow ∈ TT := TTin 311 (by decide +kernel) (by decide +kernel)
theorem wd_312 : Cond.instanceMethod yX4_follow ∈ TT := TTin 312 (by decide +kernel) (by decide +kernel)
theorem wd_313 : Cond.selects RX4 yX4_follow yX4_follow ∈ TT := TTin 313 (by decide +kernel) (by decide +kernel)
theorem wd_314 : Cond.code yX4_follow cX4_follow 6 none ∈ TT := TTin 314 (by decide +kernel) (by decide +kernel)
theorem wd_315 : Cond.methodLink RX4 31 yX4_begin ∈ TT := TTin 315 (by decide +kernel) (by decide +kernel)
theorem wd_317 : Cond.instanceMethod yX4_begin ∈ TT := TTin 317 (by decide +kernel) (by decide +kernel)
theorem wd_318 : Cond.code yX4_begin cX4_begin 2 none ∈ TT := TTin 318 (by decide +kernel) (by decide +kernel)
theorem wd_319 : Cond.methodLink RX4 51 yX2_copyFrom ∈ TT := TTin 319 (by decide +kernel) (by decide +kernel)
theorem wd_320 : Cond.instanceMethod yX2_copyFrom ∈ TT := TTin 320 (by decide +kernel) (by decide +kernel)
theorem wd_321 : Cond.selects RX2 yX2_copyFrom yX2_copyFrom ∈ TT := TTin 321 (by decide +kernel) (by decide +kernel)
theorem wd_322 : Cond.code yX2_copyFrom cX2_copyFrom 2 none ∈ TT := TTin 322 (by decide +kernel) (by decide +kernel)
theorem nw_323 : Cond.methodLinkNest RX2 34 yX5_copy "RoadCobblers" ∈ NW := NWin 323 (by decide +kernel) (by decide +kernel)
theorem wd_324 : Cond.static yX5_copy ∈ TT := TTin 324 (by decide +kernel) (by decide +kernel)
theorem wd_325 : Cond.code yX5_copy cX5_copy 3 none ∈ TT := TTin 325 (by decide +kernel) (by decide +kernel)
theorem wd_326 : Cond.methodLink RX4 40 yX4_take ∈ TT := TTin 326 (by decide +kernel) (by decide +kernel)
theorem wd_328 : Cond.instanceMethod yX4_take ∈ TT := TTin 328 (by decide +kernel) (by decide +kernel)
theorem wd_329 : Cond.code yX4_take cX4_take 6 (some .int) ∈ TT := TTin 329 (by decide +kernel) (by decide +kernel)
theorem wd_330 : Cond.methodLink RX4 54 yX1_signAt ∈ TT := TTin 330 (by decide +kernel) (by decide +kernel)
theorem wd_331 : Cond.methodLink RX4 57 yX2_passDay ∈ TT := TTin 331 (by decide +kernel) (by decide +kernel)
theorem wd_332 : Cond.instanceMethod yX2_passDay ∈ TT := TTin 332 (by decide +kernel) (by decide +kernel)
theorem wd_333 : Cond.selects RX2 yX2_passDay yX2_passDay ∈ TT := TTin 333 (by decide +kernel) (by decide +kernel)
theorem wd_334 : Cond.code yX2_passDay cX2_passDay 2 (some .int) ∈ TT := TTin 334 (by decide +kernel) (by decide +kernel)
theorem wd_335 : Cond.methodLink RX4 61 yX1_placeAt ∈ TT := TTin 335 (by decide +kernel) (by decide +kernel)
theorem wd_336 : Cond.methodLink RX4 64 yX2_bringIn ∈ TT := TTin 336 (by decide +kernel) (by decide +kernel)
theorem wd_337 : Cond.instanceMethod yX2_bringIn ∈ TT := TTin 337 (by decide +kernel) (by decide +kernel)
theorem wd_338 : Cond.selects RX2 yX2_bringIn yX2_bringIn ∈ TT := TTin 338 (by decide +kernel) (by decide +kernel)
theorem wd_339 : Cond.code yX2_bringIn cX2_bringIn 4 (some .int) ∈ TT := TTin 339 (by decide +kernel) (by decide +kernel)
theorem wd_340 : Cond.methodLink RX2 50 yX2_roadBetween ∈ TT := TTin 340 (by decide +kernel) (by decide +kernel)
theorem wd_341 : Cond.instanceMethod yX2_roadBetween ∈ TT := TTin 341 (by decide +kernel) (by decide +kernel)
theorem wd_342 : Cond.selects RX2 yX2_roadBetween yX2_roadBetween ∈ TT := TTin 342 (by decide +kernel) (by decide +kernel)
theorem wd_343 : Cond.code yX2_roadBetween cX2_roadBetween 3 (some .int) ∈ TT := TTin 343 (by decide +kernel) (by decide +kernel)
theorem wd_344 : Cond.methodLink RX2 91 yX2_putRoad ∈ TT := TTin 344 (by decide +kernel) (by decide +kernel)
theorem wd_345 : Cond.methodLink RX4 68 yX2_patch ∈ TT := TTin 345 (by decide +kernel) (by decide +kernel)
theorem wd_346 : Cond.instanceMethod yX2_patch ∈ TT := TTin 346 (by decide +kernel) (by decide +kernel)
theorem wd_347 : Cond.selects RX2 yX2_patch yX2_patch ∈ TT := TTin 347 (by decide +kernel) (by decide +kernel)
theorem wd_348 : Cond.code yX2_patch cX2_patch 7 (some .int) ∈ TT := TTin 348 (by decide +kernel) (by decide +kernel)
theorem nw_349 : Cond.methodLinkNest RX2 95 yX5_nameOfRoad "RoadCobblers" ∈ NW := NWin 349 (by decide +kernel) (by decide +kernel)
theorem wd_350 : Cond.static yX5_nameOfRoad ∈ TT := TTin 350 (by decide +kernel) (by decide +kernel)
theorem wd_351 : Cond.code yX5_nameOfRoad cX5_nameOfRoad 2 (some .int) ∈ TT := TTin 351 (by decide +kernel) (by decide +kernel)
theorem wd_352 : Cond.methodLink RX5 277 Lib.Math.min.name ∈ TT := TTin 352 (by decide +kernel) (by decide +kernel)
theorem wd_353 : Cond.static Lib.Math.min.name ∈ TT := TTin 353 (by decide +kernel) (by decide +kernel)
theorem wd_354 : Cond.code Lib.Math.min.name Lib.Math.min.code 2 (some .int) ∈ TT := TTin 354 (by decide +kernel) (by decide +kernel)
theorem wd_355 : Cond.methodLink RX5 272 Lib.Math.max.name ∈ TT := TTin 355 (by decide +kernel) (by decide +kernel)
theorem wd_356 : Cond.static Lib.Math.max.name ∈ TT := TTin 356 (by decide +kernel) (by decide +kernel)
theorem wd_357 : Cond.code Lib.Math.max.name Lib.Math.max.code 2 (some .int) ∈ TT := TTin 357 (by decide +kernel) (by decide +kernel)
theorem wd_358 : Cond.methodLink RX4 72 yX2_changeIron ∈ TT := TTin 358 (by decide +kernel) (by decide +kernel)
theorem wd_359 : Cond.instanceMethod yX2_changeIron ∈ TT := TTin 359 (by decide +kernel) (by decide +kernel)
theorem wd_360 : Cond.selects RX2 yX2_changeIron yX2_changeIron ∈ TT := TTin 360 (by decide +kernel) (by decide +kernel)
theorem wd_361 : Cond.code yX2_changeIron cX2_changeIron 2 (some .int) ∈ TT := TTin 361 (by decide +kernel) (by decide +kernel)
theorem wd_362 : Cond.methodLink RX2 83 yX2_ironOf ∈ TT := TTin 362 (by decide +kernel) (by decide +kernel)
theorem wd_363 : Cond.instanceMethod yX2_ironOf ∈ TT := TTin 363 (by decide +kernel) (by decide +kernel)
theorem wd_364 : Cond.selects RX2 yX2_ironOf yX2_ironOf ∈ TT := TTin 364 (by decide +kernel) (by decide +kernel)
theorem wd_365 : Cond.code yX2_ironOf cX2_ironOf 2 (some .int) ∈ TT := TTin 365 (by decide +kernel) (by decide +kernel)
theorem wd_366 : Cond.methodLink RX4 75 yX2_walk ∈ TT := TTin 366 (by decide +kernel) (by decide +kernel)
theorem wd_367 : Cond.instanceMethod yX2_walk ∈ TT := TTin 367 (by decide +kernel) (by decide +kernel)
theorem wd_368 : Cond.selects RX2 yX2_walk yX2_walk ∈ TT := TTin 368 (by decide +kernel) (by decide +kernel)
theorem wd_369 : Cond.code yX2_walk cX2_walk 6 (some .int) ∈ TT := TTin 369 (by decide +kernel) (by decide +kernel)
theorem wd_370 : Cond.methodLink RX2 80 yX2_placeOf ∈ TT := TTin 370 (by decide +kernel) (by decide +kernel)
theorem wd_371 : Cond.instanceMethod yX2_placeOf ∈ TT := TTin 371 (by decide +kernel) (by decide +kernel)
theorem wd_372 : Cond.selects RX2 yX2_placeOf yX2_placeOf ∈ TT := TTin 372 (by decide +kernel) (by decide +kernel)
theorem wd_373 : Cond.code yX2_placeOf cX2_placeOf 2 (some .int) ∈ TT := TTin 373 (by decide +kernel) (by decide +kernel)
theorem wd_374 : Cond.methodLink RX2 86 Lib.Math.min.name ∈ TT := TTin 374 (by decide +kernel) (by decide +kernel)
theorem wd_375 : Cond.methodLink RX4 47 yX1_actLength ∈ TT := TTin 375 (by decide +kernel) (by decide +kernel)
theorem wd_376 : Cond.methodLink RL 41 yX5_done ∈ TT := TTin 376 (by decide +kernel) (by decide +kernel)
theorem wd_377 : Cond.instanceMethod yX5_done ∈ TT := TTin 377 (by decide +kernel) (by decide +kernel)
theorem wd_378 : Cond.selects RX5 yX5_done yX5_done ∈ TT := TTin 378 (by decide +kernel) (by decide +kernel)
theorem wd_379 : Cond.code yX5_done cX5_done 1 (some .int) ∈ TT := TTin 379 (by decide +kernel) (by decide +kernel)
theorem wd_380 : Cond.methodLink RX5 130 yX5_canBeDone ∈ TT := TTin 380 (by decide +kernel) (by decide +kernel)
theorem wd_382 : Cond.instanceMethod yX5_canBeDone ∈ TT := TTin 382 (by decide +kernel) (by decide +kernel)
theorem wd_383 : Cond.code yX5_canBeDone cX5_canBeDone 1 (some .boolean) ∈ TT := TTin 383 (by decide +kernel) (by decide +kernel)
theorem wd_384 : Cond.methodLink RX5 135 yX2_copyFrom ∈ TT := TTin 384 (by decide +kernel) (by decide +kernel)
theorem wd_385 : Cond.methodLink RL 45 yX5_behind ∈ TT := TTin 385 (by decide +kernel) (by decide +kernel)
theorem wd_386 : Cond.instanceMethod yX5_behind ∈ TT := TTin 386 (by decide +kernel) (by decide +kernel)
theorem wd_387 : Cond.selects RX5 yX5_behind yX5_behind ∈ TT := TTin 387 (by decide +kernel) (by decide +kernel)
theorem wd_388 : Cond.code yX5_behind cX5_behind 3 (some .int) ∈ TT := TTin 388 (by decide +kernel) (by decide +kernel)
theorem wd_389 : Cond.methodLink RX5 142 yX2_roadBetween ∈ TT := TTin 389 (by decide +kernel) (by decide +kernel)
theorem wd_390 : Cond.methodLink RL 50 yX5_goes ∈ TT := TTin 390 (by decide +kernel) (by decide +kernel)
theorem wd_391 : Cond.instanceMethod yX5_goes ∈ TT := TTin 391 (by decide +kernel) (by decide +kernel)
theorem wd_392 : Cond.selects RX5 yX5_goes yX5_goes ∈ TT := TTin 392 (by decide +kernel) (by decide +kernel)
theorem wd_393 : Cond.code yX5_goes cX5_goes 3 (some .int) ∈ TT := TTin 393 (by decide +kernel) (by decide +kernel)
theorem wd_394 : Cond.methodLink RX5 146 yX2_isThere ∈ TT := TTin 394 (by decide +kernel) (by decide +kernel)
theorem wd_395 : Cond.methodLink RX5 149 yX2_placeOf ∈ TT := TTin 395 (by decide +kernel) (by decide +kernel)
theorem wd_396 : Cond.methodLink RX5 152 yX2_ironOf ∈ TT := TTin 396 (by decide +kernel) (by decide +kernel)
theorem wd_397 : Cond.methodLink RL 54 yX5_then ∈ TT := TTin 397 (by decide +kernel) (by decide +kernel)
theorem wd_398 : Cond.instanceMethod yX5_then ∈ TT := TTin 398 (by decide +kernel) (by decide +kernel)
theorem wd_399 : Cond.selects RX5 yX5_then yX5_then ∈ TT := TTin 399 (by decide +kernel) (by decide +kernel)
theorem wd_400 : Cond.code yX5_then cX5_then 2 (some .int) ∈ TT := TTin 400 (by decide +kernel) (by decide +kernel)
theorem wd_401 : Cond.methodLink RX5 155 yX2_addWear ∈ TT := TTin 401 (by decide +kernel) (by decide +kernel)
theorem wd_402 : Cond.instanceMethod yX2_addWear ∈ TT := TTin 402 (by decide +kernel) (by decide +kernel)
theorem wd_403 : Cond.selects RX2 yX2_addWear yX2_addWear ∈ TT := TTin 403 (by decide +kernel) (by decide +kernel)
theorem wd_404 : Cond.code yX2_addWear cX2_addWear 3 (some .int) ∈ TT := TTin 404 (by decide +kernel) (by decide +kernel)
theorem nw_405 : Cond.methodLinkNest RX2 54 yX5_within "RoadCobblers" ∈ NW := NWin 405 (by decide +kernel) (by decide +kernel)
theorem wd_406 : Cond.methodLink RX5 158 yX2_shutIn ∈ TT := TTin 406 (by decide +kernel) (by decide +kernel)
theorem wd_407 : Cond.instanceMethod yX2_shutIn ∈ TT := TTin 407 (by decide +kernel) (by decide +kernel)
theorem wd_408 : Cond.selects RX2 yX2_shutIn yX2_shutIn ∈ TT := TTin 408 (by decide +kernel) (by decide +kernel)
theorem wd_409 : Cond.code yX2_shutIn cX2_shutIn 3 (some .int) ∈ TT := TTin 409 (by decide +kernel) (by decide +kernel)
theorem wd_410 : Cond.methodLink RX2 61 yX2_openFrom ∈ TT := TTin 410 (by decide +kernel) (by decide +kernel)
theorem wd_411 : Cond.instanceMethod yX2_openFrom ∈ TT := TTin 411 (by decide +kernel) (by decide +kernel)
theorem wd_412 : Cond.selects RX2 yX2_openFrom yX2_openFrom ∈ TT := TTin 412 (by decide +kernel) (by decide +kernel)
theorem wd_413 : Cond.code yX2_openFrom cX2_openFrom 4 (some .int) ∈ TT := TTin 413 (by decide +kernel) (by decide +kernel)
theorem wd_414 : Cond.methodLink RX2 58 yX2_isOpen ∈ TT := TTin 414 (by decide +kernel) (by decide +kernel)
theorem wd_415 : Cond.instanceMethod yX2_isOpen ∈ TT := TTin 415 (by decide +kernel) (by decide +kernel)
theorem wd_416 : Cond.selects RX2 yX2_isOpen yX2_isOpen ∈ TT := TTin 416 (by decide +kernel) (by decide +kernel)
theorem wd_417 : Cond.code yX2_isOpen cX2_isOpen 3 (some .boolean) ∈ TT := TTin 417 (by decide +kernel) (by decide +kernel)
theorem wd_418 : Cond.methodLink RL 58 yX5_way ∈ TT := TTin 418 (by decide +kernel) (by decide +kernel)
theorem wd_419 : Cond.instanceMethod yX5_way ∈ TT := TTin 419 (by decide +kernel) (by decide +kernel)
theorem wd_420 : Cond.selects RX5 yX5_way yX5_way ∈ TT := TTin 420 (by decide +kernel) (by decide +kernel)
theorem wd_421 : Cond.code yX5_way cX5_way 4 (some .int) ∈ TT := TTin 421 (by decide +kernel) (by decide +kernel)
theorem wd_422 : Cond.methodLink RX5 170 yX5_leastWay ∈ TT := TTin 422 (by decide +kernel) (by decide +kernel)
theorem wd_424 : Cond.instanceMethod yX5_leastWay ∈ TT := TTin 424 (by decide +kernel) (by decide +kernel)
theorem wd_425 : Cond.code yX5_leastWay cX5_leastWay 6 (some .int) ∈ TT := TTin 425 (by decide +kernel) (by decide +kernel)
theorem wd_426 : Cond.methodLink RX5 262 yJ7_fill_53178 ∈ TT := TTin 426 (by decide +kernel) (by decide +kernel)
theorem wd_427 : Cond.methodLink RX5 234 yX5_put ∈ TT := TTin 427 (by decide +kernel) (by decide +kernel)
theorem wd_428 : Cond.methodLink RX5 268 yX5_lengthenFrom ∈ TT := TTin 428 (by decide +kernel) (by decide +kernel)
theorem wd_430 : Cond.instanceMethod yX5_lengthenFrom ∈ TT := TTin 430 (by decide +kernel) (by decide +kernel)
theorem wd_431 : Cond.code yX5_lengthenFrom cX5_lengthenFrom 7 none ∈ TT := TTin 431 (by decide +kernel) (by decide +kernel)
theorem wd_432 : Cond.methodLink RX5 199 yX5_at ∈ TT := TTin 432 (by decide +kernel) (by decide +kernel)
theorem wd_433 : Cond.methodLink RX5 174 yX2_isOpen ∈ TT := TTin 433 (by decide +kernel) (by decide +kernel)
theorem wd_434 : Cond.methodLink RL 62 yX5_parts ∈ TT := TTin 434 (by decide +kernel) (by decide +kernel)
theorem wd_435 : Cond.instanceMethod yX5_parts ∈ TT := TTin 435 (by decide +kernel) (by decide +kernel)
theorem wd_436 : Cond.selects RX5 yX5_parts yX5_parts ∈ TT := TTin 436 (by decide +kernel) (by decide +kernel)
theorem wd_437 : Cond.code yX5_parts cX5_parts 6 (some .int) ∈ TT := TTin 437 (by decide +kernel) (by decide +kernel)
theorem wd_438 : Cond.methodLink RX5 177 yX2_reached ∈ TT := TTin 438 (by decide +kernel) (by decide +kernel)
theorem wd_439 : Cond.instanceMethod yX2_reached ∈ TT := TTin 439 (by decide +kernel) (by decide +kernel)
theorem wd_440 : Cond.selects RX2 yX2_reached yX2_reached ∈ TT := TTin 440 (by decide +kernel) (by decide +kernel)
theorem wd_441 : Cond.code yX2_reached cX2_reached 6 (some .int) ∈ TT := TTin 441 (by decide +kernel) (by decide +kernel)
theorem nw_442 : Cond.methodLinkNest RX2 70 yX5_holds "RoadCobblers" ∈ NW := NWin 442 (by decide +kernel) (by decide +kernel)
theorem wd_443 : Cond.static yX5_holds ∈ TT := TTin 443 (by decide +kernel) (by decide +kernel)
theorem wd_444 : Cond.code yX5_holds cX5_holds 2 (some .boolean) ∈ TT := TTin 444 (by decide +kernel) (by decide +kernel)
theorem wd_445 : Cond.methodLink RX5 180 yX5_holds ∈ TT := TTin 445 (by decide +kernel) (by decide +kernel)
theorem wd_446 : Cond.methodLink RX5 183 yX5_nameOfRoad ∈ TT := TTin 446 (by decide +kernel) (by decide +kernel)
theorem wd_447 : Cond.methodLink RL 66 yX5_strokes ∈ TT := TTin 447 (by decide +kernel) (by decide +kernel)
theorem wd_448 : Cond.instanceMethod yX5_strokes ∈ TT := TTin 448 (by decide +kernel) (by decide +kernel)
theorem wd_449 : Cond.selects RX5 yX5_strokes yX5_strokes ∈ TT := TTin 449 (by decide +kernel) (by decide +kernel)
theorem wd_450 : Cond.code yX5_strokes cX5_strokes 5 (some .int) ∈ TT := TTin 450 (by decide +kernel) (by decide +kernel)
theorem wd_451 : Cond.methodLink RX5 186 yX5_walksWithin ∈ TT := TTin 451 (by decide +kernel) (by decide +kernel)
theorem wd_453 : Cond.instanceMethod yX5_walksWithin ∈ TT := TTin 453 (by decide +kernel) (by decide +kernel)
theorem wd_454 : Cond.code yX5_walksWithin cX5_walksWithin 6 (some .int) ∈ TT := TTin 454 (by decide +kernel) (by decide +kernel)
theorem wd_455 : Cond.methodLink RX5 259 yX2_openFrom ∈ TT := TTin 455 (by decide +kernel) (by decide +kernel)
theorem wd_456 : Cond.methodLink RL 70 yX5_mended ∈ TT := TTin 456 (by decide +kernel) (by decide +kernel)
theorem wd_457 : Cond.instanceMethod yX5_mended ∈ TT := TTin 457 (by decide +kernel) (by decide +kernel)
theorem wd_458 : Cond.selects RX5 yX5_mended yX5_mended ∈ TT := TTin 458 (by decide +kernel) (by decide +kernel)
theorem wd_459 : Cond.code yX5_mended cX5_mended 6 (some .int) ∈ TT := TTin 459 (by decide +kernel) (by decide +kernel)
theorem wd_460 : Cond.methodLink RX5 189 yX5_hasDigits ∈ TT := TTin 460 (by decide +kernel) (by decide +kernel)
theorem wd_461 : Cond.static yX5_hasDigits ∈ TT := TTin 461 (by decide +kernel) (by decide +kernel)
theorem wd_462 : Cond.code yX5_hasDigits cX5_hasDigits 3 (some .boolean) ∈ TT := TTin 462 (by decide +kernel) (by decide +kernel)
theorem wd_463 : Cond.methodLink RX5 203 yX5_powerOfTen ∈ TT := TTin 463 (by decide +kernel) (by decide +kernel)
theorem wd_464 : Cond.static yX5_powerOfTen ∈ TT := TTin 464 (by decide +kernel) (by decide +kernel)
theorem wd_465 : Cond.code yX5_powerOfTen cX5_powerOfTen 4 (some .long) ∈ TT := TTin 465 (by decide +kernel) (by decide +kernel)
theorem wd_466 : Cond.constantLong RX5 238 (10) ∈ TT := TTin 466 (by decide +kernel) (by decide +kernel)
theorem wd_467 : Cond.methodLink RX5 209 yX5_digit ∈ TT := TTin 467 (by decide +kernel) (by decide +kernel)
theorem wd_468 : Cond.static yX5_digit ∈ TT := TTin 468 (by decide +kernel) (by decide +kernel)
theorem wd_469 : Cond.code yX5_digit cX5_digit 4 (some .int) ∈ TT := TTin 469 (by decide +kernel) (by decide +kernel)
theorem wd_470 : Cond.methodLink RX5 192 yX5_fillLoads ∈ TT := TTin 470 (by decide +kernel) (by decide +kernel)
theorem wd_472 : Cond.instanceMethod yX5_fillLoads ∈ TT := TTin 472 (by decide +kernel) (by decide +kernel)
theorem wd_473 : Cond.code yX5_fillLoads cX5_fillLoads 6 none ∈ TT := TTin 473 (by decide +kernel) (by decide +kernel)
theorem wd_474 : Cond.methodLink RX5 196 yX5_giveToOneMoreHand ∈ TT := TTin 474 (by decide +kernel) (by decide +kernel)
theorem wd_476 : Cond.instanceMethod yX5_giveToOneMoreHand ∈ TT := TTin 476 (by decide +kernel) (by decide +kernel)
theorem wd_477 : Cond.code yX5_giveToOneMoreHand cX5_giveToOneMoreHand 5 none ∈ TT := TTin 477 (by decide +kernel) (by decide +kernel)
theorem wd_478 : Cond.methodLink RL 74 yX5_pays ∈ TT := TTin 478 (by decide +kernel) (by decide +kernel)
theorem wd_479 : Cond.instanceMethod yX5_pays ∈ TT := TTin 479 (by decide +kernel) (by decide +kernel)
theorem wd_480 : Cond.selects RX5 yX5_pays yX5_pays ∈ TT := TTin 480 (by decide +kernel) (by decide +kernel)
theorem wd_481 : Cond.code yX5_pays cX5_pays 10 (some .long) ∈ TT := TTin 481 (by decide +kernel) (by decide +kernel)
theorem wd_482 : Cond.constantLong RX5 207 (-1000000000000000002) ∈ TT := TTin 482 (by decide +kernel) (by decide +kernel)
theorem wd_483 : Cond.methodLink RX5 212 yX5_countUsers ∈ TT := TTin 483 (by decide +kernel) (by decide +kernel)
theorem wd_484 : Cond.static yX5_countUsers ∈ TT := TTin 484 (by decide +kernel) (by decide +kernel)
theorem wd_485 : Cond.code yX5_countUsers cX5_countUsers 5 (some .int) ∈ TT := TTin 485 (by decide +kernel) (by decide +kernel)
theorem wd_486 : Cond.constantLong RX5 216 (2520) ∈ TT := TTin 486 (by decide +kernel) (by decide +kernel)
theorem wd_487 : Cond.methodLink RX5 218 yX5_lowestTerms ∈ TT := TTin 487 (by decide +kernel) (by decide +kernel)
theorem wd_488 : Cond.static yX5_lowestTerms ∈ TT := TTin 488 (by decide +kernel) (by decide +kernel)
theorem wd_489 : Cond.code yX5_lowestTerms cX5_lowestTerms 9 (some .long) ∈ TT := TTin 489 (by decide +kernel) (by decide +kernel)
theorem wd_490 : Cond.methodLink RX5 289 yX5_commonDivisor ∈ TT := TTin 490 (by decide +kernel) (by decide +kernel)
theorem wd_491 : Cond.static yX5_commonDivisor ∈ TT := TTin 491 (by decide +kernel) (by decide +kernel)
theorem wd_492 : Cond.code yX5_commonDivisor cX5_commonDivisor 11 (some .long) ∈ TT := TTin 492 (by decide +kernel) (by decide +kernel)
theorem wd_493 : Cond.methodLink RL 79 yX5_seen ∈ TT := TTin 493 (by decide +kernel) (by decide +kernel)
theorem wd_494 : Cond.instanceMethod yX5_seen ∈ TT := TTin 494 (by decide +kernel) (by decide +kernel)
theorem wd_495 : Cond.selects RX5 yX5_seen yX5_seen ∈ TT := TTin 495 (by decide +kernel) (by decide +kernel)
theorem wd_496 : Cond.code yX5_seen cX5_seen 4 (some .int) ∈ TT := TTin 496 (by decide +kernel) (by decide +kernel)
theorem wd_497 : Cond.methodLink RX5 223 yX3_add ∈ TT := TTin 497 (by decide +kernel) (by decide +kernel)
theorem wd_498 : Cond.instanceMethod yX3_add ∈ TT := TTin 498 (by decide +kernel) (by decide +kernel)
theorem wd_499 : Cond.selects RX3 yX3_add yX3_add ∈ TT := TTin 499 (by decide +kernel) (by decide +kernel)
theorem wd_500 : Cond.code yX3_add cX3_add 4 none ∈ TT := TTin 500 (by decide +kernel) (by decide +kernel)
theorem nw_501 : Cond.methodLinkNest RX3 29 yX5_put "RoadCobblers" ∈ NW := NWin 501 (by decide +kernel) (by decide +kernel)
theorem wd_502 : Cond.methodLink RL 84 yX5_forget ∈ TT := TTin 502 (by decide +kernel) (by decide +kernel)
theorem wd_503 : Cond.instanceMethod yX5_forget ∈ TT := TTin 503 (by decide +kernel) (by decide +kernel)
theorem wd_504 : Cond.selects RX5 yX5_forget yX5_forget ∈ TT := TTin 504 (by decide +kernel) (by decide +kernel)
theorem wd_505 : Cond.code yX5_forget cX5_forget 2 (some .int) ∈ TT := TTin 505 (by decide +kernel) (by decide +kernel)
theorem wd_506 : Cond.methodLink RL 88 yX5_who ∈ TT := TTin 506 (by decide +kernel) (by decide +kernel)
theorem wd_507 : Cond.instanceMethod yX5_who ∈ TT := TTin 507 (by decide +kernel) (by decide +kernel)
theorem wd_508 : Cond.selects RX5 yX5_who yX5_who ∈ TT := TTin 508 (by decide +kernel) (by decide +kernel)
theorem wd_509 : Cond.code yX5_who cX5_who 3 (some .int) ∈ TT := TTin 509 (by decide +kernel) (by decide +kernel)
theorem wd_510 : Cond.methodLink RX5 225 yX5_gatherFitting ∈ TT := TTin 510 (by decide +kernel) (by decide +kernel)
theorem wd_512 : Cond.instanceMethod yX5_gatherFitting ∈ TT := TTin 512 (by decide +kernel) (by decide +kernel)
theorem wd_513 : Cond.code yX5_gatherFitting cX5_gatherFitting 3 (some .int) ∈ TT := TTin 513 (by decide +kernel) (by decide +kernel)
theorem wd_514 : Cond.methodLink RX5 280 yX3_allowGuess ∈ TT := TTin 514 (by decide +kernel) (by decide +kernel)
theorem wd_515 : Cond.instanceMethod yX3_allowGuess ∈ TT := TTin 515 (by decide +kernel) (by decide +kernel)
theorem wd_516 : Cond.selects RX3 yX3_allowGuess yX3_allowGuess ∈ TT := TTin 516 (by decide +kernel) (by decide +kernel)
theorem wd_517 : Cond.code yX3_allowGuess cX3_allowGuess 3 (some .boolean) ∈ TT := TTin 517 (by decide +kernel) (by decide +kernel)
theorem nw_518 : Cond.methodLinkNest RX3 33 yX5_at "RoadCobblers" ∈ NW := NWin 518 (by decide +kernel) (by decide +kernel)
theorem nw_519 : Cond.methodLinkNest RX3 37 yX5_reading "RoadCobblers" ∈ NW := NWin 519 (by decide +kernel) (by decide +kernel)
theorem wd_520 : Cond.static yX5_reading ∈ TT := TTin 520 (by decide +kernel) (by decide +kernel)
theorem wd_521 : Cond.code yX5_reading cX5_reading 6 (some .int) ∈ TT := TTin 521 (by decide +kernel) (by decide +kernel)
theorem wd_522 : Cond.methodLink RL 92 yX5_ask ∈ TT := TTin 522 (by decide +kernel) (by decide +kernel)
theorem wd_523 : Cond.instanceMethod yX5_ask ∈ TT := TTin 523 (by decide +kernel) (by decide +kernel)
theorem wd_524 : Cond.selects RX5 yX5_ask yX5_ask ∈ TT := TTin 524 (by decide +kernel) (by decide +kernel)
theorem wd_525 : Cond.code yX5_ask cX5_ask 8 (some .int) ∈ TT := TTin 525 (by decide +kernel) (by decide +kernel)
theorem wd_526 : Cond.methodLink RX5 228 yX5_mostLeft ∈ TT := TTin 526 (by decide +kernel) (by decide +kernel)
theorem wd_528 : Cond.instanceMethod yX5_mostLeft ∈ TT := TTin 528 (by decide +kernel) (by decide +kernel)
theorem wd_529 : Cond.code yX5_mostLeft cX5_mostLeft 8 (some .int) ∈ TT := TTin 529 (by decide +kernel) (by decide +kernel)
theorem wd_530 : Cond.methodLink RX5 283 yX5_reading ∈ TT := TTin 530 (by decide +kernel) (by decide +kernel)
theorem wd_531 : Cond.methodLink RL 96 yX5_tacks ∈ TT := TTin 531 (by decide +kernel) (by decide +kernel)
theorem wd_532 : Cond.instanceMethod yX5_tacks ∈ TT := TTin 532 (by decide +kernel) (by decide +kernel)
theorem wd_533 : Cond.selects RX5 yX5_tacks yX5_tacks ∈ TT := TTin 533 (by decide +kernel) (by decide +kernel)
theorem wd_534 : Cond.code yX5_tacks cX5_tacks 5 (some .int) ∈ TT := TTin 534 (by decide +kernel) (by decide +kernel)
theorem wd_535 : Cond.methodLink RX5 231 yX5_winningTake ∈ TT := TTin 535 (by decide +kernel) (by decide +kernel)
theorem wd_537 : Cond.instanceMethod yX5_winningTake ∈ TT := TTin 537 (by decide +kernel) (by decide +kernel)
theorem wd_538 : Cond.code yX5_winningTake cX5_winningTake 4 (some .int) ∈ TT := TTin 538 (by decide +kernel) (by decide +kernel)
theorem wd_539 : Cond.methodLink RL 100 yX5_wet ∈ TT := TTin 539 (by decide +kernel) (by decide +kernel)
theorem wd_540 : Cond.instanceMethod yX5_wet ∈ TT := TTin 540 (by decide +kernel) (by decide +kernel)
theorem wd_541 : Cond.selects RX5 yX5_wet yX5_wet ∈ TT := TTin 541 (by decide +kernel) (by decide +kernel)
theorem wd_542 : Cond.code yX5_wet cX5_wet 9 (some .long) ∈ TT := TTin 542 (by decide +kernel) (by decide +kernel)
theorem wd_543 : Cond.methodLink RX5 240 yX5_fillChances ∈ TT := TTin 543 (by decide +kernel) (by decide +kernel)
theorem wd_545 : Cond.instanceMethod yX5_fillChances ∈ TT := TTin 545 (by decide +kernel) (by decide +kernel)
theorem wd_546 : Cond.code yX5_fillChances cX5_fillChances 7 none ∈ TT := TTin 546 (by decide +kernel) (by decide +kernel)
theorem wd_547 : Cond.methodLink RX5 286 yJ7_fill_d0a16 ∈ TT := TTin 547 (by decide +kernel) (by decide +kernel)
theorem wd_548 : Cond.static yJ7_fill_d0a16 ∈ TT := TTin 548 (by decide +kernel) (by decide +kernel)
theorem wd_549 : Cond.code yJ7_fill_d0a16 cJ7_fill_d0a16 5 none ∈ TT := TTin 549 (by decide +kernel) (by decide +kernel)
theorem wd_550 : Cond.methodLink RL 105 yX5_year ∈ TT := TTin 550 (by decide +kernel) (by decide +kernel)
theorem wd_551 : Cond.instanceMethod yX5_year ∈ TT := TTin 551 (by decide +kernel) (by decide +kernel)
theorem wd_552 : Cond.selects RX5 yX5_year yX5_year ∈ TT := TTin 552 (by decide +kernel) (by decide +kernel)
theorem wd_553 : Cond.code yX5_year cX5_year 4 (some .int) ∈ TT := TTin 553 (by decide +kernel) (by decide +kernel)
theorem wd_554 : Cond.methodLink RX5 243 yX4_followDraws ∈ TT := TTin 554 (by decide +kernel) (by decide +kernel)
theorem wd_555 : Cond.instanceMethod yX4_followDraws ∈ TT := TTin 555 (by decide +kernel) (by decide +kernel)
theorem wd_556 : Cond.selects RX4 yX4_followDraws yX4_followDraws ∈ TT := TTin 556 (by decide +kernel) (by decide +kernel)
theorem wd_557 : Cond.code yX4_followDraws cX4_followDraws 6 none ∈ TT := TTin 557 (by decide +kernel) (by decide +kernel)
theorem wd_558 : Cond.constant RX4 78 (65537) ∈ TT := TTin 558 (by decide +kernel) (by decide +kernel)
theorem wd_559 : Cond.methodLink RX4 79 yX4_takeDrawn ∈ TT := TTin 559 (by decide +kernel) (by decide +kernel)
theorem wd_561 : Cond.instanceMethod yX4_takeDrawn ∈ TT := TTin 561 (by decide +kernel) (by decide +kernel)
theorem wd_562 : Cond.code yX4_takeDrawn cX4_takeDrawn 5 none ∈ TT := TTin 562 (by decide +kernel) (by decide +kernel)
theorem wd_563 : Cond.methodLink RX5 247 yX2_countOpen ∈ TT := TTin 563 (by decide +kernel) (by decide +kernel)
theorem wd_564 : Cond.instanceMethod yX2_countOpen ∈ TT := TTin 564 (by decide +kernel) (by decide +kernel)
theorem wd_565 : Cond.selects RX2 yX2_countOpen yX2_countOpen ∈ TT := TTin 565 (by decide +kernel) (by decide +kernel)
theorem wd_566 : Cond.code yX2_countOpen cX2_countOpen 3 (some .int) ∈ TT := TTin 566 (by decide +kernel) (by decide +kernel)
theorem wd_567 : Cond.methodLink RX2 65 yJ6_bitCount_0f7a4 ∈ TT := TTin 567 (by decide +kernel) (by decide +kernel)
theorem wd_568 : Cond.methodLink RL 109 yX5_image ∈ TT := TTin 568 (by decide +kernel) (by decide +kernel)
theorem wd_569 : Cond.instanceMethod yX5_image ∈ TT := TTin 569 (by decide +kernel) (by decide +kernel)
theorem wd_570 : Cond.selects RX5 yX5_image yX5_image ∈ TT := TTin 570 (by decide +kernel) (by decide +kernel)
theorem wd_571 : Cond.code yX5_image cX5_image 3 (some .int) ∈ TT := TTin 571 (by decide +kernel) (by decide +kernel)
theorem wd_572 : Cond.methodLink RX5 252 yX3_copyFrom ∈ TT := TTin 572 (by decide +kernel) (by decide +kernel)
theorem wd_573 : Cond.instanceMethod yX3_copyFrom ∈ TT := TTin 573 (by decide +kernel) (by decide +kernel)
theorem wd_574 : Cond.selects RX3 yX3_copyFrom yX3_copyFrom ∈ TT := TTin 574 (by decide +kernel) (by decide +kernel)
theorem wd_575 : Cond.code yX3_copyFrom cX3_copyFrom 2 none ∈ TT := TTin 575 (by decide +kernel) (by decide +kernel)
theorem nw_576 : Cond.methodLinkNest RX3 25 yX5_copy "RoadCobblers" ∈ NW := NWin 576 (by decide +kernel) (by decide +kernel)
theorem wd_577 : Cond.methodLink RL 113 yX5_restore ∈ TT := TTin 577 (by decide +kernel) (by decide +kernel)
theorem wd_578 : Cond.instanceMethod yX5_restore ∈ TT := TTin 578 (by decide +kernel) (by decide +kernel)
theorem wd_579 : Cond.selects RX5 yX5_restore yX5_restore ∈ TT := TTin 579 (by decide +kernel) (by decide +kernel)
theorem wd_580 : Cond.code yX5_restore cX5_restore 3 (some .int) ∈ TT := TTin 580 (by decide +kernel) (by decide +kernel)
theorem wd_581 : Cond.methodLink RL 117 yX5_told ∈ TT := TTin 581 (by decide +kernel) (by decide +kernel)
theorem wd_582 : Cond.instanceMethod yX5_told ∈ TT := TTin 582 (by decide +kernel) (by decide +kernel)
theorem wd_583 : Cond.selects RX5 yX5_told yX5_told ∈ TT := TTin 583 (by decide +kernel) (by decide +kernel)
theorem wd_584 : Cond.code yX5_told cX5_told 4 (some .int) ∈ TT := TTin 584 (by decide +kernel) (by decide +kernel)
theorem wd_585 : Cond.classLink RL 10 RX6 ∈ TT := TTin 585 (by decide +kernel) (by decide +kernel)
theorem wd_586 : Cond.instantiable RX6 20 ∈ TT := TTin 586 (by decide +kernel) (by decide +kernel)
theorem wd_587 : Cond.methodLink RL 12 yX6_init ∈ TT := TTin 587 (by decide +kernel) (by decide +kernel)
theorem wd_588 : Cond.instanceMethod yX6_init ∈ TT := TTin 588 (by decide +kernel) (by decide +kernel)
theorem wd_589 : Cond.code yX6_init cX6_init 2 none ∈ TT := TTin 589 (by decide +kernel) (by decide +kernel)
theorem wd_590 : Cond.methodLink RX6 1 objectInit ∈ TT := TTin 590 (by decide +kernel) (by decide +kernel)
theorem wd_591 : Cond.fieldLink RX6 7 "RoadCobblersModel" "book" "[I" ∈ TT := TTin 591 (by decide +kernel) (by decide +kernel)
theorem wd_592 : Cond.fieldLink RX6 13 "RoadCobblersModel" "now" "[I" ∈ TT := TTin 592 (by decide +kernel) (by decide +kernel)
theorem wd_593 : Cond.fieldLink RX6 55 "RoadCobblersModel" "there" "I" ∈ TT := TTin 593 (by decide +kernel) (by decide +kernel)
theorem wd_594 : Cond.fieldLink RX6 153 "RoadCobblersModel" "sights" "I" ∈ TT := TTin 594 (by decide +kernel) (by decide +kernel)
theorem wd_595 : Cond.fieldLink RX6 16 "RoadCobblersModel" "sight" "[I" ∈ TT := TTin 595 (by decide +kernel) (by decide +kernel)
theorem wd_596 : Cond.fieldLink RX6 78 "RoadCobblersModel" "signs" "I" ∈ TT := TTin 596 (by decide +kernel) (by decide +kernel)
theorem wd_597 : Cond.fieldLink RX6 19 "RoadCobblersModel" "pad" "[I" ∈ TT := TTin 597 (by decide +kernel) (by decide +kernel)
theorem wd_598 : Cond.fieldLink RX6 84 "RoadCobblersModel" "wornAt" "I" ∈ TT := TTin 598 (by decide +kernel) (by decide +kernel)
theorem wd_599 : Cond.fieldLink RX6 87 "RoadCobblersModel" "wornRoad" "I" ∈ TT := TTin 599 (by decide +kernel) (by decide +kernel)
theorem wd_600 : Cond.fieldLink RX6 113 "RoadCobblersModel" "reason" "I" ∈ TT := TTin 600 (by decide +kernel) (by decide +kernel)
theorem wd_601 : Cond.fieldLink RX6 107 "RoadCobblersModel" "acts" "I" ∈ TT := TTin 601 (by decide +kernel) (by decide +kernel)
theorem wd_602 : Cond.fieldLink RX6 22 "RoadCobblersModel" "cost" "[I" ∈ TT := TTin 602 (by decide +kernel) (by decide +kernel)
theorem wd_603 : Cond.fieldLink RX6 25 "RoadCobblersModel" "digits" "[I" ∈ TT := TTin 603 (by decide +kernel) (by decide +kernel)
theorem wd_604 : Cond.fieldLink RX6 28 "RoadCobblersModel" "hands" "[I" ∈ TT := TTin 604 (by decide +kernel) (by decide +kernel)
theorem wd_605 : Cond.fieldLink RX6 31 "RoadCobblersModel" "counts" "[I" ∈ TT := TTin 605 (by decide +kernel) (by decide +kernel)
theorem wd_606 : Cond.fieldLink RX6 34 "RoadCobblersModel" "fitting" "[I" ∈ TT := TTin 606 (by decide +kernel) (by decide +kernel)
theorem wd_607 : Cond.fieldLink RX6 37 "RoadCobblersModel" "wins" "[Z" ∈ TT := TTin 607 (by decide +kernel) (by decide +kernel)
theorem wd_608 : Cond.fieldLink RX6 41 "RoadCobblersModel" "ways" "[J" ∈ TT := TTin 608 (by decide +kernel) (by decide +kernel)
theorem wd_609 : Cond.fieldLink RX6 45 "RoadCobblersModel" "image" "[I" ∈ TT := TTin 609 (by decide +kernel) (by decide +kernel)
theorem wd_610 : Cond.fieldLink RX6 48 "RoadCobblersModel" "isKept" "[Z" ∈ TT := TTin 610 (by decide +kernel) (by decide +kernel)
theorem wd_652 : Cond.arrayClass .boolean ∈ TT := TTin 652 (by decide +kernel) (by decide +kernel)
theorem wd_653 : Cond.methodLink RL 17 yX6_road ∈ TT := TTin 653 (by decide +kernel) (by decide +kernel)
theorem wd_654 : Cond.instanceMethod yX6_road ∈ TT := TTin 654 (by decide +kernel) (by decide +kernel)
theorem wd_655 : Cond.selects RX6 yX6_road yX6_road ∈ TT := TTin 655 (by decide +kernel) (by decide +kernel)
theorem wd_656 : Cond.code yX6_road cX6_road 4 (some .int) ∈ TT := TTin 656 (by decide +kernel) (by decide +kernel)
theorem wd_657 : Cond.methodLink RX6 63 yX6_isPlace ∈ TT := TTin 657 (by decide +kernel) (by decide +kernel)
theorem wd_658 : Cond.static yX6_isPlace ∈ TT := TTin 658 (by decide +kernel) (by decide +kernel)
theorem wd_659 : Cond.code yX6_isPlace cX6_isPlace 1 (some .boolean) ∈ TT := TTin 659 (by decide +kernel) (by decide +kernel)
theorem wd_660 : Cond.methodLink RX6 51 yX6_in ∈ TT := TTin 660 (by decide +kernel) (by decide +kernel)
theorem wd_661 : Cond.static yX6_in ∈ TT := TTin 661 (by decide +kernel) (by decide +kernel)
theorem wd_662 : Cond.code yX6_in cX6_in 3 (some .boolean) ∈ TT := TTin 662 (by decide +kernel) (by decide +kernel)
theorem wd_663 : Cond.methodLink RX6 67 yX6_asNow ∈ TT := TTin 663 (by decide +kernel) (by decide +kernel)
theorem wd_665 : Cond.instanceMethod yX6_asNow ∈ TT := TTin 665 (by decide +kernel) (by decide +kernel)
theorem wd_666 : Cond.code yX6_asNow cX6_asNow 2 none ∈ TT := TTin 666 (by decide +kernel) (by decide +kernel)
theorem wd_667 : Cond.methodLink RX6 70 yX6_roadsOf ∈ TT := TTin 667 (by decide +kernel) (by decide +kernel)
theorem wd_669 : Cond.instanceMethod yX6_roadsOf ∈ TT := TTin 669 (by decide +kernel) (by decide +kernel)
theorem wd_670 : Cond.code yX6_roadsOf cX6_roadsOf 3 (some .int) ∈ TT := TTin 670 (by decide +kernel) (by decide +kernel)
theorem wd_671 : Cond.methodLink RL 22 yX6_walker ∈ TT := TTin 671 (by decide +kernel) (by decide +kernel)
theorem wd_672 : Cond.instanceMethod yX6_walker ∈ TT := TTin 672 (by decide +kernel) (by decide +kernel)
theorem wd_673 : Cond.selects RX6 yX6_walker yX6_walker ∈ TT := TTin 673 (by decide +kernel) (by decide +kernel)
theorem wd_674 : Cond.code yX6_walker cX6_walker 4 (some .int) ∈ TT := TTin 674 (by decide +kernel) (by decide +kernel)
theorem wd_675 : Cond.methodLink RX6 74 yX6_bits ∈ TT := TTin 675 (by decide +kernel) (by decide +kernel)
theorem wd_676 : Cond.static yX6_bits ∈ TT := TTin 676 (by decide +kernel) (by decide +kernel)
theorem wd_677 : Cond.code yX6_bits cX6_bits 3 (some .int) ∈ TT := TTin 677 (by decide +kernel) (by decide +kernel)
theorem wd_678 : Cond.methodLink RL 27 yX6_say ∈ TT := TTin 678 (by decide +kernel) (by decide +kernel)
theorem wd_679 : Cond.instanceMethod yX6_say ∈ TT := TTin 679 (by decide +kernel) (by decide +kernel)
theorem wd_680 : Cond.selects RX6 yX6_say yX6_say ∈ TT := TTin 680 (by decide +kernel) (by decide +kernel)
theorem wd_681 : Cond.code yX6_say cX6_say 2 (some .int) ∈ TT := TTin 681 (by decide +kernel) (by decide +kernel)
theorem wd_682 : Cond.methodLink RL 32 yX6_wipe ∈ TT := TTin 682 (by decide +kernel) (by decide +kernel)
theorem wd_683 : Cond.instanceMethod yX6_wipe ∈ TT := TTin 683 (by decide +kernel) (by decide +kernel)
theorem wd_684 : Cond.selects RX6 yX6_wipe yX6_wipe ∈ TT := TTin 684 (by decide +kernel) (by decide +kernel)
theorem wd_685 : Cond.code yX6_wipe cX6_wipe 2 (some .int) ∈ TT := TTin 685 (by decide +kernel) (by decide +kernel)
theorem wd_686 : Cond.methodLink RL 36 yX6_fault ∈ TT := TTin 686 (by decide +kernel) (by decide +kernel)
theorem wd_687 : Cond.instanceMethod yX6_fault ∈ TT := TTin 687 (by decide +kernel) (by decide +kernel)
theorem wd_688 : Cond.selects RX6 yX6_fault yX6_fault ∈ TT := TTin 688 (by decide +kernel) (by decide +kernel)
theorem wd_689 : Cond.code yX6_fault cX6_fault 1 (some .int) ∈ TT := TTin 689 (by decide +kernel) (by decide +kernel)
theorem wd_690 : Cond.methodLink RX6 81 yX6_faultOf ∈ TT := TTin 690 (by decide +kernel) (by decide +kernel)
theorem wd_692 : Cond.instanceMethod yX6_faultOf ∈ TT := TTin 692 (by decide +kernel) (by decide +kernel)
theorem wd_693 : Cond.code yX6_faultOf cX6_faultOf 5 (some .int) ∈ TT := TTin 693 (by decide +kernel) (by decide +kernel)
theorem wd_694 : Cond.methodLink RL 40 yX6_judge ∈ TT := TTin 694 (by decide +kernel) (by decide +kernel)
theorem wd_695 : Cond.instanceMethod yX6_judge ∈ TT := TTin 695 (by decide +kernel) (by decide +kernel)
theorem wd_696 : Cond.selects RX6 yX6_judge yX6_judge ∈ TT := TTin 696 (by decide +kernel) (by decide +kernel)
theorem wd_697 : Cond.code yX6_judge cX6_judge 3 (some .int) ∈ TT := TTin 697 (by decide +kernel) (by decide +kernel)
theorem wd_698 : Cond.methodLink RX6 129 yX6_goDays ∈ TT := TTin 698 (by decide +kernel) (by decide +kernel)
theorem wd_700 : Cond.instanceMethod yX6_goDays ∈ TT := TTin 700 (by decide +kernel) (by decide +kernel)
theorem wd_701 : Cond.code yX6_goDays cX6_goDays 7 (some .int) ∈ TT := TTin 701 (by decide +kernel) (by decide +kernel)
theorem wd_702 : Cond.methodLink RX6 110 yX6_endDay ∈ TT := TTin 702 (by decide +kernel) (by decide +kernel)
theorem wd_704 : Cond.instanceMethod yX6_endDay ∈ TT := TTin 704 (by decide +kernel) (by decide +kernel)
theorem wd_705 : Cond.code yX6_endDay cX6_endDay 2 (some .int) ∈ TT := TTin 705 (by decide +kernel) (by decide +kernel)
theorem wd_706 : Cond.methodLink RX6 116 yX6_bring ∈ TT := TTin 706 (by decide +kernel) (by decide +kernel)
theorem wd_708 : Cond.instanceMethod yX6_bring ∈ TT := TTin 708 (by decide +kernel) (by decide +kernel)
theorem wd_709 : Cond.code yX6_bring cX6_bring 4 (some .int) ∈ TT := TTin 709 (by decide +kernel) (by decide +kernel)
theorem wd_710 : Cond.methodLink RX6 93 yX6_barOf ∈ TT := TTin 710 (by decide +kernel) (by decide +kernel)
theorem wd_712 : Cond.instanceMethod yX6_barOf ∈ TT := TTin 712 (by decide +kernel) (by decide +kernel)
theorem wd_713 : Cond.code yX6_barOf cX6_barOf 4 (some .int) ∈ TT := TTin 713 (by decide +kernel) (by decide +kernel)
theorem wd_714 : Cond.methodLink RX6 97 yX6_lay ∈ TT := TTin 714 (by decide +kernel) (by decide +kernel)
theorem wd_716 : Cond.instanceMethod yX6_lay ∈ TT := TTin 716 (by decide +kernel) (by decide +kernel)
theorem wd_717 : Cond.code yX6_lay cX6_lay 4 none ∈ TT := TTin 717 (by decide +kernel) (by decide +kernel)
theorem wd_718 : Cond.methodLink RX6 119 yX6_patch ∈ TT := TTin 718 (by decide +kernel) (by decide +kernel)
theorem wd_720 : Cond.instanceMethod yX6_patch ∈ TT := TTin 720 (by decide +kernel) (by decide +kernel)
theorem wd_721 : Cond.code yX6_patch cX6_patch 7 (some .int) ∈ TT := TTin 721 (by decide +kernel) (by decide +kernel)
theorem wd_722 : Cond.methodLink RX6 123 yX6_walk ∈ TT := TTin 722 (by decide +kernel) (by decide +kernel)
theorem wd_724 : Cond.instanceMethod yX6_walk ∈ TT := TTin 724 (by decide +kernel) (by decide +kernel)
theorem wd_725 : Cond.code yX6_walk cX6_walk 6 (some .int) ∈ TT := TTin 725 (by decide +kernel) (by decide +kernel)
theorem wd_726 : Cond.methodLink RX6 90 yX6_isThere ∈ TT := TTin 726 (by decide +kernel) (by decide +kernel)
theorem wd_728 : Cond.instanceMethod yX6_isThere ∈ TT := TTin 728 (by decide +kernel) (by decide +kernel)
theorem wd_729 : Cond.code yX6_isThere cX6_isThere 2 (some .boolean) ∈ TT := TTin 729 (by decide +kernel) (by decide +kernel)
theorem wd_730 : Cond.methodLink RX6 59 yX6_has ∈ TT := TTin 730 (by decide +kernel) (by decide +kernel)
theorem wd_731 : Cond.static yX6_has ∈ TT := TTin 731 (by decide +kernel) (by decide +kernel)
theorem wd_732 : Cond.code yX6_has cX6_has 2 (some .boolean) ∈ TT := TTin 732 (by decide +kernel) (by decide +kernel)
theorem wd_733 : Cond.methodLink RX6 126 yX6_shoe ∈ TT := TTin 733 (by decide +kernel) (by decide +kernel)
theorem wd_735 : Cond.instanceMethod yX6_shoe ∈ TT := TTin 735 (by decide +kernel) (by decide +kernel)
theorem wd_736 : Cond.code yX6_shoe cX6_shoe 2 (some .int) ∈ TT := TTin 736 (by decide +kernel) (by decide +kernel)
theorem wd_737 : Cond.methodLink RL 44 yX6_done ∈ TT := TTin 737 (by decide +kernel) (by decide +kernel)
theorem wd_738 : Cond.instanceMethod yX6_done ∈ TT := TTin 738 (by decide +kernel) (by decide +kernel)
theorem wd_739 : Cond.selects RX6 yX6_done yX6_done ∈ TT := TTin 739 (by decide +kernel) (by decide +kernel)
theorem wd_740 : Cond.code yX6_done cX6_done 2 (some .int) ∈ TT := TTin 740 (by decide +kernel) (by decide +kernel)
theorem wd_741 : Cond.methodLink RX6 132 yX6_barOfDays ∈ TT := TTin 741 (by decide +kernel) (by decide +kernel)
theorem wd_743 : Cond.instanceMethod yX6_barOfDays ∈ TT := TTin 743 (by decide +kernel) (by decide +kernel)
theorem wd_744 : Cond.code yX6_barOfDays cX6_barOfDays 1 (some .int) ∈ TT := TTin 744 (by decide +kernel) (by decide +kernel)
theorem wd_745 : Cond.methodLink RL 49 yX6_behind ∈ TT := TTin 745 (by decide +kernel) (by decide +kernel)
theorem wd_746 : Cond.instanceMethod yX6_behind ∈ TT := TTin 746 (by decide +kernel) (by decide +kernel)
theorem wd_747 : Cond.selects RX6 yX6_behind yX6_behind ∈ TT := TTin 747 (by decide +kernel) (by decide +kernel)
theorem wd_748 : Cond.code yX6_behind cX6_behind 3 (some .int) ∈ TT := TTin 748 (by decide +kernel) (by decide +kernel)
theorem wd_749 : Cond.methodLink RL 53 yX6_goes ∈ TT := TTin 749 (by decide +kernel) (by decide +kernel)
theorem wd_750 : Cond.instanceMethod yX6_goes ∈ TT := TTin 750 (by decide +kernel) (by decide +kernel)
theorem wd_751 : Cond.selects RX6 yX6_goes yX6_goes ∈ TT := TTin 751 (by decide +kernel) (by decide +kernel)
theorem wd_752 : Cond.code yX6_goes cX6_goes 3 (some .int) ∈ TT := TTin 752 (by decide +kernel) (by decide +kernel)
theorem wd_753 : Cond.methodLink RL 57 yX6_then ∈ TT := TTin 753 (by decide +kernel) (by decide +kernel)
theorem wd_754 : Cond.instanceMethod yX6_then ∈ TT := TTin 754 (by decide +kernel) (by decide +kernel)
theorem wd_755 : Cond.selects RX6 yX6_then yX6_then ∈ TT := TTin 755 (by decide +kernel) (by decide +kernel)
theorem wd_756 : Cond.code yX6_then cX6_then 2 (some .int) ∈ TT := TTin 756 (by decide +kernel) (by decide +kernel)
theorem wd_757 : Cond.methodLink RX6 135 yX6_wearOf ∈ TT := TTin 757 (by decide +kernel) (by decide +kernel)
theorem wd_759 : Cond.instanceMethod yX6_wearOf ∈ TT := TTin 759 (by decide +kernel) (by decide +kernel)
theorem wd_760 : Cond.code yX6_wearOf cX6_wearOf 3 (some .int) ∈ TT := TTin 760 (by decide +kernel) (by decide +kernel)
theorem wd_761 : Cond.methodLink RX6 138 yX6_shutIn ∈ TT := TTin 761 (by decide +kernel) (by decide +kernel)
theorem wd_763 : Cond.instanceMethod yX6_shutIn ∈ TT := TTin 763 (by decide +kernel) (by decide +kernel)
theorem wd_764 : Cond.code yX6_shutIn cX6_shutIn 3 (some .int) ∈ TT := TTin 764 (by decide +kernel) (by decide +kernel)
theorem wd_765 : Cond.methodLink RX6 104 yX6_openFrom ∈ TT := TTin 765 (by decide +kernel) (by decide +kernel)
theorem wd_767 : Cond.instanceMethod yX6_openFrom ∈ TT := TTin 767 (by decide +kernel) (by decide +kernel)
theorem wd_768 : Cond.code yX6_openFrom cX6_openFrom 4 (some .int) ∈ TT := TTin 768 (by decide +kernel) (by decide +kernel)
theorem wd_769 : Cond.methodLink RX6 101 yX6_isOpen ∈ TT := TTin 769 (by decide +kernel) (by decide +kernel)
theorem wd_771 : Cond.instanceMethod yX6_isOpen ∈ TT := TTin 771 (by decide +kernel) (by decide +kernel)
theorem wd_772 : Cond.code yX6_isOpen cX6_isOpen 3 (some .boolean) ∈ TT := TTin 772 (by decide +kernel) (by decide +kernel)
theorem wd_773 : Cond.methodLink RL 61 yX6_way ∈ TT := TTin 773 (by decide +kernel) (by decide +kernel)
theorem wd_774 : Cond.instanceMethod yX6_way ∈ TT := TTin 774 (by decide +kernel) (by decide +kernel)
theorem wd_775 : Cond.selects RX6 yX6_way yX6_way ∈ TT := TTin 775 (by decide +kernel) (by decide +kernel)
theorem wd_776 : Cond.code yX6_way cX6_way 8 (some .int) ∈ TT := TTin 776 (by decide +kernel) (by decide +kernel)
theorem wd_777 : Cond.constant RX6 141 (1000000) ∈ TT := TTin 777 (by decide +kernel) (by decide +kernel)
theorem wd_778 : Cond.methodLink RL 65 yX6_parts ∈ TT := TTin 778 (by decide +kernel) (by decide +kernel)
theorem wd_779 : Cond.instanceMethod yX6_parts ∈ TT := TTin 779 (by decide +kernel) (by decide +kernel)
theorem wd_780 : Cond.selects RX6 yX6_parts yX6_parts ∈ TT := TTin 780 (by decide +kernel) (by decide +kernel)
theorem wd_781 : Cond.code yX6_parts cX6_parts 9 (some .int) ∈ TT := TTin 781 (by decide +kernel) (by decide +kernel)
theorem wd_782 : Cond.methodLink RX6 142 yX6_partOf ∈ TT := TTin 782 (by decide +kernel) (by decide +kernel)
theorem wd_784 : Cond.instanceMethod yX6_partOf ∈ TT := TTin 784 (by decide +kernel) (by decide +kernel)
theorem wd_785 : Cond.code yX6_partOf cX6_partOf 5 (some .int) ∈ TT := TTin 785 (by decide +kernel) (by decide +kernel)
theorem wd_786 : Cond.methodLink RL 69 yX6_strokes ∈ TT := TTin 786 (by decide +kernel) (by decide +kernel)
theorem wd_787 : Cond.instanceMethod yX6_strokes ∈ TT := TTin 787 (by decide +kernel) (by decide +kernel)
theorem wd_788 : Cond.selects RX6 yX6_strokes yX6_strokes ∈ TT := TTin 788 (by decide +kernel) (by decide +kernel)
theorem wd_789 : Cond.code yX6_strokes cX6_strokes 7 (some .int) ∈ TT := TTin 789 (by decide +kernel) (by decide +kernel)
theorem wd_790 : Cond.methodLink RL 73 yX6_mended ∈ TT := TTin 790 (by decide +kernel) (by decide +kernel)
theorem wd_791 : Cond.instanceMethod yX6_mended ∈ TT := TTin 791 (by decide +kernel) (by decide +kernel)
theorem wd_792 : Cond.selects RX6 yX6_mended yX6_mended ∈ TT := TTin 792 (by decide +kernel) (by decide +kernel)
theorem wd_793 : Cond.code yX6_mended cX6_mended 12 (some .int) ∈ TT := TTin 793 (by decide +kernel) (by decide +kernel)
theorem wd_794 : Cond.methodLink RL 78 yX6_pays ∈ TT := TTin 794 (by decide +kernel) (by decide +kernel)
theorem wd_795 : Cond.instanceMethod yX6_pays ∈ TT := TTin 795 (by decide +kernel) (by decide +kernel)
theorem wd_796 : Cond.selects RX6 yX6_pays yX6_pays ∈ TT := TTin 796 (by decide +kernel) (by decide +kernel)
theorem wd_797 : Cond.code yX6_pays cX6_pays 11 (some .long) ∈ TT := TTin 797 (by decide +kernel) (by decide +kernel)
theorem wd_798 : Cond.constantLong RX6 145 (-1000000000000000002) ∈ TT := TTin 798 (by decide +kernel) (by decide +kernel)
theorem wd_799 : Cond.constantLong RX6 147 (2520) ∈ TT := TTin 799 (by decide +kernel) (by decide +kernel)
theorem wd_800 : Cond.methodLink RX6 149 yX6_lowest ∈ TT := TTin 800 (by decide +kernel) (by decide +kernel)
theorem wd_801 : Cond.static yX6_lowest ∈ TT := TTin 801 (by decide +kernel) (by decide +kernel)
theorem wd_802 : Cond.code yX6_lowest cX6_lowest 11 (some .long) ∈ TT := TTin 802 (by decide +kernel) (by decide +kernel)
theorem wd_803 : Cond.methodLink RL 83 yX6_seen ∈ TT := TTin 803 (by decide +kernel) (by decide +kernel)
theorem wd_804 : Cond.instanceMethod yX6_seen ∈ TT := TTin 804 (by decide +kernel) (by decide +kernel)
theorem wd_805 : Cond.selects RX6 yX6_seen yX6_seen ∈ TT := TTin 805 (by decide +kernel) (by decide +kernel)
theorem wd_806 : Cond.code yX6_seen cX6_seen 4 (some .int) ∈ TT := TTin 806 (by decide +kernel) (by decide +kernel)
theorem wd_807 : Cond.methodLink RL 87 yX6_forget ∈ TT := TTin 807 (by decide +kernel) (by decide +kernel)
theorem wd_808 : Cond.instanceMethod yX6_forget ∈ TT := TTin 808 (by decide +kernel) (by decide +kernel)
theorem wd_809 : Cond.selects RX6 yX6_forget yX6_forget ∈ TT := TTin 809 (by decide +kernel) (by decide +kernel)
theorem wd_810 : Cond.code yX6_forget cX6_forget 2 (some .int) ∈ TT := TTin 810 (by decide +kernel) (by decide +kernel)
theorem wd_811 : Cond.methodLink RL 91 yX6_who ∈ TT := TTin 811 (by decide +kernel) (by decide +kernel)
theorem wd_812 : Cond.instanceMethod yX6_who ∈ TT := TTin 812 (by decide +kernel) (by decide +kernel)
theorem wd_813 : Cond.selects RX6 yX6_who yX6_who ∈ TT := TTin 813 (by decide +kernel) (by decide +kernel)
theorem wd_814 : Cond.code yX6_who cX6_who 4 (some .int) ∈ TT := TTin 814 (by decide +kernel) (by decide +kernel)
theorem wd_815 : Cond.methodLink RX6 160 yX6_isFit ∈ TT := TTin 815 (by decide +kernel) (by decide +kernel)
theorem wd_817 : Cond.instanceMethod yX6_isFit ∈ TT := TTin 817 (by decide +kernel) (by decide +kernel)
theorem wd_818 : Cond.code yX6_isFit cX6_isFit 4 (some .boolean) ∈ TT := TTin 818 (by decide +kernel) (by decide +kernel)
theorem wd_819 : Cond.methodLink RX6 156 yX6_tellOf ∈ TT := TTin 819 (by decide +kernel) (by decide +kernel)
theorem wd_820 : Cond.static yX6_tellOf ∈ TT := TTin 820 (by decide +kernel) (by decide +kernel)
theorem wd_821 : Cond.code yX6_tellOf cX6_tellOf 5 (some .int) ∈ TT := TTin 821 (by decide +kernel) (by decide +kernel)
theorem wd_822 : Cond.methodLink RL 95 yX6_ask ∈ TT := TTin 822 (by decide +kernel) (by decide +kernel)
theorem wd_823 : Cond.instanceMethod yX6_ask ∈ TT := TTin 823 (by decide +kernel) (by decide +kernel)
theorem wd_824 : Cond.selects RX6 yX6_ask yX6_ask ∈ TT := TTin 824 (by decide +kernel) (by decide +kernel)
theorem wd_825 : Cond.code yX6_ask cX6_ask 9 (some .int) ∈ TT := TTin 825 (by decide +kernel) (by decide +kernel)
theorem wd_826 : Cond.methodLink RL 99 yX6_tacks ∈ TT := TTin 826 (by decide +kernel) (by decide +kernel)
theorem wd_827 : Cond.instanceMethod yX6_tacks ∈ TT := TTin 827 (by decide +kernel) (by decide +kernel)
theorem wd_828 : Cond.selects RX6 yX6_tacks yX6_tacks ∈ TT := TTin 828 (by decide +kernel) (by decide +kernel)
theorem wd_829 : Cond.code yX6_tacks cX6_tacks 7 (some .int) ∈ TT := TTin 829 (by decide +kernel) (by decide +kernel)
theorem wd_830 : Cond.methodLink RL 104 yX6_wet ∈ TT := TTin 830 (by decide +kernel) (by decide +kernel)
theorem wd_831 : Cond.instanceMethod yX6_wet ∈ TT := TTin 831 (by decide +kernel) (by decide +kernel)
theorem wd_832 : Cond.selects RX6 yX6_wet yX6_wet ∈ TT := TTin 832 (by decide +kernel) (by decide +kernel)
theorem wd_833 : Cond.code yX6_wet cX6_wet 11 (some .long) ∈ TT := TTin 833 (by decide +kernel) (by decide +kernel)
theorem wd_834 : Cond.constantLong RX6 163 (10) ∈ TT := TTin 834 (by decide +kernel) (by decide +kernel)
theorem wd_835 : Cond.methodLink RL 108 yX6_year ∈ TT := TTin 835 (by decide +kernel) (by decide +kernel)
theorem wd_836 : Cond.instanceMethod yX6_year ∈ TT := TTin 836 (by decide +kernel) (by decide +kernel)
theorem wd_837 : Cond.selects RX6 yX6_year yX6_year ∈ TT := TTin 837 (by decide +kernel) (by decide +kernel)
theorem wd_838 : Cond.code yX6_year cX6_year 8 (some .int) ∈ TT := TTin 838 (by decide +kernel) (by decide +kernel)
theorem wd_839 : Cond.constant RX6 165 (65537) ∈ TT := TTin 839 (by decide +kernel) (by decide +kernel)
theorem wd_840 : Cond.methodLink RL 112 yX6_image ∈ TT := TTin 840 (by decide +kernel) (by decide +kernel)
theorem wd_841 : Cond.instanceMethod yX6_image ∈ TT := TTin 841 (by decide +kernel) (by decide +kernel)
theorem wd_842 : Cond.selects RX6 yX6_image yX6_image ∈ TT := TTin 842 (by decide +kernel) (by decide +kernel)
theorem wd_843 : Cond.code yX6_image cX6_image 4 (some .int) ∈ TT := TTin 843 (by decide +kernel) (by decide +kernel)
theorem wd_844 : Cond.methodLink RL 116 yX6_restore ∈ TT := TTin 844 (by decide +kernel) (by decide +kernel)
theorem wd_845 : Cond.instanceMethod yX6_restore ∈ TT := TTin 845 (by decide +kernel) (by decide +kernel)
theorem wd_846 : Cond.selects RX6 yX6_restore yX6_restore ∈ TT := TTin 846 (by decide +kernel) (by decide +kernel)
theorem wd_847 : Cond.code yX6_restore cX6_restore 4 (some .int) ∈ TT := TTin 847 (by decide +kernel) (by decide +kernel)
theorem wd_848 : Cond.methodLink RL 120 yX6_told ∈ TT := TTin 848 (by decide +kernel) (by decide +kernel)
theorem wd_849 : Cond.instanceMethod yX6_told ∈ TT := TTin 849 (by decide +kernel) (by decide +kernel)
theorem wd_850 : Cond.selects RX6 yX6_told yX6_told ∈ TT := TTin 850 (by decide +kernel) (by decide +kernel)
theorem wd_851 : Cond.code yX6_told cX6_told 3 (some .int) ∈ TT := TTin 851 (by decide +kernel) (by decide +kernel)
end
section
/-! THE CORE: a world as a function of a plain heap (ints and longs by a cell's number and a place), the judgement J over it, a row an instruction. -/
/-- a plain heap: ints (fields and arrays) by cell and place, longs by cell and place -/
abbrev Hp : Type := (Nat → Nat → Int32) × (Nat → Nat → Int64)
def ip (h : Hp) (r j : Nat) (v : Int32) : Hp := (fun a => if a = r then upd (h.1 r) j v else h.1 a, h.2)
def lp (h : Hp) (r j : Nat) (v : Int64) : Hp := (h.1, fun a => if a = r then vp_updL (h.2 r) j v else h.2 a)
/-- addresses, class numbers and slots, the three array classes -/
abbrev Om : Type := (Nat → Nat) × va_G × ClassId × ClassId × ClassId
def tyO (o : Om) : List (ClassId × FieldType) := [(o.2.2.1, .int), (o.2.2.2.1, .long), (o.2.2.2.2, .boolean)]
/-- an int array: cell r, n places -/
def EI (o : Om) (emb : Hp → va_W) (r n : Nat) : Prop := ∃ q : Nat, ∀ h : Hp, (emb h)[q]? = some (o.1 r, .inl (o.2.2.1, n, .inl (h.1 r))) ∧ ∀ (j : Nat) (x : Int32), (emb h).set q (o.1 r, .inl (o.2.2.1, n, .inl (upd (h.1 r) j x))) = emb (ip h r j x)
def EZ (o : Om) (emb : Hp → va_W) (r n : Nat) : Prop := ∃ q : Nat, ∀ h : Hp, (emb h)[q]? = some (o.1 r, .inl (o.2.2.2.2, n, .inl (h.1 r))) ∧ ∀ (j : Nat) (x : Int32), (emb h).set q (o.1 r, .inl (o.2.2.2.2, n, .inl (upd (h.1 r) j x))) = emb (ip h r j x)
def EL (o : Om) (emb : Hp → va_W) (r n : Nat) : Prop := ∃ q : Nat, ∀ h : Hp, (emb h)[q]? = some (o.1 r, .inl (o.2.2.2.1, n, .inr (.inl (h.2 r)))) ∧ ∀ (j : Nat) (x : Int64), (emb h).set q (o.1 r, .inl (o.2.2.2.1, n, .inr (.inl (vp_updL (h.2 r) j x)))) = emb (lp h r j x)
/-- an object: cell r of class ci, its fields, those of them that are written -/
def EO (o : Om) (emb : Hp → va_W) (r ci : Nat) (fs : Hp → List Value) (wk : List Nat) : Prop := ∃ q : Nat, ∀ h : Hp, (emb h)[q]? = some (o.1 r, .inr (ci, fs h)) ∧ ∀ k ∈ wk, ∀ x : Int32, (emb h).set q (o.1 r, .inr (ci, (fs h).set k (.int x))) = emb (ip h r k x)
/-- what holds at the entry of a method all along its body -/
def Cx (p : Program) (s : State) (m : MethodId) (args : Array Value) (meth : Method) (c : Code) (own : String) (cc : ByteArray) (nL : Nat) (rt : Option FieldType) (o : Om) : Prop :=
  p.tables.exec = Jvm.exec ∧ c.code = cc ∧ c.maxLocals = nL ∧ s.vm.findClass own = some m.cls ∧ (∀ w ∈ TT, w.before args s = true) ∧ va_K o.2.1 vwCl (tyO o) s ∧ (∀ w ∈ NW, va_Nw w s) ∧ meth.sig.returnType = rt ∧ meth.locks = false
def Mem (o : Om) (emb : Hp → va_W) (A : Nat → Prop) (H0 : Heap) (h : Hp) (H : Heap) (locs : List Loc) : Prop := va_P o.2.1 vwCl (emb h) H ∧ va_S A H0 H locs ∧ ∀ h : Hp, va_D A (emb h)
/-- the machine, at the frame (pc, locals, stack) over the heap h, comes to a state with Z -/
def J (p : Program) (l : Launch) (e : Env) (R : Room) (s : State) (m : MethodId) (args : Array Value) (below : List Frame) (meth : Method) (c : Code) (cells slots : Nat) (Z : State → Prop) (o : Om) (emb : Hp → va_W) (A : Nat → Prop) (H0 : Heap) (nL pc : Nat) (lo : List (Nat × Value)) (st : List Value) (h : Hp) : Prop :=
  ∀ (H : Heap) (locs : List Loc) (ls : Array Slot), Mem o emb A H0 h H locs → lv_has ls nL lo → W p l e R s m args below meth c H locs cells slots Z (F0 m pc ls st)
/-- a method's contract: from the heap h it returns rv over the heap h' -/
def WdPc (o : Om) (emb : Hp → va_W) (h : Hp) (av : List Value) : Array Value → State → Prop := va_Pc av (fun U => va_P o.2.1 vwCl (emb h) U.heap ∧ va_K o.2.1 vwCl (tyO o) U ∧ ∀ w ∈ NW, va_Nw w U)
def WdQ (o : Om) (emb : Hp → va_W) (A : Nat → Prop) (rv : Option Value) (h' : Hp) : Array Value → State → Outcome → State → Prop := fun _ st oc t => (oc = .returned rv ∧ va_P o.2.1 vwCl (emb h') t.heap) ∧ va_F A st t
def rmf (f n : Nat) : Room := { frames := f, cells := 0, slots := 0, locals := n }
def Ct (l : Launch) (o : Om) (emb : Hp → va_W) (A : Nat → Prop) (y : MethodName) (cc : ByteArray) (nL : Nat) (rt : Option FieldType) (f n : Nat) (av : List Value) (h : Hp) (rv : Option Value) (h' : Hp) : Prop :=
  Met l y (.code y cc nL rt :: TT) (rmf f n) (WdPc o emb h av) (WdQ o emb A rv h') 0 0 A
theorem nest_on : ∀ w ∈ NW, w.onTables = true := by decide +kernel
theorem nw_moved {u U : State} (h : u.vm = U.vm) (hn : ∀ w ∈ NW, va_Nw w u) : ∀ w ∈ NW, va_Nw w U := fun w hw => va_Nw.same (nest_on w hw) h (hn w hw)
theorem nw_warm {s U : State} (hW : s.WarmedH U.vm) (hn : ∀ w ∈ NW, va_Nw w s) : ∀ w ∈ NW, va_Nw w U := by
  intro w hw
  have h1 := hn w hw
  have h2 := (List.mem_filter.mp hw).2
  cases w <;> first | exact va_Nw.warmF hW h1 | exact va_Nw.warmM hW h1 | (simp [isNest] at h2; done)
theorem wd_blind {o : Om} {emb : Hp → va_W} {h : Hp} {av : List Value} : FrameBlind (WdPc o emb h av) := by
  intro a U g mk hq
  obtain ⟨q0, qP, qK, qN⟩ := hq
  exact ⟨q0, qP, va_K.moved (u := U) (U := U.calling g mk a) (Vm.Alike.refl U.vm) qK, nw_moved (u := U) (U := U.calling g mk a) rfl qN⟩
theorem goodTT {y : MethodName} {cc : ByteArray} {nL : Nat} {rt : Option FieldType} (hc : Cond.code y cc nL rt ∈ TT) : GoodIn TT (.code y cc nL rt :: TT) := by
  intro w hw
  rcases List.mem_cons.mp hw with rfl | hw
  · exact ⟨hc, Or.inl rfl⟩
  · exact ⟨hw, TTgood w hw⟩
section CORE
variable {p : Program} {l : Launch} {e : Env} {R : Room} {s : State} {m : MethodId} {args : Array Value} {below : List Frame} {meth : Method} {c : Code} {cells slots : Nat} {Z : State → Prop} {o : Om} {emb : Hp → va_W} {A : Nat → Prop} {H0 : Heap} {nL pc : Nat} {lo : List (Nat × Value)} {st rest : List Value} {h : Hp} {own : String} {cc : ByteArray} {rt : Option FieldType}
theorem J_const (X : Cx p s m args meth c own cc nL rt o) {n : Int} (v : Int32) (hd : decode cc pc = .ok (.iconst n, 1)) (hv : Int32.ofInt n = v) (k : J p l e R s m args below meth c cells slots Z o emb A H0 nL (pc + 1) lo (.int v :: st) h) : J p l e R s m args below meth c cells slots Z o emb A H0 nL pc lo st h :=
  fun H locs ls hm hl => lv_iconst X.1 X.2.1 hd hv (k H locs ls hm hl)
theorem J_bipush (X : Cx p s m args meth c own cc nL rt o) {n : Int} (v : Int32) (hd : decode cc pc = .ok (.bipush n, 2)) (hv : (Int8.ofInt n).toInt32 = v) (k : J p l e R s m args below meth c cells slots Z o emb A H0 nL (pc + 2) lo (.int v :: st) h) : J p l e R s m args below meth c cells slots Z o emb A H0 nL pc lo st h :=
  fun H locs ls hm hl => lv_bipush X.1 X.2.1 hd hv (k H locs ls hm hl)
theorem J_sipush (X : Cx p s m args meth c own cc nL rt o) {n : Int} (v : Int32) (hd : decode cc pc = .ok (.sipush n, 3)) (hv : (Int16.ofInt n).toInt32 = v) (k : J p l e R s m args below meth c cells slots Z o emb A H0 nL (pc + 3) lo (.int v :: st) h) : J p l e R s m args below meth c cells slots Z o emb A H0 nL pc lo st h :=
  fun H locs ls hm hl => lv_sipush X.1 X.2.1 hd hv (k H locs ls hm hl)
theorem J_lconst (X : Cx p s m args meth c own cc nL rt o) {n : Fin 2} (v : Int64) (hd : decode cc pc = .ok (.lconst n, 1)) (hv : Int64.ofNat (n : Nat) = v) (k : J p l e R s m args below meth c cells slots Z o emb A H0 nL (pc + 1) lo (.long v :: st) h) : J p l e R s m args below meth c cells slots Z o emb A H0 nL pc lo st h :=
  fun H locs ls hm hl => lv_lconst X.1 X.2.1 hd hv (k H locs ls hm hl)
theorem J_ldc (X : Cx p s m args meth c own cc nL rt o) {i : Nat} {v : Int32} (hw : Cond.constant own i v ∈ TT) (hd : decode cc pc = .ok (.ldc i, 2)) (k : J p l e R s m args below meth c cells slots Z o emb A H0 nL (pc + 2) lo (.int v :: st) h) : J p l e R s m args below meth c cells slots Z o emb A H0 nL pc lo st h :=
  fun H locs ls hm hl => lv_ldc X.1 X.2.1 X.2.2.2.1 (X.2.2.2.2.1 _ hw) hd (k H locs ls hm hl)
theorem J_ldcw (X : Cx p s m args meth c own cc nL rt o) {i : Nat} {v : Int32} (hw : Cond.constant own i v ∈ TT) (hd : decode cc pc = .ok (.ldc_w i, 3)) (k : J p l e R s m args below meth c cells slots Z o emb A H0 nL (pc + 3) lo (.int v :: st) h) : J p l e R s m args below meth c cells slots Z o emb A H0 nL pc lo st h :=
  fun H locs ls hm hl => lv_ldcw X.1 X.2.1 X.2.2.2.1 (X.2.2.2.2.1 _ hw) hd (k H locs ls hm hl)
theorem J_ldc2 (X : Cx p s m args meth c own cc nL rt o) {i : Nat} {v : Int64} (hw : Cond.constantLong own i v ∈ TT) (hd : decode cc pc = .ok (.ldc2_w i, 3)) (k : J p l e R s m args below meth c cells slots Z o emb A H0 nL (pc + 3) lo (.long v :: st) h) : J p l e R s m args below meth c cells slots Z o emb A H0 nL pc lo st h :=
  fun H locs ls hm hl => lv_ldc2 X.1 X.2.1 X.2.2.2.1 (X.2.2.2.2.1 _ hw) hd (k H locs ls hm hl)
theorem J_iload_n (X : Cx p s m args meth c own cc nL rt o) {n : Fin 4} {i : Nat} {x : Int32} (q : Nat) (hd : decode cc pc = .ok (.iload_n n, 1)) (hn : (n : Nat) = i) (hq : lo[q]? = some (i, .int x)) (k : J p l e R s m args below meth c cells slots Z o emb A H0 nL (pc + 1) lo (.int x :: st) h) : J p l e R s m args below meth c cells slots Z o emb A H0 nL pc lo st h :=
  fun H locs ls hm hl => lv_iload_n X.1 X.2.1 hd hn (lv_at hl q hq) (k H locs ls hm hl)
theorem J_iload (X : Cx p s m args meth c own cc nL rt o) {i : Nat} {x : Int32} (q : Nat) (hd : decode cc pc = .ok (.iload i, 2)) (hq : lo[q]? = some (i, .int x)) (k : J p l e R s m args below meth c cells slots Z o emb A H0 nL (pc + 2) lo (.int x :: st) h) : J p l e R s m args below meth c cells slots Z o emb A H0 nL pc lo st h :=
  fun H locs ls hm hl => lv_iload X.1 X.2.1 hd (lv_at hl q hq) (k H locs ls hm hl)
theorem J_lload_n (X : Cx p s m args meth c own cc nL rt o) {n : Fin 4} {i : Nat} {x : Int64} (q : Nat) (hd : decode cc pc = .ok (.lload_n n, 1)) (hn : (n : Nat) = i) (hq : lo[q]? = some (i, .long x)) (k : J p l e R s m args below meth c cells slots Z o emb A H0 nL (pc + 1) lo (.long x :: st) h) : J p l e R s m args below meth c cells slots Z o emb A H0 nL pc lo st h :=
  fun H locs ls hm hl => lv_lload_n X.1 X.2.1 hd hn (lv_at hl q hq) (k H locs ls hm hl)
theorem J_lload (X : Cx p s m args meth c own cc nL rt o) {i : Nat} {x : Int64} (q : Nat) (hd : decode cc pc = .ok (.lload i, 2)) (hq : lo[q]? = some (i, .long x)) (k : J p l e R s m args below meth c cells slots Z o emb A H0 nL (pc + 2) lo (.long x :: st) h) : J p l e R s m args below meth c cells slots Z o emb A H0 nL pc lo st h :=
  fun H locs ls hm hl => lv_lload X.1 X.2.1 hd (lv_at hl q hq) (k H locs ls hm hl)
theorem J_aload_n (X : Cx p s m args meth c own cc nL rt o) {n : Fin 4} {i : Nat} {x : Nat} (q : Nat) (hd : decode cc pc = .ok (.aload_n n, 1)) (hn : (n : Nat) = i) (hq : lo[q]? = some (i, .ref x)) (k : J p l e R s m args below meth c cells slots Z o emb A H0 nL (pc + 1) lo (.ref x :: st) h) : J p l e R s m args below meth c cells slots Z o emb A H0 nL pc lo st h :=
  fun H locs ls hm hl => lv_aload_n X.1 X.2.1 hd hn (lv_at hl q hq) (k H locs ls hm hl)
theorem J_aload (X : Cx p s m args meth c own cc nL rt o) {i : Nat} {x : Nat} (q : Nat) (hd : decode cc pc = .ok (.aload i, 2)) (hq : lo[q]? = some (i, .ref x)) (k : J p l e R s m args below meth c cells slots Z o emb A H0 nL (pc + 2) lo (.ref x :: st) h) : J p l e R s m args below meth c cells slots Z o emb A H0 nL pc lo st h :=
  fun H locs ls hm hl => lv_aload X.1 X.2.1 hd (lv_at hl q hq) (k H locs ls hm hl)
/-- the locals behind a store of one slot, of two slots -/
def sto1 (i : Nat) (v : Value) (lo : List (Nat × Value)) : List (Nat × Value) := (i, v) :: lo.filter (fun q => !(q.1 == i) && !(q.1 + 1 == i && q.2.category == 2))
def sto2 (i : Nat) (v : Value) (lo : List (Nat × Value)) : List (Nat × Value) := (i, v) :: lo.filter (fun q => !(q.1 == i) && (!(q.1 == i + 1) && !(q.1 + 1 == i && q.2.category == 2)))
theorem J_istore_n (X : Cx p s m args meth c own cc nL rt o) {n : Fin 4} {i : Nat} {x : Int32} (lo' : List (Nat × Value)) (hd : decode cc pc = .ok (.istore_n n, 1)) (hn : (n : Nat) = i) (hi : i < nL) (hl' : sto1 i (.int x) lo = lo') (k : J p l e R s m args below meth c cells slots Z o emb A H0 nL (pc + 1) lo' st h) : J p l e R s m args below meth c cells slots Z o emb A H0 nL pc lo (.int x :: st) h :=
  fun H locs _ hm hl => lv_istore_n X.1 X.2.1 hd hn hl hi hl' (fun ls' h2 => k H locs ls' hm h2)
theorem J_istore (X : Cx p s m args meth c own cc nL rt o) {i : Nat} {x : Int32} (lo' : List (Nat × Value)) (hd : decode cc pc = .ok (.istore i, 2)) (hi : i < nL) (hl' : sto1 i (.int x) lo = lo') (k : J p l e R s m args below meth c cells slots Z o emb A H0 nL (pc + 2) lo' st h) : J p l e R s m args below meth c cells slots Z o emb A H0 nL pc lo (.int x :: st) h :=
  fun H locs _ hm hl => lv_istore X.1 X.2.1 hd hl hi hl' (fun ls' h2 => k H locs ls' hm h2)
theorem J_lstore_n (X : Cx p s m args meth c own cc nL rt o) {n : Fin 4} {i : Nat} {x : Int64} (lo' : List (Nat × Value)) (hd : decode cc pc = .ok (.lstore_n n, 1)) (hn : (n : Nat) = i) (hi : i + 1 < nL) (hl' : sto2 i (.long x) lo = lo') (k : J p l e R s m args below meth c cells slots Z o emb A H0 nL (pc + 1) lo' st h) : J p l e R s m args below meth c cells slots Z o emb A H0 nL pc lo (.long x :: st) h :=
  fun H locs _ hm hl => lv_lstore_n X.1 X.2.1 hd hn hl hi hl' (fun ls' h2 => k H locs ls' hm h2)
theorem J_lstore (X : Cx p s m args meth c own cc nL rt o) {i : Nat} {x : Int64} (lo' : List (Nat × Value)) (hd : decode cc pc = .ok (.lstore i, 2)) (hi : i + 1 < nL) (hl' : sto2 i (.long x) lo = lo') (k : J p l e R s m args below meth c cells slots Z o emb A H0 nL (pc + 2) lo' st h) : J p l e R s m args below meth c cells slots Z o emb A H0 nL pc lo (.long x :: st) h :=
  fun H locs _ hm hl => lv_lstore X.1 X.2.1 hd hl hi hl' (fun ls' h2 => k H locs ls' hm h2)
theorem J_astore_n (X : Cx p s m args meth c own cc nL rt o) {n : Fin 4} {i : Nat} {x : Nat} (lo' : List (Nat × Value)) (hd : decode cc pc = .ok (.astore_n n, 1)) (hn : (n : Nat) = i) (hi : i < nL) (hl' : sto1 i (.ref x) lo = lo') (k : J p l e R s m args below meth c cells slots Z o emb A H0 nL (pc + 1) lo' st h) : J p l e R s m args below meth c cells slots Z o emb A H0 nL pc lo (.ref x :: st) h :=
  fun H locs _ hm hl => lv_astore_n X.1 X.2.1 hd hn hl hi hl' (fun ls' h2 => k H locs ls' hm h2)
theorem J_iinc (X : Cx p s m args meth c own cc nL rt o) {i : Nat} {n : Int} {x v : Int32} (q : Nat) (lo' : List (Nat × Value)) (hd : decode cc pc = .ok (.iinc i n, 3)) (hq : lo[q]? = some (i, .int x)) (hv : x + Int32.ofInt n = v) (hi : i < nL) (hl' : sto1 i (.int v) lo = lo') (k : J p l e R s m args below meth c cells slots Z o emb A H0 nL (pc + 3) lo' st h) : J p l e R s m args below meth c cells slots Z o emb A H0 nL pc lo st h :=
  fun H locs _ hm hl => lv_iinc X.1 X.2.1 hd hl hq hv hi hl' (fun ls' h2 => k H locs ls' hm h2)
theorem J_sub (ks : List Nat) {lo' : List (Nat × Value)} (hl : lv_pick lo ks = lo') (k : J p l e R s m args below meth c cells slots Z o emb A H0 nL pc lo' st h) : J p l e R s m args below meth c cells slots Z o emb A H0 nL pc lo st h :=
  fun H locs ls hm h2 => k H locs ls hm (lv_sub h2 ks hl)
theorem J_iadd (X : Cx p s m args meth c own cc nL rt o) {x y : Int32} (hd : decode cc pc = .ok (.iadd, 1)) (k : J p l e R s m args below meth c cells slots Z o emb A H0 nL (pc + 1) lo (.int (x + y) :: st) h) : J p l e R s m args below meth c cells slots Z o emb A H0 nL pc lo (.int y :: .int x :: st) h :=
  fun H locs ls hm hl => lv_iadd X.1 X.2.1 hd (k H locs ls hm hl)
theorem J_isub (X : Cx p s m args meth c own cc nL rt o) {x y : Int32} (hd : decode cc pc = .ok (.isub, 1)) (k : J p l e R s m args below meth c cells slots Z o emb A H0 nL (pc + 1) lo (.int (x - y) :: st) h) : J p l e R s m args below meth c cells slots Z o emb A H0 nL pc lo (.int y :: .int x :: st) h :=
  fun H locs ls hm hl => lv_isub X.1 X.2.1 hd (k H locs ls hm hl)
theorem J_imul (X : Cx p s m args meth c own cc nL rt o) {x y : Int32} (hd : decode cc pc = .ok (.imul, 1)) (k : J p l e R s m args below meth c cells slots Z o emb A H0 nL (pc + 1) lo (.int (x * y) :: st) h) : J p l e R s m args below meth c cells slots Z o emb A H0 nL pc lo (.int y :: .int x :: st) h :=
  fun H locs ls hm hl => lv_imul X.1 X.2.1 hd (k H locs ls hm hl)
theorem J_iand (X : Cx p s m args meth c own cc nL rt o) {x y : Int32} (hd : decode cc pc = .ok (.iand, 1)) (k : J p l e R s m args below meth c cells slots Z o emb A H0 nL (pc + 1) lo (.int (x &&& y) :: st) h) : J p l e R s m args below meth c cells slots Z o emb A H0 nL pc lo (.int y :: .int x :: st) h :=
  fun H locs ls hm hl => lv_iand X.1 X.2.1 hd (k H locs ls hm hl)
theorem J_ior (X : Cx p s m args meth c own cc nL rt o) {x y : Int32} (hd : decode cc pc = .ok (.ior, 1)) (k : J p l e R s m args below meth c cells slots Z o emb A H0 nL (pc + 1) lo (.int (x ||| y) :: st) h) : J p l e R s m args below meth c cells slots Z o emb A H0 nL pc lo (.int y :: .int x :: st) h :=
  fun H locs ls hm hl => lv_ior X.1 X.2.1 hd (k H locs ls hm hl)
theorem J_ixor (X : Cx p s m args meth c own cc nL rt o) {x y : Int32} (hd : decode cc pc = .ok (.ixor, 1)) (k : J p l e R s m args below meth c cells slots Z o emb A H0 nL (pc + 1) lo (.int (x ^^^ y) :: st) h) : J p l e R s m args below meth c cells slots Z o emb A H0 nL pc lo (.int y :: .int x :: st) h :=
  fun H locs ls hm hl => lv_ixor X.1 X.2.1 hd (k H locs ls hm hl)
theorem J_ishl (X : Cx p s m args meth c own cc nL rt o) {x y : Int32} (hd : decode cc pc = .ok (.ishl, 1)) (k : J p l e R s m args below meth c cells slots Z o emb A H0 nL (pc + 1) lo (.int (x <<< (y &&& 31)) :: st) h) : J p l e R s m args below meth c cells slots Z o emb A H0 nL pc lo (.int y :: .int x :: st) h :=
  fun H locs ls hm hl => lv_ishl X.1 X.2.1 hd (k H locs ls hm hl)
theorem J_ishr (X : Cx p s m args meth c own cc nL rt o) {x y : Int32} (hd : decode cc pc = .ok (.ishr, 1)) (k : J p l e R s m args below meth c cells slots Z o emb A H0 nL (pc + 1) lo (.int (x >>> (y &&& 31)) :: st) h) : J p l e R s m args below meth c cells slots Z o emb A H0 nL pc lo (.int y :: .int x :: st) h :=
  fun H locs ls hm hl => lv_ishr X.1 X.2.1 hd (k H locs ls hm hl)
def iushr (x y : Int32) : Int32 := (x.toUInt32 >>> (y.toUInt32 &&& Int32.toUInt32 31)).toInt32
theorem J_iushr (X : Cx p s m args meth c own cc nL rt o) {x y : Int32} (hd : decode cc pc = .ok (.iushr, 1)) (k : J p l e R s m args below meth c cells slots Z o emb A H0 nL (pc + 1) lo (.int (iushr x y) :: st) h) : J p l e R s m args below meth c cells slots Z o emb A H0 nL pc lo (.int y :: .int x :: st) h :=
  fun H locs ls hm hl => lv_iushr X.1 X.2.1 hd rfl (k H locs ls hm hl)
theorem J_idiv (X : Cx p s m args meth c own cc nL rt o) {x y : Int32} (hd : decode cc pc = .ok (.idiv, 1)) (hne : ¬ y = 0) (k : J p l e R s m args below meth c cells slots Z o emb A H0 nL (pc + 1) lo (.int (x / y) :: st) h) : J p l e R s m args below meth c cells slots Z o emb A H0 nL pc lo (.int y :: .int x :: st) h :=
  fun H locs ls hm hl => lv_idiv X.1 X.2.1 hd hne (k H locs ls hm hl)
def irem (x y : Int32) : Int32 := x - x / y * y
theorem J_irem (X : Cx p s m args meth c own cc nL rt o) {x y : Int32} (hd : decode cc pc = .ok (.irem, 1)) (hne : ¬ y = 0) (k : J p l e R s m args below meth c cells slots Z o emb A H0 nL (pc + 1) lo (.int (irem x y) :: st) h) : J p l e R s m args below meth c cells slots Z o emb A H0 nL pc lo (.int y :: .int x :: st) h :=
  fun H locs ls hm hl => lv_irem X.1 X.2.1 hd hne (k H locs ls hm hl)
theorem J_ladd (X : Cx p s m args meth c own cc nL rt o) {x y : Int64} (hd : decode cc pc = .ok (.ladd, 1)) (k : J p l e R s m args below meth c cells slots Z o emb A H0 nL (pc + 1) lo (.long (x + y) :: st) h) : J p l e R s m args below meth c cells slots Z o emb A H0 nL pc lo (.long y :: .long x :: st) h :=
  fun H locs ls hm hl => lv_ladd X.1 X.2.1 hd (k H locs ls hm hl)
theorem J_lmul (X : Cx p s m args meth c own cc nL rt o) {x y : Int64} (hd : decode cc pc = .ok (.lmul, 1)) (k : J p l e R s m args below meth c cells slots Z o emb A H0 nL (pc + 1) lo (.long (x * y) :: st) h) : J p l e R s m args below meth c cells slots Z o emb A H0 nL pc lo (.long y :: .long x :: st) h :=
  fun H locs ls hm hl => lv_lmul X.1 X.2.1 hd (k H locs ls hm hl)
theorem J_ldiv (X : Cx p s m args meth c own cc nL rt o) {x y : Int64} (hd : decode cc pc = .ok (.ldiv, 1)) (hne : ¬ y = 0) (k : J p l e R s m args below meth c cells slots Z o emb A H0 nL (pc + 1) lo (.long (x / y) :: st) h) : J p l e R s m args below meth c cells slots Z o emb A H0 nL pc lo (.long y :: .long x :: st) h :=
  fun H locs ls hm hl => lv_ldiv X.1 X.2.1 hd hne (k H locs ls hm hl)
def lrem (x y : Int64) : Int64 := x - x / y * y
theorem J_lrem (X : Cx p s m args meth c own cc nL rt o) {x y : Int64} (hd : decode cc pc = .ok (.lrem, 1)) (hne : ¬ y = 0) (k : J p l e R s m args below meth c cells slots Z o emb A H0 nL (pc + 1) lo (.long (lrem x y) :: st) h) : J p l e R s m args below meth c cells slots Z o emb A H0 nL pc lo (.long y :: .long x :: st) h :=
  fun H locs ls hm hl => lv_lrem X.1 X.2.1 hd hne (k H locs ls hm hl)
theorem J_i2l (X : Cx p s m args meth c own cc nL rt o) {x : Int32} (hd : decode cc pc = .ok (.i2l, 1)) (k : J p l e R s m args below meth c cells slots Z o emb A H0 nL (pc + 1) lo (.long x.toInt64 :: st) h) : J p l e R s m args below meth c cells slots Z o emb A H0 nL pc lo (.int x :: st) h :=
  fun H locs ls hm hl => lv_i2l X.1 X.2.1 hd rfl (k H locs ls hm hl)
theorem J_lcmp (X : Cx p s m args meth c own cc nL rt o) {x y : Int64} (hd : decode cc pc = .ok (.lcmp, 1)) (k : J p l e R s m args below meth c cells slots Z o emb A H0 nL (pc + 1) lo (.int (lg_cmp x y) :: st) h) : J p l e R s m args below meth c cells slots Z o emb A H0 nL pc lo (.long y :: .long x :: st) h :=
  fun H locs ls hm hl => W.lcmp X.1 X.2.1 hd (k H locs ls hm hl)
theorem J_pop (X : Cx p s m args meth c own cc nL rt o) {v : Value} (hd : decode cc pc = .ok (.pop, 1)) (hv : v.category = 1) (k : J p l e R s m args below meth c cells slots Z o emb A H0 nL (pc + 1) lo st h) : J p l e R s m args below meth c cells slots Z o emb A H0 nL pc lo (v :: st) h :=
  fun H locs ls hm hl => lv_pop X.1 X.2.1 hd hv (k H locs ls hm hl)
theorem J_dup (X : Cx p s m args meth c own cc nL rt o) {v : Value} (hd : decode cc pc = .ok (.dup, 1)) (hv : v.category = 1) (k : J p l e R s m args below meth c cells slots Z o emb A H0 nL (pc + 1) lo (v :: v :: st) h) : J p l e R s m args below meth c cells slots Z o emb A H0 nL pc lo (v :: st) h :=
  fun H locs ls hm hl => lv_dup X.1 X.2.1 hd hv (k H locs ls hm hl)
theorem J_goto (X : Cx p s m args meth c own cc nL rt o) {off : Int} {tgt : Nat} (hd : decode cc pc = .ok (.goto off, 3)) (ht : (pc : Int) + off = (tgt : Int)) (k : J p l e R s m args below meth c cells slots Z o emb A H0 nL tgt lo st h) : J p l e R s m args below meth c cells slots Z o emb A H0 nL pc lo st h :=
  fun H locs ls hm hl => lv_goto X.1 X.2.1 hd ht (k H locs ls hm hl)
theorem J_topi {x : Int32} (y : Int32) (hy : x = y) (k : J p l e R s m args below meth c cells slots Z o emb A H0 nL pc lo (.int y :: st) h) : J p l e R s m args below meth c cells slots Z o emb A H0 nL pc lo (.int x :: st) h := hy ▸ k
theorem J_topl {x : Int64} (y : Int64) (hy : x = y) (k : J p l e R s m args below meth c cells slots Z o emb A H0 nL pc lo (.long y :: st) h) : J p l e R s m args below meth c cells slots Z o emb A H0 nL pc lo (.long x :: st) h := hy ▸ k
end CORE
end
section
/-! THE CORE, second half: branches, fields and arrays, calls, returns. -/
section CORE2
variable {p : Program} {l : Launch} {e : Env} {R : Room} {s : State} {m : MethodId} {args : Array Value} {below : List Frame} {meth : Method} {c : Code} {cells slots : Nat} {Z : State → Prop} {o : Om} {emb : Hp → va_W} {A : Nat → Prop} {H0 : Heap} {nL pc : Nat} {lo : List (Nat × Value)} {st rest : List Value} {h : Hp} {own : String} {cc : ByteArray} {rt : Option FieldType}
theorem J_if_eq (X : Cx p s m args meth c own cc nL rt o) {x : Int32} {off : Int} {tgt : Nat} (hd : decode cc pc = .ok (.ifCond .eq off, 3)) (ht : (pc : Int) + off = (tgt : Int)) (kt : x = 0 → J p l e R s m args below meth c cells slots Z o emb A H0 nL tgt lo st h) (kf : ¬ x = 0 → J p l e R s m args below meth c cells slots Z o emb A H0 nL (pc + 3) lo st h) : J p l e R s m args below meth c cells slots Z o emb A H0 nL pc lo (.int x :: st) h :=
  fun H locs ls hm hl => lv_if_eq X.1 X.2.1 hd ht (fun q => kt q H locs ls hm hl) (fun q => kf q H locs ls hm hl)
theorem J_icmp_eq (X : Cx p s m args meth c own cc nL rt o) {x y : Int32} {off : Int} {tgt : Nat} (hd : decode cc pc = .ok (.if_icmp .eq off, 3)) (ht : (pc : Int) + off = (tgt : Int)) (kt : x = y → J p l e R s m args below meth c cells slots Z o emb A H0 nL tgt lo st h) (kf : ¬ x = y → J p l e R s m args below meth c cells slots Z o emb A H0 nL (pc + 3) lo st h) : J p l e R s m args below meth c cells slots Z o emb A H0 nL pc lo (.int y :: .int x :: st) h :=
  fun H locs ls hm hl => lv_icmp_eq X.1 X.2.1 hd ht (fun q => kt q H locs ls hm hl) (fun q => kf q H locs ls hm hl)
theorem J_if_ne (X : Cx p s m args meth c own cc nL rt o) {x : Int32} {off : Int} {tgt : Nat} (hd : decode cc pc = .ok (.ifCond .ne off, 3)) (ht : (pc : Int) + off = (tgt : Int)) (kt : ¬ x = 0 → J p l e R s m args below meth c cells slots Z o emb A H0 nL tgt lo st h) (kf : x = 0 → J p l e R s m args below meth c cells slots Z o emb A H0 nL (pc + 3) lo st h) : J p l e R s m args below meth c cells slots Z o emb A H0 nL pc lo (.int x :: st) h :=
  fun H locs ls hm hl => lv_if_ne X.1 X.2.1 hd ht (fun q => kt q H locs ls hm hl) (fun q => kf q H locs ls hm hl)
theorem J_icmp_ne (X : Cx p s m args meth c own cc nL rt o) {x y : Int32} {off : Int} {tgt : Nat} (hd : decode cc pc = .ok (.if_icmp .ne off, 3)) (ht : (pc : Int) + off = (tgt : Int)) (kt : ¬ x = y → J p l e R s m args below meth c cells slots Z o emb A H0 nL tgt lo st h) (kf : x = y → J p l e R s m args below meth c cells slots Z o emb A H0 nL (pc + 3) lo st h) : J p l e R s m args below meth c cells slots Z o emb A H0 nL pc lo (.int y :: .int x :: st) h :=
  fun H locs ls hm hl => lv_icmp_ne X.1 X.2.1 hd ht (fun q => kt q H locs ls hm hl) (fun q => kf q H locs ls hm hl)
theorem J_if_lt (X : Cx p s m args meth c own cc nL rt o) {x : Int32} {off : Int} {tgt : Nat} (hd : decode cc pc = .ok (.ifCond .lt off, 3)) (ht : (pc : Int) + off = (tgt : Int)) (kt : x < 0 → J p l e R s m args below meth c cells slots Z o emb A H0 nL tgt lo st h) (kf : ¬ x < 0 → J p l e R s m args below meth c cells slots Z o emb A H0 nL (pc + 3) lo st h) : J p l e R s m args below meth c cells slots Z o emb A H0 nL pc lo (.int x :: st) h :=
  fun H locs ls hm hl => lv_if_lt X.1 X.2.1 hd ht (fun q => kt q H locs ls hm hl) (fun q => kf q H locs ls hm hl)
theorem J_icmp_lt (X : Cx p s m args meth c own cc nL rt o) {x y : Int32} {off : Int} {tgt : Nat} (hd : decode cc pc = .ok (.if_icmp .lt off, 3)) (ht : (pc : Int) + off = (tgt : Int)) (kt : x < y → J p l e R s m args below meth c cells slots Z o emb A H0 nL tgt lo st h) (kf : ¬ x < y → J p l e R s m args below meth c cells slots Z o emb A H0 nL (pc + 3) lo st h) : J p l e R s m args below meth c cells slots Z o emb A H0 nL pc lo (.int y :: .int x :: st) h :=
  fun H locs ls hm hl => lv_icmp_lt X.1 X.2.1 hd ht (fun q => kt q H locs ls hm hl) (fun q => kf q H locs ls hm hl)
theorem J_if_ge (X : Cx p s m args meth c own cc nL rt o) {x : Int32} {off : Int} {tgt : Nat} (hd : decode cc pc = .ok (.ifCond .ge off, 3)) (ht : (pc : Int) + off = (tgt : Int)) (kt : 0 ≤ x → J p l e R s m args below meth c cells slots Z o emb A H0 nL tgt lo st h) (kf : ¬ 0 ≤ x → J p l e R s m args below meth c cells slots Z o emb A H0 nL (pc + 3) lo st h) : J p l e R s m args below meth c cells slots Z o emb A H0 nL pc lo (.int x :: st) h :=
  fun H locs ls hm hl => lv_if_ge X.1 X.2.1 hd ht (fun q => kt q H locs ls hm hl) (fun q => kf q H locs ls hm hl)
theorem J_icmp_ge (X : Cx p s m args meth c own cc nL rt o) {x y : Int32} {off : Int} {tgt : Nat} (hd : decode cc pc = .ok (.if_icmp .ge off, 3)) (ht : (pc : Int) + off = (tgt : Int)) (kt : y ≤ x → J p l e R s m args below meth c cells slots Z o emb A H0 nL tgt lo st h) (kf : ¬ y ≤ x → J p l e R s m args below meth c cells slots Z o emb A H0 nL (pc + 3) lo st h) : J p l e R s m args below meth c cells slots Z o emb A H0 nL pc lo (.int y :: .int x :: st) h :=
  fun H locs ls hm hl => lv_icmp_ge X.1 X.2.1 hd ht (fun q => kt q H locs ls hm hl) (fun q => kf q H locs ls hm hl)
theorem J_if_gt (X : Cx p s m args meth c own cc nL rt o) {x : Int32} {off : Int} {tgt : Nat} (hd : decode cc pc = .ok (.ifCond .gt off, 3)) (ht : (pc : Int) + off = (tgt : Int)) (kt : 0 < x → J p l e R s m args below meth c cells slots Z o emb A H0 nL tgt lo st h) (kf : ¬ 0 < x → J p l e R s m args below meth c cells slots Z o emb A H0 nL (pc + 3) lo st h) : J p l e R s m args below meth c cells slots Z o emb A H0 nL pc lo (.int x :: st) h :=
  fun H locs ls hm hl => lv_if_gt X.1 X.2.1 hd ht (fun q => kt q H locs ls hm hl) (fun q => kf q H locs ls hm hl)
theorem J_icmp_gt (X : Cx p s m args meth c own cc nL rt o) {x y : Int32} {off : Int} {tgt : Nat} (hd : decode cc pc = .ok (.if_icmp .gt off, 3)) (ht : (pc : Int) + off = (tgt : Int)) (kt : y < x → J p l e R s m args below meth c cells slots Z o emb A H0 nL tgt lo st h) (kf : ¬ y < x → J p l e R s m args below meth c cells slots Z o emb A H0 nL (pc + 3) lo st h) : J p l e R s m args below meth c cells slots Z o emb A H0 nL pc lo (.int y :: .int x :: st) h :=
  fun H locs ls hm hl => lv_icmp_gt X.1 X.2.1 hd ht (fun q => kt q H locs ls hm hl) (fun q => kf q H locs ls hm hl)
theorem J_if_le (X : Cx p s m args meth c own cc nL rt o) {x : Int32} {off : Int} {tgt : Nat} (hd : decode cc pc = .ok (.ifCond .le off, 3)) (ht : (pc : Int) + off = (tgt : Int)) (kt : x ≤ 0 → J p l e R s m args below meth c cells slots Z o emb A H0 nL tgt lo st h) (kf : ¬ x ≤ 0 → J p l e R s m args below meth c cells slots Z o emb A H0 nL (pc + 3) lo st h) : J p l e R s m args below meth c cells slots Z o emb A H0 nL pc lo (.int x :: st) h :=
  fun H locs ls hm hl => lv_if_le X.1 X.2.1 hd ht (fun q => kt q H locs ls hm hl) (fun q => kf q H locs ls hm hl)
theorem J_icmp_le (X : Cx p s m args meth c own cc nL rt o) {x y : Int32} {off : Int} {tgt : Nat} (hd : decode cc pc = .ok (.if_icmp .le off, 3)) (ht : (pc : Int) + off = (tgt : Int)) (kt : x ≤ y → J p l e R s m args below meth c cells slots Z o emb A H0 nL tgt lo st h) (kf : ¬ x ≤ y → J p l e R s m args below meth c cells slots Z o emb A H0 nL (pc + 3) lo st h) : J p l e R s m args below meth c cells slots Z o emb A H0 nL pc lo (.int y :: .int x :: st) h :=
  fun H locs ls hm hl => lv_icmp_le X.1 X.2.1 hd ht (fun q => kt q H locs ls hm hl) (fun q => kf q H locs ls hm hl)
theorem J_tableOut (X : Cx p s m args meth c own cc nL rt o) {dflt lw hi : Int} {offs : Array Int} {len : Nat} {x : Int32} {tgt : Nat} (hd : decode cc pc = .ok (.tableswitch dflt lw hi offs, len)) (hx : x.toInt < lw ∨ hi < x.toInt) (ht : (pc : Int) + dflt = (tgt : Int)) (k : J p l e R s m args below meth c cells slots Z o emb A H0 nL tgt lo st h) : J p l e R s m args below meth c cells slots Z o emb A H0 nL pc lo (.int x :: st) h :=
  fun H locs ls hm hl => lv_tableOut X.1 X.2.1 hd hx ht (k H locs ls hm hl)
theorem J_tableIn (X : Cx p s m args meth c own cc nL rt o) {dflt lw hi : Int} {offs : Array Int} {len : Nat} {x : Int32} {off : Int} {tgt : Nat} (hd : decode cc pc = .ok (.tableswitch dflt lw hi offs, len)) (h1 : ¬ x.toInt < lw) (h2 : ¬ hi < x.toInt) (ho : offs[(x.toInt - lw).toNat]? = some off) (ht : (pc : Int) + off = (tgt : Int)) (k : J p l e R s m args below meth c cells slots Z o emb A H0 nL tgt lo st h) : J p l e R s m args below meth c cells slots Z o emb A H0 nL pc lo (.int x :: st) h :=
  fun H locs ls hm hl => lv_tableIn X.1 X.2.1 hd h1 h2 ho ht (k H locs ls hm hl)
theorem J_lookup (X : Cx p s m args meth c own cc nL rt o) {dflt : Int} {ps : Array (Int × Int)} {len : Nat} {x : Int32} {off : Int} {tgt : Nat} (hd : decode cc pc = .ok (.lookupswitch dflt ps, len)) (hp : (ps.toList.zip (ps.toList.drop 1)).all (fun (a, next) => a.1 < next.1) = true) (ho : Op.lookupswitch.offset ps.toList dflt x.toInt = off) (ht : (pc : Int) + off = (tgt : Int)) (k : J p l e R s m args below meth c cells slots Z o emb A H0 nL tgt lo st h) : J p l e R s m args below meth c cells slots Z o emb A H0 nL pc lo (.int x :: st) h :=
  fun H locs ls hm hl => lv_lookup X.1 X.2.1 hd hp ho ht (k H locs ls hm hl)
/-- fields -/
theorem J_get (X : Cx p s m args meth c own cc nL rt o) {a ci index N : Nat} {fs : Hp → List Value} {wk : List Nat} {ref C : String} {T : u_T} (hO : EO o emb a ci fs wk) (hin : ∀ w ∈ u_ws C T N, w ∈ TT) (hc : vwCl[ci]? = some (C, T, N)) (q : Nat) (hq : q < N) (hw : Cond.fieldLink own index ref (T q).2.1 (T q).2.2.1 ∈ TT) (hs : (T q).1 = ref) {v : Value} (hv : (fs h)[q]? = some v) (hd : decode cc pc = .ok (.getfield index, 3)) (k : J p l e R s m args below meth c cells slots Z o emb A H0 nL (pc + 3) lo (v :: st) h) : J p l e R s m args below meth c cells slots Z o emb A H0 nL pc lo (.ref (o.1 a) :: st) h := by
  obtain ⟨q0, hE⟩ := hO
  intro H locs ls hm hl
  exact va_get X.1 X.2.1 X.2.2.2.2.1 hin X.2.2.2.1 X.2.2.2.2.2.1 hm.1 q0 (hE h).1 hc q hq (X.2.2.2.2.1 _ hw) (fun x h9 => by rw [← hs]; exact h9) hv hd (k H locs ls hm hl)
theorem J_getN (X : Cx p s m args meth c own cc nL rt o) {a ci index N : Nat} {fs : Hp → List Value} {wk : List Nat} {ref C host : String} {T : u_T} (hO : EO o emb a ci fs wk) (hin : ∀ w ∈ u_ws C T N, w ∈ TT) (hc : vwCl[ci]? = some (C, T, N)) (q : Nat) (hq : q < N) (hw : Cond.fieldLinkNest own index ref (T q).2.1 (T q).2.2.1 host ∈ NW) (hs : (T q).1 = ref) {v : Value} (hv : (fs h)[q]? = some v) (hd : decode cc pc = .ok (.getfield index, 3)) (k : J p l e R s m args below meth c cells slots Z o emb A H0 nL (pc + 3) lo (v :: st) h) : J p l e R s m args below meth c cells slots Z o emb A H0 nL pc lo (.ref (o.1 a) :: st) h := by
  obtain ⟨q0, hE⟩ := hO
  intro H locs ls hm hl
  exact va_getN X.1 X.2.1 X.2.2.2.2.1 hin X.2.2.2.1 X.2.2.2.2.2.1 hm.1 q0 (hE h).1 hc q hq (va_Nw.use rfl (X.2.2.2.2.2.2.1 _ hw)) (fun x h9 => by rw [← hs]; exact h9) hv hd (k H locs ls hm hl)
theorem J_put (X : Cx p s m args meth c own cc nL rt o) {a ci index N : Nat} {fs : Hp → List Value} {wk : List Nat} {ref C : String} {T : u_T} (hO : EO o emb a ci fs wk) (hin : ∀ w ∈ u_ws C T N, w ∈ TT) (ty0 : Nat → FieldType) (hty : ∀ k, k < N → parseFieldDescriptor (T k).2.2.1 = some (ty0 k)) (hnm : ∀ a, a < N → ∀ b, b < N → a ≠ b → (T a).2.1 ≠ (T b).2.1) (hc : vwCl[ci]? = some (C, T, N)) (q : Nat) (hq : q < N) (hqw : q ∈ wk) (hw : Cond.fieldLink own index ref (T q).2.1 (T q).2.2.1 ∈ TT) (hs : (T q).1 = ref) (hfin : (T q).2.2.2 = false) {ty : FieldType} {v : Int32} (hd0 : parseFieldDescriptor (T q).2.2.1 = some ty) (hn : narrow ty (.int v) = .int v) (hfit : fits ty (.int v) = true) (hl0 : q < (fs h).length) (hd : decode cc pc = .ok (.putfield index, 3)) (k : J p l e R s m args below meth c cells slots Z o emb A H0 nL (pc + 3) lo st (ip h a q v)) : J p l e R s m args below meth c cells slots Z o emb A H0 nL pc lo (.int v :: .ref (o.1 a) :: st) h := by
  obtain ⟨q0, hE⟩ := hO
  intro H locs ls hm hl
  refine va_put X.1 X.2.1 X.2.2.2.2.1 hin ty0 hty hnm X.2.2.2.1 X.2.2.2.2.2.1 hm.1 (hm.2.2 h) hm.2.1 q0 (hE h).1 hc q hq (X.2.2.2.2.1 _ hw) (fun x h9 => by rw [← hs]; exact h9) hfin hd0 hn hfit hl0 hd (fun H1 locs1 hP _ hS => k H1 locs1 ls ⟨?_, hS, hm.2.2⟩ hl)
  rw [← (hE h).2 q hqw v]
  exact hP
theorem J_putN (X : Cx p s m args meth c own cc nL rt o) {a ci index N : Nat} {fs : Hp → List Value} {wk : List Nat} {ref C host : String} {T : u_T} (hO : EO o emb a ci fs wk) (hin : ∀ w ∈ u_ws C T N, w ∈ TT) (ty0 : Nat → FieldType) (hty : ∀ k, k < N → parseFieldDescriptor (T k).2.2.1 = some (ty0 k)) (hnm : ∀ a, a < N → ∀ b, b < N → a ≠ b → (T a).2.1 ≠ (T b).2.1) (hc : vwCl[ci]? = some (C, T, N)) (q : Nat) (hq : q < N) (hqw : q ∈ wk) (hw : Cond.fieldLinkNest own index ref (T q).2.1 (T q).2.2.1 host ∈ NW) (hs : (T q).1 = ref) (hfin : (T q).2.2.2 = false) {ty : FieldType} {v : Int32} (hd0 : parseFieldDescriptor (T q).2.2.1 = some ty) (hn : narrow ty (.int v) = .int v) (hfit : fits ty (.int v) = true) (hl0 : q < (fs h).length) (hd : decode cc pc = .ok (.putfield index, 3)) (k : J p l e R s m args below meth c cells slots Z o emb A H0 nL (pc + 3) lo st (ip h a q v)) : J p l e R s m args below meth c cells slots Z o emb A H0 nL pc lo (.int v :: .ref (o.1 a) :: st) h := by
  obtain ⟨q0, hE⟩ := hO
  intro H locs ls hm hl
  refine va_putN X.1 X.2.1 X.2.2.2.2.1 hin ty0 hty hnm X.2.2.2.1 X.2.2.2.2.2.1 hm.1 (hm.2.2 h) hm.2.1 q0 (hE h).1 hc q hq (va_Nw.use rfl (X.2.2.2.2.2.2.1 _ hw)) (fun x h9 => by rw [← hs]; exact h9) hfin hd0 hn hfit hl0 hd (fun H1 locs1 hP _ hS => k H1 locs1 ls ⟨?_, hS, hm.2.2⟩ hl)
  rw [← (hE h).2 q hqw v]
  exact hP
/-- arrays -/
theorem J_iald (X : Cx p s m args meth c own cc nL rt o) {a n : Nat} {i : Int32} (hE : EI o emb a n) (hi : vp_in i n) (hd : decode cc pc = .ok (.iaload, 1)) (k : J p l e R s m args below meth c cells slots Z o emb A H0 nL (pc + 1) lo (.int (h.1 a i.toNatClampNeg) :: st) h) : J p l e R s m args below meth c cells slots Z o emb A H0 nL pc lo (.int i :: .ref (o.1 a) :: st) h := by
  obtain ⟨q0, hE⟩ := hE
  intro H locs ls hm hl
  exact va_iald X.1 X.2.1 X.2.2.2.2.2.1 hm.1 q0 0 (hE h).1 rfl hi hd (k H locs ls hm hl)
theorem J_zald (X : Cx p s m args meth c own cc nL rt o) {a n : Nat} {i : Int32} (hE : EZ o emb a n) (hi : vp_in i n) (hd : decode cc pc = .ok (.baload, 1)) (k : J p l e R s m args below meth c cells slots Z o emb A H0 nL (pc + 1) lo (.int (h.1 a i.toNatClampNeg) :: st) h) : J p l e R s m args below meth c cells slots Z o emb A H0 nL pc lo (.int i :: .ref (o.1 a) :: st) h := by
  obtain ⟨q0, hE⟩ := hE
  intro H locs ls hm hl
  exact va_zald X.1 X.2.1 X.2.2.2.2.2.1 hm.1 q0 2 (hE h).1 rfl hi hd (k H locs ls hm hl)
theorem J_lald (X : Cx p s m args meth c own cc nL rt o) {a n : Nat} {i : Int32} (hE : EL o emb a n) (hi : vp_in i n) (hd : decode cc pc = .ok (.laload, 1)) (k : J p l e R s m args below meth c cells slots Z o emb A H0 nL (pc + 1) lo (.long (h.2 a i.toNatClampNeg) :: st) h) : J p l e R s m args below meth c cells slots Z o emb A H0 nL pc lo (.int i :: .ref (o.1 a) :: st) h := by
  obtain ⟨q0, hE⟩ := hE
  intro H locs ls hm hl
  exact va_lald X.1 X.2.1 X.2.2.2.2.2.1 hm.1 q0 1 (hE h).1 rfl hi hd (k H locs ls hm hl)
theorem J_iast (X : Cx p s m args meth c own cc nL rt o) {a n : Nat} {i x : Int32} (hE : EI o emb a n) (hi : vp_in i n) (hd : decode cc pc = .ok (.iastore, 1)) (k : J p l e R s m args below meth c cells slots Z o emb A H0 nL (pc + 1) lo st (ip h a i.toNatClampNeg x)) : J p l e R s m args below meth c cells slots Z o emb A H0 nL pc lo (.int x :: .int i :: .ref (o.1 a) :: st) h := by
  obtain ⟨q0, hE⟩ := hE
  intro H locs ls hm hl
  refine va_iast X.1 X.2.1 X.2.2.2.2.2.1 hm.1 (hm.2.2 h) hm.2.1 q0 0 (hE h).1 rfl hi hd (fun H1 locs1 hP _ hS => k H1 locs1 ls ⟨?_, hS, hm.2.2⟩ hl)
  rw [← (hE h).2]
  exact hP
theorem J_zast (X : Cx p s m args meth c own cc nL rt o) {a n : Nat} {i x : Int32} (hE : EZ o emb a n) (hi : vp_in i n) (hx : vp_nar .boolean x = x) (hd : decode cc pc = .ok (.bastore, 1)) (k : J p l e R s m args below meth c cells slots Z o emb A H0 nL (pc + 1) lo st (ip h a i.toNatClampNeg x)) : J p l e R s m args below meth c cells slots Z o emb A H0 nL pc lo (.int x :: .int i :: .ref (o.1 a) :: st) h := by
  obtain ⟨q0, hE⟩ := hE
  intro H locs ls hm hl
  refine va_zast X.1 X.2.1 X.2.2.2.2.2.1 hm.1 (hm.2.2 h) hm.2.1 q0 2 (hE h).1 rfl hi hd (fun H1 locs1 hP _ hS => k H1 locs1 ls ⟨?_, hS, hm.2.2⟩ hl)
  rw [← (hE h).2]
  rw [hx] at hP
  exact hP
theorem J_last (X : Cx p s m args meth c own cc nL rt o) {a n : Nat} {i : Int32} {x : Int64} (hE : EL o emb a n) (hi : vp_in i n) (hd : decode cc pc = .ok (.lastore, 1)) (k : J p l e R s m args below meth c cells slots Z o emb A H0 nL (pc + 1) lo st (lp h a i.toNatClampNeg x)) : J p l e R s m args below meth c cells slots Z o emb A H0 nL pc lo (.long x :: .int i :: .ref (o.1 a) :: st) h := by
  obtain ⟨q0, hE⟩ := hE
  intro H locs ls hm hl
  refine va_last X.1 X.2.1 X.2.2.2.2.2.1 hm.1 (hm.2.2 h) hm.2.1 q0 1 (hE h).1 rfl hi hd (fun H1 locs1 hP _ hS => k H1 locs1 ls ⟨?_, hS, hm.2.2⟩ hl)
  rw [← (hE h).2]
  exact hP
theorem J_alenI (X : Cx p s m args meth c own cc nL rt o) {a n : Nat} (hE : EI o emb a n) (v : Int32) (hv : Int32.ofNat n = v) (hd : decode cc pc = .ok (.arraylength, 1)) (k : J p l e R s m args below meth c cells slots Z o emb A H0 nL (pc + 1) lo (.int v :: st) h) : J p l e R s m args below meth c cells slots Z o emb A H0 nL pc lo (.ref (o.1 a) :: st) h := by
  obtain ⟨q0, hE⟩ := hE
  intro H locs ls hm hl
  exact va_alen X.1 X.2.1 X.2.2.2.2.2.1 hm.1 q0 0 (hE h).1 (ty := .int) rfl hv hd (k H locs ls hm hl)
theorem J_alenL (X : Cx p s m args meth c own cc nL rt o) {a n : Nat} (hE : EL o emb a n) (v : Int32) (hv : Int32.ofNat n = v) (hd : decode cc pc = .ok (.arraylength, 1)) (k : J p l e R s m args below meth c cells slots Z o emb A H0 nL (pc + 1) lo (.int v :: st) h) : J p l e R s m args below meth c cells slots Z o emb A H0 nL pc lo (.ref (o.1 a) :: st) h := by
  obtain ⟨q0, hE⟩ := hE
  intro H locs ls hm hl
  exact va_alen X.1 X.2.1 X.2.2.2.2.2.1 hm.1 q0 1 (hE h).1 (ty := .long) rfl hv hd (k H locs ls hm hl)
/-- Math.min, Math.max -/
def imin (x y : Int32) : Int32 := if y < x then y else x
def imax (x y : Int32) : Int32 := if x < y then y else x
theorem J_mmin (X : Cx p s m args meth c own cc nL rt o) {index : Nat} {x y : Int32} (h1 : Cond.methodLink own index Lib.Math.min.name ∈ TT) (h2 : Cond.static Lib.Math.min.name ∈ TT) (h3 : Cond.initialized "java/lang/Math" ∈ TT) (h4 : Cond.code Lib.Math.min.name Lib.Math.min.code 2 (some .int) ∈ TT) (hR : 1 ≤ R.frames ∧ (st.map fun v => v.category).sum + 13 ≤ R.locals ∧ cells ≤ R.cells ∧ slots ≤ R.slots) (hd : decode cc pc = .ok (.invokestatic index, 3)) (k : J p l e R s m args below meth c cells slots Z o emb A H0 nL (pc + 3) lo (.int (imin x y) :: st) h) : J p l e R s m args below meth c cells slots Z o emb A H0 nL pc lo (.int y :: .int x :: st) h :=
  fun H locs ls hm hl => va_mmin X.1 X.2.1 (by rw [X.2.2.1]; exact hl.1.symm) X.2.2.2.1 (X.2.2.2.2.1 _ h1) (X.2.2.2.2.1 _ h2) (X.2.2.2.2.1 _ h3) (X.2.2.2.2.1 _ h4) hR.1 hR.2.1 hR.2.2.1 hR.2.2.2 hd (k H locs ls hm hl)
theorem J_mmax (X : Cx p s m args meth c own cc nL rt o) {index : Nat} {x y : Int32} (h1 : Cond.methodLink own index Lib.Math.max.name ∈ TT) (h2 : Cond.static Lib.Math.max.name ∈ TT) (h3 : Cond.initialized "java/lang/Math" ∈ TT) (h4 : Cond.code Lib.Math.max.name Lib.Math.max.code 2 (some .int) ∈ TT) (hR : 1 ≤ R.frames ∧ (st.map fun v => v.category).sum + 13 ≤ R.locals ∧ cells ≤ R.cells ∧ slots ≤ R.slots) (hd : decode cc pc = .ok (.invokestatic index, 3)) (k : J p l e R s m args below meth c cells slots Z o emb A H0 nL (pc + 3) lo (.int (imax x y) :: st) h) : J p l e R s m args below meth c cells slots Z o emb A H0 nL pc lo (.int y :: .int x :: st) h :=
  fun H locs ls hm hl => va_mmax X.1 X.2.1 (by rw [X.2.2.1]; exact hl.1.symm) X.2.2.2.1 (X.2.2.2.2.1 _ h1) (X.2.2.2.2.1 _ h2) (X.2.2.2.2.1 _ h3) (X.2.2.2.2.1 _ h4) hR.1 hR.2.1 hR.2.2.1 hR.2.2.2 hd (k H locs ls hm hl)
/-- a call, once the machine's run of it is known -/
theorem J_run {rv : Option Value} {h' : Hp} {aa : Array Value} (hrun : ∀ (H : Heap) (locs : List Loc) (ls : Array Slot), Mem o emb A H0 h H locs → lv_has ls nL lo → va_Run p l e R s m args below meth c H locs cells slots 0 0 (F0 m pc ls st) rest (WdQ o emb A rv h' aa) A) (k : J p l e R s m args below meth c cells slots Z o emb A H0 nL (pc + 3) lo (rv.toList ++ rest) h') : J p l e R s m args below meth c cells slots Z o emb A H0 nL pc lo st h := by
  intro H locs ls hm hl T hT X
  obtain ⟨v, st₀, t, T', L, h0, X', hL, e1, e2, ⟨⟨hv, hP1⟩, hz, hk⟩, hst⟩ := hrun H locs ls hm hl T hT X
  cases hv
  rw [h0] at hz hk
  have hS := hm.2.1
  obtain ⟨t2, a1, b1⟩ := k T'.heap (locs ++ L) ls ⟨by rw [e1]; exact hP1, ⟨Nat.le_trans hS.1 (by rw [e1]; exact hz), fun q h1 h2 => by rw [e1, hk q (Nat.lt_of_lt_of_le h1 hS.1) h2]; exact hS.2.1 q h1 h2, fun q hq => by
      rcases List.mem_append.mp hq with h | h
      · exact hS.2.2 q h
      · exact hL q h⟩, hm.2.2⟩ hl T' rfl X'
  exact ⟨t2, hst t2 a1, b1⟩
theorem J_callV (X : Cx p s m args meth c own cc nL rt o) {C : String} {y : MethodName} {cy : ByteArray} {nLy index : Nat} {rty : Option FieldType} {f n : Nat} {b ci : Nat} {fs : Hp → List Value} {wk : List Nat} {As rs : List Value} {rv : Option Value} {h' : Hp} {q : vw_C}
    (hM : Ct l o emb A y cy nLy rty f n (.ref (o.1 b) :: As) h rv h') (hO : EO o emb b ci fs wk) (hcl : vwCl[ci]? = some q) (hqC : q.1 = C)
    (w1 : Cond.methodLink own index y ∈ TT) (w2 : Cond.instanceMethod y ∈ TT) (w3 : Cond.selects C y y ∈ TT) (w4 : Cond.initialized y.cls ∈ TT) (w5 : Cond.code y cy nLy rty ∈ TT)
    (hdy : y.cls ≠ "java/lang/invoke/MethodHandle" ∧ y.cls ≠ "java/lang/invoke/VarHandle" ∧ (parseMethodDescriptor y.desc).map (fun d => d.parameters.length) = some As.length) (hR : f + 1 ≤ R.frames ∧ 8 + (nLy + 11) + n ≤ R.locals) (hcs : cells ≤ R.cells ∧ slots ≤ R.slots) (hst : (rest.map fun v => v.category).sum ≤ 8)
    (hd : decode cc pc = .ok (.invokevirtual index, 3)) (hs1 : As.reverse ++ .ref (o.1 b) :: rest = st) (hs2 : rv.toList ++ rest = rs) (k : J p l e R s m args below meth c cells slots Z o emb A H0 nL (pc + 3) lo rs h') : J p l e R s m args below meth c cells slots Z o emb A H0 nL pc lo st h := by
  subst hs1
  subst hs2
  have hts := X.2.2.2.2.1
  obtain ⟨q0, hE⟩ := hO
  refine J_run (fun H locs ls hm hl => va_runV (As := As) (rest := rest) (b := o.1 b) (C := C) ⟨X.1, X.2.1, X.2.2.1, X.2.2.2.1, hts⟩ hM ⟨callB_of As.length hts (goodTT w5) rfl rfl rfl (hts _ w4) (hts _ w1) hdy hR, hts _ w2, hts _ w3⟩ ⟨wd_blind, ?_, fun U hU hW => ⟨rfl, by rw [hU]; exact hm.1, va_K.moved hW.alike X.2.2.2.2.2.1, nw_warm hW X.2.2.2.2.2.2.1⟩⟩ rfl rfl hl.1 rfl (lv_room hst) hd hcs) k
  rw [← hqC]
  exact va_recv X.2.2.2.2.2.1 hm.1 hcl (hE h).1
theorem J_callVN (X : Cx p s m args meth c own cc nL rt o) {C host : String} {y : MethodName} {cy : ByteArray} {nLy index : Nat} {rty : Option FieldType} {f n : Nat} {b ci : Nat} {fs : Hp → List Value} {wk : List Nat} {As rs : List Value} {rv : Option Value} {h' : Hp} {q : vw_C}
    (hM : Ct l o emb A y cy nLy rty f n (.ref (o.1 b) :: As) h rv h') (hO : EO o emb b ci fs wk) (hcl : vwCl[ci]? = some q) (hqC : q.1 = C)
    (w1 : Cond.methodLinkNest own index y host ∈ NW) (w2 : Cond.instanceMethod y ∈ TT) (w3 : Cond.selects C y y ∈ TT) (w4 : Cond.initialized y.cls ∈ TT) (w5 : Cond.code y cy nLy rty ∈ TT)
    (hdy : y.cls ≠ "java/lang/invoke/MethodHandle" ∧ y.cls ≠ "java/lang/invoke/VarHandle" ∧ (parseMethodDescriptor y.desc).map (fun d => d.parameters.length) = some As.length) (hR : f + 1 ≤ R.frames ∧ 8 + (nLy + 11) + n ≤ R.locals) (hcs : cells ≤ R.cells ∧ slots ≤ R.slots) (hst : (rest.map fun v => v.category).sum ≤ 8)
    (hd : decode cc pc = .ok (.invokevirtual index, 3)) (hs1 : As.reverse ++ .ref (o.1 b) :: rest = st) (hs2 : rv.toList ++ rest = rs) (k : J p l e R s m args below meth c cells slots Z o emb A H0 nL (pc + 3) lo rs h') : J p l e R s m args below meth c cells slots Z o emb A H0 nL pc lo st h := by
  subst hs1
  subst hs2
  have hts := X.2.2.2.2.1
  obtain ⟨q0, hE⟩ := hO
  refine J_run (fun H locs ls hm hl => va_runVN (As := As) (rest := rest) (b := o.1 b) (C := C) (host := host) ⟨X.1, X.2.1, X.2.2.1, X.2.2.2.1, hts⟩ hM ⟨va_cnB As.length hts (goodTT w5) rfl rfl rfl (X.2.2.2.2.2.2.1 _ w1) (hts _ w4) hdy hR, hts _ w2, hts _ w3⟩ ⟨wd_blind, ?_, fun U hU hW => ⟨rfl, by rw [hU]; exact hm.1, va_K.moved hW.alike X.2.2.2.2.2.1, nw_warm hW X.2.2.2.2.2.2.1⟩⟩ rfl rfl hl.1 rfl (lv_room hst) hd hcs) k
  rw [← hqC]
  exact va_recv X.2.2.2.2.2.1 hm.1 hcl (hE h).1
theorem J_callS (X : Cx p s m args meth c own cc nL rt o) {y : MethodName} {cy : ByteArray} {nLy index : Nat} {rty : Option FieldType} {f n : Nat} {As rs : List Value} {rv : Option Value} {h' : Hp}
    (hM : Ct l o emb A y cy nLy rty f n As h rv h')
    (w1 : Cond.methodLink own index y ∈ TT) (w2 : Cond.static y ∈ TT) (w4 : Cond.initialized y.cls ∈ TT) (w5 : Cond.code y cy nLy rty ∈ TT)
    (hdy : y.cls ≠ "java/lang/invoke/MethodHandle" ∧ y.cls ≠ "java/lang/invoke/VarHandle" ∧ (parseMethodDescriptor y.desc).map (fun d => d.parameters.length) = some As.length) (hR : f + 1 ≤ R.frames ∧ 8 + (nLy + 11) + n ≤ R.locals) (hcs : cells ≤ R.cells ∧ slots ≤ R.slots) (hst : (rest.map fun v => v.category).sum ≤ 8)
    (hd : decode cc pc = .ok (.invokestatic index, 3)) (hs1 : As.reverse ++ rest = st) (hs2 : rv.toList ++ rest = rs) (k : J p l e R s m args below meth c cells slots Z o emb A H0 nL (pc + 3) lo rs h') : J p l e R s m args below meth c cells slots Z o emb A H0 nL pc lo st h := by
  subst hs1
  subst hs2
  have hts := X.2.2.2.2.1
  exact J_run (fun H locs ls hm hl => va_runS (As := As) (rest := rest) ⟨X.1, X.2.1, X.2.2.1, X.2.2.2.1, hts⟩ hM ⟨callB_of As.length hts (goodTT w5) rfl rfl rfl (hts _ w4) (hts _ w1) hdy hR, hts _ w2⟩ ⟨wd_blind, fun U hU hW => ⟨rfl, by rw [hU]; exact hm.1, va_K.moved hW.alike X.2.2.2.2.2.1, nw_warm hW X.2.2.2.2.2.2.1⟩⟩ rfl rfl hl.1 rfl (lv_room hst) hd hcs) k
theorem J_callSN (X : Cx p s m args meth c own cc nL rt o) {host : String} {y : MethodName} {cy : ByteArray} {nLy index : Nat} {rty : Option FieldType} {f n : Nat} {As rs : List Value} {rv : Option Value} {h' : Hp}
    (hM : Ct l o emb A y cy nLy rty f n As h rv h')
    (w1 : Cond.methodLinkNest own index y host ∈ NW) (w2 : Cond.static y ∈ TT) (w4 : Cond.initialized y.cls ∈ TT) (w5 : Cond.code y cy nLy rty ∈ TT)
    (hdy : y.cls ≠ "java/lang/invoke/MethodHandle" ∧ y.cls ≠ "java/lang/invoke/VarHandle" ∧ (parseMethodDescriptor y.desc).map (fun d => d.parameters.length) = some As.length) (hR : f + 1 ≤ R.frames ∧ 8 + (nLy + 11) + n ≤ R.locals) (hcs : cells ≤ R.cells ∧ slots ≤ R.slots) (hst : (rest.map fun v => v.category).sum ≤ 8)
    (hd : decode cc pc = .ok (.invokestatic index, 3)) (hs1 : As.reverse ++ rest = st) (hs2 : rv.toList ++ rest = rs) (k : J p l e R s m args below meth c cells slots Z o emb A H0 nL (pc + 3) lo rs h') : J p l e R s m args below meth c cells slots Z o emb A H0 nL pc lo st h := by
  subst hs1
  subst hs2
  have hts := X.2.2.2.2.1
  exact J_run (fun H locs ls hm hl => va_runSN (As := As) (rest := rest) (host := host) ⟨X.1, X.2.1, X.2.2.1, X.2.2.2.1, hts⟩ hM ⟨va_cnB As.length hts (goodTT w5) rfl rfl rfl (X.2.2.2.2.2.2.1 _ w1) (hts _ w4) hdy hR, hts _ w2, trivial⟩ ⟨wd_blind, fun U hU hW => ⟨rfl, by rw [hU]; exact hm.1, va_K.moved hW.alike X.2.2.2.2.2.1, nw_warm hW X.2.2.2.2.2.2.1⟩⟩ rfl rfl hl.1 rfl (lv_room hst) hd hcs) k
/-- a method's end -/
theorem J_iret (X : Cx p s m args meth c own cc nL (some .int) o) {v : Int32} (hd : decode cc pc = .ok (.ireturn, 1)) : J p l e R s m args below meth c 0 0 (MQ below (WdQ o emb A (some (.int v)) h) args s 0 0 A) o emb A s.heap nL pc lo [.int v] h :=
  fun H locs ls hm hl => W.iret X.1 X.2.1 X.2.2.2.2.2.2.2.1 (fun t ht _ => ⟨⟨rfl, by rw [ht]; exact hm.1⟩, hm.2.1.F ht⟩) hm.2.1.2.2 hd X.2.2.2.2.2.2.2.2
theorem J_zret (X : Cx p s m args meth c own cc nL (some .boolean) o) {v : Int32} (hv : narrow .boolean (.int v) = .int v) (hd : decode cc pc = .ok (.ireturn, 1)) : J p l e R s m args below meth c 0 0 (MQ below (WdQ o emb A (some (.int v)) h) args s 0 0 A) o emb A s.heap nL pc lo [.int v] h :=
  fun H locs ls hm hl => W.zret X.1 X.2.1 X.2.2.2.2.2.2.2.1 hv (fun t ht _ => ⟨⟨rfl, by rw [ht]; exact hm.1⟩, hm.2.1.F ht⟩) hm.2.1.2.2 hd X.2.2.2.2.2.2.2.2
theorem J_lret (X : Cx p s m args meth c own cc nL (some .long) o) {v : Int64} (hd : decode cc pc = .ok (.lreturn, 1)) : J p l e R s m args below meth c 0 0 (MQ below (WdQ o emb A (some (.long v)) h) args s 0 0 A) o emb A s.heap nL pc lo [.long v] h :=
  fun H locs ls hm hl => W.lret X.1 X.2.1 X.2.2.2.2.2.2.2.1 (fun t ht _ => ⟨⟨rfl, by rw [ht]; exact hm.1⟩, hm.2.1.F ht⟩) hm.2.1.2.2 hd X.2.2.2.2.2.2.2.2
theorem J_vret (X : Cx p s m args meth c own cc nL none o) (hd : decode cc pc = .ok (.return_, 1)) : J p l e R s m args below meth c 0 0 (MQ below (WdQ o emb A none h) args s 0 0 A) o emb A s.heap nL pc lo [] h :=
  fun H locs ls hm hl => W.vret X.1 X.2.1 X.2.2.2.2.2.2.2.1 (fun t ht _ => ⟨⟨rfl, by rw [ht]; exact hm.1⟩, hm.2.1.F ht⟩) hm.2.1.2.2 hd X.2.2.2.2.2.2.2.2
/-- a contract out of a walk of the body -/
theorem Ct.of {y : MethodName} {f n : Nat} {av : List Value} {rv : Option Value} {h' : Hp} (own : String) (hown : y.cls = own) (hy : plainName y.cls = true) (hA : ∀ h : Hp, va_D A (emb h)) (hn : (lg_sl av).length ≤ nL)
    (body : ∀ (p : Program) (e : Env) (s : State) (m : MethodId) (args : Array Value) (below : List Frame) (meth : Method) (c : Code), Cx p s m args meth c own cc nL rt o → J p l e (rmf f n) s m args below meth c 0 0 (MQ below (WdQ o emb A rv h') args s 0 0 A) o emb A s.heap nL 0 (lv_args 0 av) [] h) : Ct l o emb A y cc nL rt f n av h rv h' := by
  refine Met.ofW (cc := cc) (maxL := nL) (ret := rt) hy rfl ?_
  intro p e s m args below meth c s₁ B hml hv
  obtain ⟨hav, hP, hK, hN⟩ := hv
  have hts : ∀ w ∈ TT, w.before args s = true := fun w hw => atoms_spec (ws := .code y cc nL rt :: TT) B.pre w (List.mem_cons_of_mem _ hw)
  have hcl : s.vm.findClass own = some m.cls := by rw [← hown]; exact findClass_of_methodNamed B.named
  have K := body p e s m args below meth c ⟨B.exec, B.bytes, hml, hcl, hts, hK, hN, B.returns, B.notSynchronized⟩ s.heap [] _ ⟨hP, va_S.rf, hA⟩ (lv_entry av hn)
  rw [hav, lg_entry_eq]
  rw [hav] at K
  exact K
end CORE2
theorem ob {α β : Type} {x : Option α} {f : α → Option β} {b : β} (h : x.bind f = some b) : ∃ a, x = some a ∧ f a = some b := Option.bind_eq_some_iff.mp h
/-- reads and divisions that may fail -/
def ald (n : Nat) (h : Hp) (r : Nat) (i : Int32) : Option Int32 := if i < 0 ∨ n ≤ i.toNatClampNeg then none else some (h.1 r i.toNatClampNeg)
def lald (n : Nat) (h : Hp) (r : Nat) (i : Int32) : Option Int64 := if i < 0 ∨ n ≤ i.toNatClampNeg then none else some (h.2 r i.toNatClampNeg)
def ast (n : Nat) (h : Hp) (r : Nat) (i x : Int32) : Option Hp := if i < 0 ∨ n ≤ i.toNatClampNeg then none else some (ip h r i.toNatClampNeg x)
def last (n : Nat) (h : Hp) (r : Nat) (i : Int32) (x : Int64) : Option Hp := if i < 0 ∨ n ≤ i.toNatClampNeg then none else some (lp h r i.toNatClampNeg x)
def zast (n : Nat) (h : Hp) (r : Nat) (i x : Int32) : Option Hp := if i < 0 ∨ n ≤ i.toNatClampNeg then none else if x = 0 ∨ x = 1 then some (ip h r i.toNatClampNeg x) else none
def idv (x y : Int32) : Option Int32 := if y = 0 then none else some (x / y)
def irm (x y : Int32) : Option Int32 := if y = 0 then none else some (irem x y)
def ldv (x y : Int64) : Option Int64 := if y = 0 then none else some (x / y)
def lrm (x y : Int64) : Option Int64 := if y = 0 then none else some (lrem x y)
def zck (x : Int32) : Option Int32 := if x = 0 ∨ x = 1 then some x else none
theorem ald_s {n : Nat} {h : Hp} {r : Nat} {i v : Int32} (e : ald n h r i = some v) : vp_in i n ∧ h.1 r i.toNatClampNeg = v := by
  unfold ald at e
  split at e
  · cases e
  · next q => exact ⟨q, Option.some.inj e⟩
theorem lald_s {n : Nat} {h : Hp} {r : Nat} {i : Int32} {v : Int64} (e : lald n h r i = some v) : vp_in i n ∧ h.2 r i.toNatClampNeg = v := by
  unfold lald at e
  split at e
  · cases e
  · next q => exact ⟨q, Option.some.inj e⟩
theorem ast_s {n : Nat} {h h' : Hp} {r : Nat} {i x : Int32} (e : ast n h r i x = some h') : vp_in i n ∧ ip h r i.toNatClampNeg x = h' := by
  unfold ast at e
  split at e
  · cases e
  · next q => exact ⟨q, Option.some.inj e⟩
theorem last_s {n : Nat} {h h' : Hp} {r : Nat} {i : Int32} {x : Int64} (e : last n h r i x = some h') : vp_in i n ∧ lp h r i.toNatClampNeg x = h' := by
  unfold last at e
  split at e
  · cases e
  · next q => exact ⟨q, Option.some.inj e⟩
theorem zck_n {x : Int32} (q : x = 0 ∨ x = 1) : narrow .boolean (.int x) = .int x := by
  rcases q with rfl | rfl <;> rfl
theorem zast_s {n : Nat} {h h' : Hp} {r : Nat} {i x : Int32} (e : zast n h r i x = some h') : vp_in i n ∧ vp_nar .boolean x = x ∧ ip h r i.toNatClampNeg x = h' := by
  unfold zast at e
  split at e
  · cases e
  · next q =>
    split at e
    · next q2 => exact ⟨q, by rcases q2 with rfl | rfl <;> rfl, Option.some.inj e⟩
    · cases e
theorem idv_s {x y v : Int32} (e : idv x y = some v) : ¬ y = 0 ∧ x / y = v := by
  unfold idv at e
  split at e
  · cases e
  · next q => exact ⟨q, Option.some.inj e⟩
theorem irm_s {x y v : Int32} (e : irm x y = some v) : ¬ y = 0 ∧ irem x y = v := by
  unfold irm at e
  split at e
  · cases e
  · next q => exact ⟨q, Option.some.inj e⟩
theorem ldv_s {x y v : Int64} (e : ldv x y = some v) : ¬ y = 0 ∧ x / y = v := by
  unfold ldv at e
  split at e
  · cases e
  · next q => exact ⟨q, Option.some.inj e⟩
theorem lrm_s {x y v : Int64} (e : lrm x y = some v) : ¬ y = 0 ∧ lrem x y = v := by
  unfold lrm at e
  split at e
  · cases e
  · next q => exact ⟨q, Option.some.inj e⟩
theorem zck_s {x v : Int32} (e : zck x = some v) : narrow .boolean (.int x) = .int x ∧ x = v := by
  unfold zck at e
  split at e
  · next q => exact ⟨zck_n q, Option.some.inj e⟩
  · cases e
end
section
/-! PLAIN FUNCTIONS: what each method computes over the plain heap (laid by program from the bytecode), and the shape of the objects. -/
section EXTRA
variable {p : Program} {l : Launch} {e : Env} {R : Room} {s : State} {m : MethodId} {args : Array Value} {below : List Frame} {meth : Method} {c : Code} {cells slots : Nat} {Z : State → Prop} {o : Om} {emb : Hp → va_W} {A : Nat → Prop} {H0 : Heap} {nL pc : Nat} {lo : List (Nat × Value)} {st rest : List Value} {h : Hp} {own : String} {cc : ByteArray} {rt : Option FieldType}
theorem J_hp {h0 : Hp} (h : Hp) (hy : h0 = h) (k : J p l e R s m args below meth c cells slots Z o emb A H0 nL pc lo st h) : J p l e R s m args below meth c cells slots Z o emb A H0 nL pc lo st h0 := hy ▸ k
theorem J_dup2 (X : Cx p s m args meth c own cc nL rt o) {v w : Value} (hd : decode cc pc = .ok (.dup2, 1)) (hv : v.category = 1) (hw : w.category = 1) (k : J p l e R s m args below meth c cells slots Z o emb A H0 nL (pc + 1) lo (v :: w :: v :: w :: st) h) : J p l e R s m args below meth c cells slots Z o emb A H0 nL pc lo (v :: w :: st) h :=
  fun H locs ls hm hl => lv_dup2_11 X.1 X.2.1 hd hv hw (k H locs ls hm hl)
end EXTRA
def FU : Nat := 100000
def jn {κ β : Type} (k : κ) (body : κ → β) : β := body k
theorem jn_s {κ β : Type} {k : κ} {body : κ → β} {b : β} (h : jn k body = b) : ∃ k', k' = k ∧ body k' = b := ⟨k, rfl, h⟩
def fsX2 (o : Om) (a : Nat) : Hp → List Value := fun h => [.ref (o.1 (a + 1)), .ref (o.1 (a + 2)), .ref (o.1 (a + 3)), .int (h.1 a 3), .int (h.1 a 4)]
def isX2 (o : Om) (emb : Hp → va_W) (a : Nat) : Prop := EO o emb a 2 (fsX2 o a) [3, 4] ∧ EI o emb (a + 1) 81 ∧ EI o emb (a + 2) 6 ∧ EI o emb (a + 3) 6
def fsX3 (o : Om) (a : Nat) : Hp → List Value := fun h => [.ref (o.1 (a + 1)), .ref (o.1 (a + 2)), .ref (o.1 (a + 3)), .int (h.1 a 3)]
def isX3 (o : Om) (emb : Hp → va_W) (a : Nat) : Prop := EO o emb a 3 (fsX3 o a) [3] ∧ EI o emb (a + 1) 8 ∧ EI o emb (a + 2) 8 ∧ EI o emb (a + 3) 8
def fsX1 (o : Om) : Hp → List Value := fun h => [.ref (o.1 10), .int (h.1 9 1)]
def isX1 (o : Om) (emb : Hp → va_W) : Prop := EO o emb 9 1 (fsX1 o) [1] ∧ EI o emb 10 60
def fsX4 (o : Om) : Hp → List Value := fun h => [.ref (o.1 12), .int (h.1 11 1), .int (h.1 11 2), .int (h.1 11 3), .int (h.1 11 4)]
def isX4 (o : Om) (emb : Hp → va_W) : Prop := EO o emb 11 4 (fsX4 o) [1, 2, 3, 4] ∧ isX2 o emb 12
def fsX0 (o : Om) (a : Nat) : Hp → List Value := fun h => [.ref (o.1 (a + 1)), .ref (o.1 (a + 5)), .int (h.1 a 2)]
def isX0 (o : Om) (emb : Hp → va_W) (a : Nat) : Prop := EO o emb a 0 (fsX0 o a) [2] ∧ isX2 o emb (a + 1) ∧ isX3 o emb (a + 5)
def fsX5 (o : Om) : Hp → List Value := fun h => [.ref (o.1 1), .ref (o.1 5), .ref (o.1 9), .ref (o.1 11), .ref (o.1 16), .ref (o.1 25), .ref (o.1 34), .ref (o.1 35), .ref (o.1 36), .ref (o.1 37), .ref (o.1 38), .ref (o.1 39), .ref (o.1 40)]
def isX5 (o : Om) (emb : Hp → va_W) : Prop := EO o emb 0 5 (fsX5 o) [] ∧ isX2 o emb 1 ∧ isX3 o emb 5 ∧ isX1 o emb ∧ isX4 o emb ∧ isX0 o emb 16 ∧ isX0 o emb 25 ∧ EI o emb 34 9 ∧ EI o emb 35 256 ∧ EI o emb 36 256 ∧ EI o emb 37 1000 ∧ EI o emb 38 280 ∧ EI o emb 39 100 ∧ EL o emb 40 17
def fsX6 (o : Om) : Hp → List Value := fun h => [.ref (o.1 1), .ref (o.1 2), .int (h.1 0 2), .int (h.1 0 3), .ref (o.1 3), .int (h.1 0 5), .ref (o.1 4), .int (h.1 0 7), .int (h.1 0 8), .int (h.1 0 9), .int (h.1 0 10), .ref (o.1 5), .ref (o.1 6), .ref (o.1 7), .ref (o.1 8), .ref (o.1 9), .ref (o.1 10), .ref (o.1 11), .ref (o.1 12), .ref (o.1 13)]
def isX6 (o : Om) (emb : Hp → va_W) : Prop := EO o emb 0 6 (fsX6 o) [2, 3, 5, 7, 8, 9, 10] ∧ EI o emb 1 89 ∧ EI o emb 2 89 ∧ EI o emb 3 24 ∧ EI o emb 4 60 ∧ EI o emb 5 9 ∧ EI o emb 6 9 ∧ EI o emb 7 4 ∧ EI o emb 8 600 ∧ EI o emb 9 1000 ∧ EZ o emb 10 100 ∧ EL o emb 11 18 ∧ EI o emb 12 240 ∧ EZ o emb 13 2
def f_X5_put (r1 n1 : Nat) (x2 : Int32) (x3 : Int32) (h : Hp) : Option Hp := if x2 < 0 then (some h) else (if (Int32.ofNat n1) ≤ x2 then (some h) else (Option.bind (ast n1 h r1 x2 x3) fun h1 => some h1))
def f_X1_add (x1 : Int32) (h : Hp) : Option Hp := if (h.1 9 1) < (60 : Int32) then (Option.bind (f_X5_put 10 60 (h.1 9 1) x1 h) fun h1 => Option.bind (some (ip h1 9 1 ((h1.1 9 1) + (1 : Int32)))) fun h2 => some h2) else (some h)
def f_X1_empty  (h : Hp) : Option Hp := Option.bind (some (ip h 9 1 (0 : Int32))) fun h1 => some h1
def f_X5_at (r1 n1 : Nat) (x2 : Int32) (h : Hp) : Option Int32 := if x2 < 0 then (some (0 : Int32)) else (if (Int32.ofNat n1) ≤ x2 then (some (0 : Int32)) else (Option.bind (ald n1 h r1 x2) fun v1 => some v1))
def f_X1_signAt (x1 : Int32) (h : Hp) : Option Int32 := Option.bind (f_X5_at 10 60 x1 h) fun v1 => some v1
def f_X1_placeAt (x1 : Int32) (h : Hp) : Option Int32 := Option.bind (f_X1_signAt x1 h) fun v1 => some (v1 - (97 : Int32))
def f_X5_isWalker (x1 : Int32) : Option Int32 := if x1 < 0 then (some (0 : Int32)) else (if (6 : Int32) ≤ x1 then (some (0 : Int32)) else (some (1 : Int32)))
def f_X1_actLength (x1 : Int32) (h : Hp) : Option Int32 := Option.bind (f_X1_signAt x1 h) fun v1 => Option.bind (f_X5_isWalker (v1 - (65 : Int32))) fun v2 => if v2 = 0 then (if v1 = (109 : Int32) then (some (3 : Int32)) else (if v1 = (112 : Int32) then (some (5 : Int32)) else (if v1 = (46 : Int32) then (some (1 : Int32)) else (some (0 : Int32))))) else (some (2 : Int32))
def f_X5_isPlace (x1 : Int32) : Option Int32 := if x1 < 0 then (some (0 : Int32)) else (if (9 : Int32) ≤ x1 then (some (0 : Int32)) else (some (1 : Int32)))
def f_X1_canGoOn (x1 : Int32) (x2 : Int32) (h : Hp) : Option Int32 := Option.bind (f_X1_actLength x1 h) fun v1 => Option.bind (if v1 = (2 : Int32) then (some (1 : Int32)) else (some (0 : Int32))) fun t3 => Option.bind (f_X1_placeAt x2 h) fun v4 => Option.bind (f_X5_isPlace v4) fun v5 => if v5 = 0 then (if t3 = 0 then (some (0 : Int32)) else (Option.bind (f_X1_signAt x2 h) fun v6 => if v6 = (94 : Int32) then (some (1 : Int32)) else (some (0 : Int32)))) else (some (1 : Int32))
def f_X1_faultPlace_l33 (s1 : Int32) (s2 : Int32) (s3 : Int32) (h : Hp) (kx : Int32 → Option Int32) : Nat → Int32 → Option Int32
  | 0, _ => none
  | n + 1, s4 => if s3 ≤ s4 then (kx s4) else (if (s1 + s4) < (h.1 9 1) then (Option.bind (f_X1_canGoOn s1 (s1 + s4) h) fun v2 => if v2 = 0 then (some (s1 + s4)) else (Option.bind (some (s4 + (1 : Int32))) fun v3 => f_X1_faultPlace_l33 s1 s2 s3 h kx n v3)) else (some (h.1 9 1)))
def f_X1_faultPlace_l4  (h : Hp) (kx : Int32 → Int32 → Option Int32) : Nat → Int32 → Int32 → Option Int32
  | 0, _, _ => none
  | n + 1, s1, s2 => if (60 : Int32) ≤ s2 then (kx s1 s2) else (if (h.1 9 1) ≤ s1 then (kx s1 s2) else (Option.bind (f_X1_actLength s1 h) fun v1 => if v1 = 0 then (some s1) else (f_X1_faultPlace_l33 s1 s2 v1 h (fun (w4 : Int32) => Option.bind (some (s1 + v1)) fun v5 => Option.bind (some (s2 + (1 : Int32))) fun v6 => f_X1_faultPlace_l4 h kx n v5 v6) FU (1 : Int32))))
def f_X1_faultPlace  (h : Hp) : Option Int32 := f_X1_faultPlace_l4 h (fun (w7 : Int32) (w8 : Int32) => some (-6 : Int32)) FU (0 : Int32) (0 : Int32)
def f_X5_copy_l2 {R : Type} (r1 n1 : Nat) (r2 n2 : Nat) (kx : Int32 → Hp → Option R) : Nat → Int32 → Hp → Option R
  | 0, _, _ => none
  | n + 1, s2, h => if (Int32.ofNat n2) ≤ s2 then (kx s2 h) else (if (Int32.ofNat n1) ≤ s2 then (kx s2 h) else (Option.bind (ald n1 h r1 s2) fun v1 => Option.bind (ast n2 h r2 s2 v1) fun h2 => Option.bind (some (s2 + (1 : Int32))) fun v3 => f_X5_copy_l2 r1 n1 r2 n2 kx n v3 h2))
def f_X5_copy (r1 n1 : Nat) (r2 n2 : Nat) (h : Hp) : Option Hp := f_X5_copy_l2 r1 n1 r2 n2 (fun (w4 : Int32) (h5 : Hp) => some h5) FU (0 : Int32) h
def f_X2_copyFrom (a : Nat) (b1 : Nat) (h : Hp) : Option Hp := Option.bind (f_X5_copy (b1 + 1) 81 (a + 1) 81 h) fun h1 => Option.bind (f_X5_copy (b1 + 2) 6 (a + 2) 6 h1) fun h2 => Option.bind (f_X5_copy (b1 + 3) 6 (a + 3) 6 h2) fun h3 => Option.bind (some (ip h3 a 3 (h3.1 b1 3))) fun h4 => Option.bind (some (ip h4 a 4 (-6 : Int32))) fun h5 => some h5
def f_X5_areTwoPlaces (x1 : Int32) (x2 : Int32) : Option Int32 := if x1 < 0 then (some (0 : Int32)) else (if (9 : Int32) ≤ x1 then (some (0 : Int32)) else (if x2 < 0 then (some (0 : Int32)) else (if (9 : Int32) ≤ x2 then (some (0 : Int32)) else (if x1 = x2 then (some (0 : Int32)) else (some (1 : Int32))))))
def f_X2_roadBetween (a : Nat) (x1 : Int32) (x2 : Int32) (h : Hp) : Option Int32 := Option.bind (f_X5_areTwoPlaces x1 x2) fun v1 => if v1 = 0 then (some (-6 : Int32)) else (Option.bind (f_X5_at (a + 1) 81 ((x1 * (9 : Int32)) + x2) h) fun v2 => some v2)
def f_X2_putRoad (a : Nat) (x1 : Int32) (x2 : Int32) (x3 : Int32) (h : Hp) : Option Hp := Option.bind (f_X5_areTwoPlaces x1 x2) fun v1 => if v1 = 0 then (some h) else (Option.bind (f_X5_put (a + 1) 81 ((x1 * (9 : Int32)) + x2) x3 h) fun h2 => Option.bind (f_X5_put (a + 1) 81 ((x2 * (9 : Int32)) + x1) x3 h2) fun h3 => some h3)
def f_X5_within (x1 : Int32) (x2 : Int32) (x3 : Int32) : Option Int32 := if x1 < x2 then (some (0 : Int32)) else (if x3 < x1 then (some (0 : Int32)) else (some (1 : Int32)))
def f_X2_isOpen (a : Nat) (x1 : Int32) (x2 : Int32) (h : Hp) : Option Int32 := Option.bind (f_X2_roadBetween a x1 x2 h) fun v1 => Option.bind (f_X5_within v1 (0 : Int32) (8 : Int32)) fun v2 => Option.bind (zck v2) fun v3 => some v3
def f_X2_openFrom_l4 {R : Type} (a : Nat) (s1 : Int32) (h : Hp) (kx : Int32 → Int32 → Option R) : Nat → Int32 → Int32 → Option R
  | 0, _, _ => none
  | n + 1, s2, s3 => if (9 : Int32) ≤ s3 then (kx s2 s3) else (Option.bind (f_X2_isOpen a s1 s3 h) fun v1 => if v1 = 0 then (Option.bind (some (s3 + (1 : Int32))) fun v2 => f_X2_openFrom_l4 a s1 h kx n s2 v2) else (Option.bind (some (s2 ||| ((1 : Int32) <<< (s3 &&& 31)))) fun v3 => Option.bind (some (s3 + (1 : Int32))) fun v4 => f_X2_openFrom_l4 a s1 h kx n v3 v4))
def f_X2_openFrom (a : Nat) (x1 : Int32) (h : Hp) : Option Int32 := f_X2_openFrom_l4 a x1 h (fun (w5 : Int32) (w6 : Int32) => some w5) FU (0 : Int32) (0 : Int32)
def f_X2_countRoads_l4 {R : Type} (a : Nat)  (h : Hp) (kx : Int32 → Int32 → Option R) : Nat → Int32 → Int32 → Option R
  | 0, _, _ => none
  | n + 1, s1, s2 => if (81 : Int32) ≤ s2 then (kx s1 s2) else (Option.bind (ald 81 h (a + 1) s2) fun v1 => if v1 = (-6 : Int32) then (Option.bind (some (s2 + (1 : Int32))) fun v2 => f_X2_countRoads_l4 a h kx n s1 v2) else (Option.bind (some (s1 + (1 : Int32))) fun v3 => Option.bind (some (s2 + (1 : Int32))) fun v4 => f_X2_countRoads_l4 a h kx n v3 v4))
def f_X2_countRoads (a : Nat) (h : Hp) : Option Int32 := f_X2_countRoads_l4 a h (fun (w5 : Int32) (w6 : Int32) => some (w5 / (2 : Int32))) FU (0 : Int32) (0 : Int32)
def f_J6_bitCount_0f7a4 (x1 : Int32) : Option Int32 := Option.bind (some (x1 - ((iushr x1 (1 : Int32)) &&& (1431655765 : Int32)))) fun v1 => Option.bind (some ((v1 &&& (858993459 : Int32)) + ((iushr v1 (2 : Int32)) &&& (858993459 : Int32)))) fun v2 => Option.bind (some ((v2 + (iushr v2 (4 : Int32))) &&& (252645135 : Int32))) fun v3 => Option.bind (some (v3 + (iushr v3 (8 : Int32)))) fun v4 => Option.bind (some (v4 + (iushr v4 (16 : Int32)))) fun v5 => some (v5 &&& (63 : Int32))
def f_X2_countOpen_l4 {R : Type} (a : Nat)  (h : Hp) (kx : Int32 → Int32 → Option R) : Nat → Int32 → Int32 → Option R
  | 0, _, _ => none
  | n + 1, s1, s2 => if (9 : Int32) ≤ s2 then (kx s1 s2) else (Option.bind (f_X2_openFrom a s2 h) fun v1 => Option.bind (f_J6_bitCount_0f7a4 v1) fun v2 => Option.bind (some (s1 + v2)) fun v3 => Option.bind (some (s2 + (1 : Int32))) fun v4 => f_X2_countOpen_l4 a h kx n v3 v4)
def f_X2_countOpen (a : Nat) (h : Hp) : Option Int32 := f_X2_countOpen_l4 a h (fun (w5 : Int32) (w6 : Int32) => some (w5 / (2 : Int32))) FU (0 : Int32) (0 : Int32)
def f_X2_addWear_l4 {R : Type} (a : Nat)  (h : Hp) (kx : Int32 → Int32 → Option R) : Nat → Int32 → Int32 → Option R
  | 0, _, _ => none
  | n + 1, s1, s2 => if (81 : Int32) ≤ s2 then (kx s1 s2) else (Option.bind (ald 81 h (a + 1) s2) fun v1 => Option.bind (f_X5_within v1 (0 : Int32) (9 : Int32)) fun v2 => if v2 = 0 then (Option.bind (some (s2 + (1 : Int32))) fun v3 => f_X2_addWear_l4 a h kx n s1 v3) else (Option.bind (ald 81 h (a + 1) s2) fun v4 => Option.bind (some (s1 + v4)) fun v5 => Option.bind (some (s2 + (1 : Int32))) fun v6 => f_X2_addWear_l4 a h kx n v5 v6))
def f_X2_addWear (a : Nat) (h : Hp) : Option Int32 := f_X2_addWear_l4 a h (fun (w7 : Int32) (w8 : Int32) => some (w7 / (2 : Int32))) FU (0 : Int32) (0 : Int32)
def f_X5_holds (x1 : Int32) (x2 : Int32) : Option Int32 := if ((x1 >>> (x2 &&& 31)) &&& (1 : Int32)) = (1 : Int32) then (some (1 : Int32)) else (some (0 : Int32))
def f_X2_reached_l27 {R : Type} (a : Nat) (s1 : Int32) (s4 : Int32) (h : Hp) (kx : Int32 → Int32 → Option R) : Nat → Int32 → Int32 → Option R
  | 0, _, _ => none
  | n + 1, s3, s5 => if (9 : Int32) ≤ s5 then (kx s3 s5) else (if s5 = s1 then (Option.bind (some (s5 + (1 : Int32))) fun v3 => f_X2_reached_l27 a s1 s4 h kx n s3 v3) else (Option.bind (f_X5_holds s3 s5) fun v4 => if v4 = 0 then (Option.bind (some (s5 + (1 : Int32))) fun v5 => f_X2_reached_l27 a s1 s4 h kx n s3 v5) else (Option.bind (f_X2_openFrom a s5 h) fun v6 => Option.bind (some (s3 ||| v6)) fun v7 => Option.bind (some (s5 + (1 : Int32))) fun v8 => f_X2_reached_l27 a s1 s4 h kx n v7 v8)))
def f_X2_reached_l17 {R : Type} (a : Nat) (s1 : Int32) (h : Hp) (kx : Int32 → Int32 → Option R) : Nat → Int32 → Int32 → Option R
  | 0, _, _ => none
  | n + 1, s3, s4 => if (9 : Int32) ≤ s4 then (kx s3 s4) else (f_X2_reached_l27 a s1 s4 h (fun (w9 : Int32) (w10 : Int32) => Option.bind (some (s4 + (1 : Int32))) fun v11 => f_X2_reached_l17 a s1 h kx n w9 v11) FU s3 (0 : Int32))
def f_X2_reached (a : Nat) (x1 : Int32) (x2 : Int32) (h : Hp) : Option Int32 := Option.bind (f_X2_openFrom a x1 h) fun v1 => Option.bind (some (((1 : Int32) <<< (x1 &&& 31)) ||| (v1 &&& (x2 ^^^ (-1 : Int32))))) fun v2 => f_X2_reached_l17 a x1 h (fun (w12 : Int32) (w13 : Int32) => some w12) FU v2 (1 : Int32)
def f_X2_isThere (a : Nat) (x1 : Int32) (h : Hp) : Option Int32 := Option.bind (f_X5_isWalker x1) fun v1 => if v1 = 0 then (some (0 : Int32)) else (Option.bind (f_X5_at (a + 2) 6 x1 h) fun v2 => if v2 = (-1 : Int32) then (some (0 : Int32)) else (some (1 : Int32)))
def f_X2_placeOf (a : Nat) (x1 : Int32) (h : Hp) : Option Int32 := Option.bind (f_X5_at (a + 2) 6 x1 h) fun v1 => some v1
def f_X2_ironOf (a : Nat) (x1 : Int32) (h : Hp) : Option Int32 := Option.bind (f_X5_at (a + 3) 6 x1 h) fun v1 => some v1
def f_X2_putWalker (a : Nat) (x1 : Int32) (x2 : Int32) (x3 : Int32) (h : Hp) : Option Hp := Option.bind (f_X5_put (a + 2) 6 x1 x2 h) fun h1 => if x3 = 0 then (Option.bind (f_X5_put (a + 3) 6 x1 (0 : Int32) h1) fun h2 => some h2) else (Option.bind (f_X5_put (a + 3) 6 x1 (1 : Int32) h1) fun h3 => some h3)
def f_X2_walkersThere_l4 {R : Type} (a : Nat)  (h : Hp) (kx : Int32 → Int32 → Option R) : Nat → Int32 → Int32 → Option R
  | 0, _, _ => none
  | n + 1, s1, s2 => if (6 : Int32) ≤ s2 then (kx s1 s2) else (Option.bind (f_X2_isThere a s2 h) fun v1 => if v1 = 0 then (Option.bind (some (s2 + (1 : Int32))) fun v2 => f_X2_walkersThere_l4 a h kx n s1 v2) else (Option.bind (some (s1 ||| ((1 : Int32) <<< (s2 &&& 31)))) fun v3 => Option.bind (some (s2 + (1 : Int32))) fun v4 => f_X2_walkersThere_l4 a h kx n v3 v4))
def f_X2_walkersThere (a : Nat) (h : Hp) : Option Int32 := f_X2_walkersThere_l4 a h (fun (w5 : Int32) (w6 : Int32) => some w5) FU (0 : Int32) (0 : Int32)
def f_X2_shutIn_l4 {R : Type} (a : Nat)  (h : Hp) (kx : Int32 → Int32 → Option R) : Nat → Int32 → Int32 → Option R
  | 0, _, _ => none
  | n + 1, s1, s2 => if (6 : Int32) ≤ s2 then (kx s1 s2) else (Option.bind (f_X2_isThere a s2 h) fun v1 => if v1 = 0 then (Option.bind (some (s2 + (1 : Int32))) fun v2 => f_X2_shutIn_l4 a h kx n s1 v2) else (Option.bind (f_X2_placeOf a s2 h) fun v3 => Option.bind (f_X2_openFrom a v3 h) fun v4 => if v4 = 0 then (Option.bind (some (s1 ||| ((1 : Int32) <<< (s2 &&& 31)))) fun v6 => Option.bind (some (s2 + (1 : Int32))) fun v7 => f_X2_shutIn_l4 a h kx n v6 v7) else (Option.bind (some (s2 + (1 : Int32))) fun v5 => f_X2_shutIn_l4 a h kx n s1 v5)))
def f_X2_shutIn (a : Nat) (h : Hp) : Option Int32 := f_X2_shutIn_l4 a h (fun (w8 : Int32) (w9 : Int32) => some w8) FU (0 : Int32) (0 : Int32)
def f_X5_nameOfRoad (x1 : Int32) (x2 : Int32) : Option Int32 := some (((10 : Int32) * (imin x1 x2)) + (imax x1 x2))
def f_X2_walk (a : Nat) (x1 : Int32) (x2 : Int32) (h : Hp) : Option (Int32 × Hp) := Option.bind (f_X2_isThere a x1 h) fun v1 => if v1 = 0 then (some ((1 : Int32), h)) else (Option.bind (f_X2_placeOf a x1 h) fun v2 => if v2 = x2 then (some ((2 : Int32), h)) else (Option.bind (f_X2_roadBetween a v2 x2 h) fun v3 => if v3 = (-6 : Int32) then (some ((3 : Int32), h)) else (if v3 < (100 : Int32) then (if v3 < (9 : Int32) then (Option.bind (f_X2_ironOf a x1 h) fun v4 => Option.bind (some (imin (9 : Int32) ((v3 + (1 : Int32)) + v4))) fun v5 => Option.bind (f_X2_putRoad a v2 x2 v5 h) fun h6 => Option.bind (f_X5_put (a + 2) 6 x1 x2 h6) fun h7 => if v5 = (9 : Int32) then (if (h7.1 a 4) = (-6 : Int32) then (Option.bind (f_X5_nameOfRoad v2 x2) fun v8 => Option.bind (some (ip h7 a 4 v8)) fun h9 => some ((0 : Int32), h9)) else (some ((0 : Int32), h7))) else (some ((0 : Int32), h7))) else (some ((5 : Int32), h))) else (some ((4 : Int32), h)))))
def f_X2_changeIron (a : Nat) (x1 : Int32) (h : Hp) : Option (Int32 × Hp) := Option.bind (f_X2_isThere a x1 h) fun v1 => if v1 = 0 then (some ((1 : Int32), h)) else (Option.bind (f_X2_ironOf a x1 h) fun v2 => Option.bind (f_X5_put (a + 3) 6 x1 ((1 : Int32) - v2) h) fun h3 => some ((0 : Int32), h3))
def f_X2_bringIn (a : Nat) (x1 : Int32) (x2 : Int32) (h : Hp) : Option (Int32 × Hp) := Option.bind (f_X2_roadBetween a x1 x2 h) fun v1 => if v1 = (-6 : Int32) then (some ((3 : Int32), h)) else (if v1 < (100 : Int32) then (Option.bind (f_X2_putRoad a x1 x2 (103 : Int32) h) fun h2 => some ((0 : Int32), h2)) else (some ((4 : Int32), h)))
def f_X2_patch (a : Nat) (x1 : Int32) (x2 : Int32) (x3 : Int32) (x4 : Int32) (h : Hp) : Option (Int32 × Hp) := Option.bind (f_X2_roadBetween a x1 x2 h) fun v1 => Option.bind (f_X2_roadBetween a x3 x4 h) fun v2 => if v1 = (-6 : Int32) then (some ((3 : Int32), h)) else (if v2 = (-6 : Int32) then (some ((3 : Int32), h)) else (if (100 : Int32) ≤ v1 then (some ((4 : Int32), h)) else (if v2 < (100 : Int32) then (Option.bind (f_X5_nameOfRoad x1 x2) fun v3 => Option.bind (f_X5_nameOfRoad x3 x4) fun v4 => if v3 = v4 then (some ((6 : Int32), h)) else (Option.bind (f_X2_putRoad a x1 x2 (v1 / (2 : Int32)) h) fun h5 => Option.bind (f_X2_putRoad a x3 x4 (-6 : Int32) h5) fun h6 => some ((0 : Int32), h6))) else (some ((4 : Int32), h)))))
def f_X2_passDay_l24 {R : Type} (a : Nat) (kx : Int32 → Hp → Option R) : Nat → Int32 → Hp → Option R
  | 0, _, _ => none
  | n + 1, s1, h => if (81 : Int32) ≤ s1 then (kx s1 h) else (Option.bind (ald 81 h (a + 1) s1) fun v2 => if v2 ≤ (100 : Int32) then (Option.bind (some (s1 + (1 : Int32))) fun v3 => f_X2_passDay_l24 a kx n v3 h) else (Option.bind (ald 81 h (a + 1) s1) fun v4 => Option.bind (if v4 = (101 : Int32) then (some (0 : Int32)) else (Option.bind (ald 81 h (a + 1) s1) fun v9 => some (v9 - (1 : Int32)))) fun t6 => Option.bind (ast 81 h (a + 1) s1 t6) fun h7 => Option.bind (some (s1 + (1 : Int32))) fun v8 => f_X2_passDay_l24 a kx n v8 h7))
def f_X2_passDay (a : Nat) (h : Hp) : Option (Int32 × Hp) := if (h.1 a 3) < (99 : Int32) then (Option.bind (some (ip h a 3 ((h.1 a 3) + (1 : Int32)))) fun h1 => f_X2_passDay_l24 a (fun (w10 : Int32) (h11 : Hp) => some ((0 : Int32), h11)) FU (0 : Int32) h1) else (some ((7 : Int32), h))
def f_X3_copyFrom (a : Nat) (b1 : Nat) (h : Hp) : Option Hp := Option.bind (f_X5_copy (b1 + 1) 8 (a + 1) 8 h) fun h1 => Option.bind (f_X5_copy (b1 + 2) 8 (a + 2) 8 h1) fun h2 => Option.bind (f_X5_copy (b1 + 3) 8 (a + 3) 8 h2) fun h3 => Option.bind (some (ip h3 a 3 (h3.1 b1 3))) fun h4 => some h4
def f_X3_add (a : Nat) (x1 : Int32) (x2 : Int32) (x3 : Int32) (h : Hp) : Option Hp := if (h.1 a 3) < (8 : Int32) then (Option.bind (f_X5_put (a + 1) 8 (h.1 a 3) x1 h) fun h1 => Option.bind (f_X5_put (a + 2) 8 (h1.1 a 3) x2 h1) fun h2 => Option.bind (f_X5_put (a + 3) 8 (h2.1 a 3) x3 h2) fun h3 => Option.bind (some (ip h3 a 3 ((h3.1 a 3) + (1 : Int32)))) fun h4 => some h4) else (some h)
def f_X5_reading (x1 : Int32) (x2 : Int32) (x3 : Int32) : Option Int32 := Option.bind (some (x3 / (100 : Int32))) fun v1 => Option.bind (some (irem (x3 / (10 : Int32)) (10 : Int32))) fun v2 => Option.bind (some (irem x3 (10 : Int32))) fun v3 => if x1 = (1 : Int32) then (some (x2 * (v2 + v3))) else (some (v1 + (x2 * (v2 + ((2 : Int32) * v3)))))
def f_X3_allowGuess_l2 (a : Nat) (s1 : Int32) (h : Hp) (kx : Int32 → Option Int32) : Nat → Int32 → Option Int32
  | 0, _ => none
  | n + 1, s2 => if (h.1 a 3) ≤ s2 then (kx s2) else (if (8 : Int32) ≤ s2 then (kx s2) else (Option.bind (f_X5_at (a + 1) 8 s2 h) fun v1 => Option.bind (f_X5_at (a + 2) 8 s2 h) fun v2 => Option.bind (f_X5_reading v1 v2 s1) fun v3 => Option.bind (f_X5_at (a + 3) 8 s2 h) fun v4 => if v3 = v4 then (Option.bind (some (s2 + (1 : Int32))) fun v5 => f_X3_allowGuess_l2 a s1 h kx n v5) else (some (0 : Int32))))
def f_X3_allowGuess (a : Nat) (x1 : Int32) (h : Hp) : Option Int32 := f_X3_allowGuess_l2 a x1 h (fun (w6 : Int32) => some (1 : Int32)) FU (0 : Int32)
def f_X4_begin (b1 : Nat) (h : Hp) : Option Hp := Option.bind (f_X2_copyFrom 12 b1 h) fun h1 => Option.bind (some (ip h1 11 1 (0 : Int32))) fun h2 => Option.bind (some (ip h2 11 2 (-6 : Int32))) fun h3 => Option.bind (some (ip h3 11 3 (-6 : Int32))) fun h4 => Option.bind (some (ip h4 11 4 (-6 : Int32))) fun h5 => some h5
def f_X4_take (x2 : Int32) (h : Hp) : Option (Int32 × Hp) := Option.bind (f_X1_signAt x2 h) fun v1 => if v1 = (46 : Int32) then (Option.bind (f_X2_passDay 12 h) fun t11 => some (t11.1, t11.2)) else (Option.bind (f_X1_placeAt (x2 + (1 : Int32)) h) fun v2 => Option.bind (f_X1_placeAt (x2 + (2 : Int32)) h) fun v3 => if v1 = (109 : Int32) then (Option.bind (f_X2_bringIn 12 v2 v3 h) fun t10 => some (t10.1, t10.2)) else (if v1 = (112 : Int32) then (Option.bind (f_X1_placeAt (x2 + (3 : Int32)) h) fun v7 => Option.bind (f_X1_placeAt (x2 + (4 : Int32)) h) fun v8 => Option.bind (f_X2_patch 12 v2 v3 v7 v8 h) fun t9 => some (t9.1, t9.2)) else (Option.bind (f_X1_signAt (x2 + (1 : Int32)) h) fun v4 => if v4 = (94 : Int32) then (Option.bind (f_X2_changeIron 12 (v1 - (65 : Int32)) h) fun t6 => some (t6.1, t6.2)) else (Option.bind (f_X2_walk 12 (v1 - (65 : Int32)) v2 h) fun t5 => some (t5.1, t5.2)))))
def f_X4_follow_l10 (b2 : Nat) (kx : Int32 → Int32 → Hp → Option Hp) : Nat → Int32 → Int32 → Hp → Option Hp
  | 0, _, _, _ => none
  | n + 1, s3, s4, h => if (60 : Int32) ≤ s4 then (kx s3 s4 h) else (if (h.1 9 1) ≤ s3 then (kx s3 s4 h) else (Option.bind (f_X4_take s3 h) fun t2 => if t2.1 = 0 then (Option.bind (if (t2.2.1 11 4) = (-6 : Int32) then (if (t2.2.1 12 4) = (-6 : Int32) then (some t2.2) else (Option.bind (some (ip t2.2 11 4 s4)) fun h9 => some h9)) else (some t2.2)) fun t4 => Option.bind (some (ip t4 11 1 ((t4.1 11 1) + (1 : Int32)))) fun h5 => Option.bind (f_X1_actLength s3 h5) fun v6 => Option.bind (some (s3 + v6)) fun v7 => Option.bind (some (s4 + (1 : Int32))) fun v8 => f_X4_follow_l10 b2 kx n v7 v8 h5) else (Option.bind (some (ip t2.2 11 2 s4)) fun h10 => Option.bind (some (ip h10 11 3 t2.1)) fun h11 => some h11)))
def f_X4_follow (b2 : Nat) (h : Hp) : Option Hp := Option.bind (f_X4_begin b2 h) fun h1 => f_X4_follow_l10 b2 (fun (w12 : Int32) (w13 : Int32) (h14 : Hp) => some h14) FU (0 : Int32) (0 : Int32) h1
def f_X4_takeDrawn (x1 : Int32) (h : Hp) : Option Hp := Option.bind (some (irem x1 (6 : Int32))) fun v1 => Option.bind (some (irem (x1 / (6 : Int32)) (8 : Int32))) fun v2 => Option.bind (some (x1 / (48 : Int32))) fun v3 => if v2 = (7 : Int32) then (Option.bind (f_X2_passDay 12 h) fun t7 => some t7.2) else (if v2 = (6 : Int32) then (Option.bind (f_X2_bringIn 12 (irem v3 (9 : Int32)) (irem (v3 / (9 : Int32)) (9 : Int32)) h) fun t6 => some t6.2) else (if v2 = (5 : Int32) then (Option.bind (f_X2_changeIron 12 v1 h) fun t5 => some t5.2) else (Option.bind (f_X2_walk 12 v1 (irem v3 (9 : Int32)) h) fun t4 => some t4.2)))
def f_X4_followDraws_l11 {R : Type} (b3 : Nat) (s2 : Int32) (kx : Int32 → Int32 → Hp → Option R) : Nat → Int32 → Int32 → Hp → Option R
  | 0, _, _, _ => none
  | n + 1, s4, s5, h => if s2 ≤ s5 then (kx s4 s5 h) else (Option.bind (some (irem (((75 : Int32) * s4) + (74 : Int32)) (65537 : Int32))) fun v2 => Option.bind (f_X4_takeDrawn v2 h) fun h3 => Option.bind (some (s5 + (1 : Int32))) fun v4 => f_X4_followDraws_l11 b3 s2 kx n v2 v4 h3)
def f_X4_followDraws (x1 : Int32) (x2 : Int32) (b3 : Nat) (h : Hp) : Option Hp := Option.bind (f_X4_begin b3 h) fun h1 => f_X4_followDraws_l11 b3 x2 (fun (w5 : Int32) (w6 : Int32) (h7 : Hp) => some h7) FU x1 (0 : Int32) h1
def f_X5_road (x1 : Int32) (x2 : Int32) (x3 : Int32) (h : Hp) : Option (Int32 × Hp) := Option.bind (f_X5_areTwoPlaces x1 x2) fun v1 => if v1 = 0 then (some ((-1 : Int32), h)) else (Option.bind (f_X5_within x3 (-1 : Int32) (9 : Int32)) fun v2 => if v2 = 0 then (some ((-2 : Int32), h)) else (Option.bind (if 0 ≤ x3 then (some x3) else (some (-6 : Int32))) fun t4 => Option.bind (f_X2_putRoad 1 x1 x2 t4 h) fun h5 => Option.bind (f_X2_countRoads 1 h5) fun v6 => some (v6, h5)))
def f_X5_walker (x1 : Int32) (x2 : Int32) (x3 : Int32) (h : Hp) : Option (Int32 × Hp) := Option.bind (f_X5_isWalker x1) fun v1 => if v1 = 0 then (some ((-1 : Int32), h)) else (Option.bind (f_X5_isPlace x2) fun v2 => if v2 = 0 then (some ((-1 : Int32), h)) else (Option.bind (f_X2_putWalker 1 x1 x2 x3 h) fun h3 => Option.bind (f_X2_walkersThere 1 h3) fun v4 => Option.bind (f_J6_bitCount_0f7a4 v4) fun v5 => some (v5, h3)))
def f_X5_say (x1 : Int32) (h : Hp) : Option (Int32 × Hp) := Option.bind (f_X5_within x1 (33 : Int32) (126 : Int32)) fun v1 => if v1 = 0 then (some ((-2 : Int32), h)) else (if (h.1 9 1) < (60 : Int32) then (Option.bind (f_X1_add x1 h) fun h2 => some ((h2.1 9 1), h2)) else (some ((-4 : Int32), h)))
def f_X5_wipe  (h : Hp) : Option (Int32 × Hp) := Option.bind (some (h.1 9 1)) fun v1 => Option.bind (f_X1_empty  h) fun h2 => some (v1, h2)
def f_X5_fault  (h : Hp) : Option Int32 := Option.bind (f_X1_faultPlace  h) fun v1 => some v1
def f_X5_judge (x1 : Int32) (h : Hp) : Option (Int32 × Hp) := Option.bind (f_X5_within x1 (0 : Int32) (1 : Int32)) fun v1 => if v1 = 0 then (some ((-2 : Int32), h)) else (Option.bind (f_X1_faultPlace  h) fun v2 => if v2 = (-6 : Int32) then (Option.bind (f_X4_follow 1 h) fun h3 => if x1 = 0 then (some ((h3.1 11 2), h3)) else (some ((h3.1 11 3), h3))) else (some ((-5 : Int32), h)))
def f_X5_canBeDone  (h : Hp) : Option (Int32 × Hp) := Option.bind (f_X1_faultPlace  h) fun v1 => if v1 = (-6 : Int32) then (Option.bind (f_X4_follow 1 h) fun h2 => if (h2.1 11 2) = (-6 : Int32) then (some ((1 : Int32), h2)) else (some ((0 : Int32), h2))) else (some ((0 : Int32), h))
def f_X5_done  (h : Hp) : Option (Int32 × Hp) := Option.bind (f_X5_canBeDone  h) fun t1 => if t1.1 = 0 then (some ((-5 : Int32), t1.2)) else (Option.bind (f_X2_copyFrom 1 12 t1.2) fun h2 => Option.bind (f_X1_empty  h2) fun h3 => some ((h3.1 11 1), h3))
def f_X5_behind (x1 : Int32) (x2 : Int32) (h : Hp) : Option (Int32 × Hp) := Option.bind (f_X5_areTwoPlaces x1 x2) fun v1 => if v1 = 0 then (some ((-1 : Int32), h)) else (Option.bind (f_X5_canBeDone  h) fun t2 => if t2.1 = 0 then (some ((-5 : Int32), t2.2)) else (Option.bind (f_X2_roadBetween 12 x1 x2 t2.2) fun v3 => some (v3, t2.2)))
def f_X5_goes (x1 : Int32) (x2 : Int32) (h : Hp) : Option (Int32 × Hp) := Option.bind (f_X2_isThere 1 x1 h) fun v1 => if v1 = 0 then (some ((-1 : Int32), h)) else (Option.bind (f_X5_within x2 (0 : Int32) (1 : Int32)) fun v2 => if v2 = 0 then (some ((-2 : Int32), h)) else (Option.bind (f_X5_canBeDone  h) fun t3 => if t3.1 = 0 then (some ((-5 : Int32), t3.2)) else (if x2 = 0 then (Option.bind (f_X2_placeOf 12 x1 t3.2) fun v5 => some (v5, t3.2)) else (Option.bind (f_X2_ironOf 12 x1 t3.2) fun v4 => some (v4, t3.2)))))
def f_X5_then (x1 : Int32) (h : Hp) : Option (Int32 × Hp) := Option.bind (f_X5_within x1 (0 : Int32) (5 : Int32)) fun v1 => if v1 = 0 then (some ((-2 : Int32), h)) else (Option.bind (f_X5_canBeDone  h) fun t2 => if t2.1 = 0 then (some ((-5 : Int32), t2.2)) else (if x1 = (0 : Int32) then (Option.bind (f_X2_countRoads 12 t2.2) fun v5 => some (v5, t2.2)) else (if x1 = (1 : Int32) then (Option.bind (f_X2_addWear 12 t2.2) fun v4 => some (v4, t2.2)) else (if x1 = (2 : Int32) then (Option.bind (f_X2_shutIn 12 t2.2) fun v3 => some (v3, t2.2)) else (if x1 = (3 : Int32) then (some ((t2.2.1 12 3), t2.2)) else (if x1 = (4 : Int32) then (some ((t2.2.1 11 4), t2.2)) else (some ((t2.2.1 12 4), t2.2))))))))
def f_J7_fill_53178_l5 {R : Type} (r1 n1 : Nat) (s1 : Int32) (s3 : Int32) (kx : Int32 → Hp → Option R) : Nat → Int32 → Hp → Option R
  | 0, _, _ => none
  | n + 1, s2, h => if s3 ≤ s2 then (kx s2 h) else (Option.bind (ast n1 h r1 s2 s1) fun h2 => Option.bind (some (s2 + (1 : Int32))) fun v3 => f_J7_fill_53178_l5 r1 n1 s1 s3 kx n v3 h2)
def f_J7_fill_53178 (r1 n1 : Nat) (x2 : Int32) (h : Hp) : Option Hp := Option.bind (some (Int32.ofNat n1)) fun v1 => f_J7_fill_53178_l5 r1 n1 x2 v1 (fun (w4 : Int32) (h5 : Hp) => some h5) FU (0 : Int32) h
def f_X5_lengthenFrom_l19 {R : Type} (s1 : Int32) (s2 : Int32) (s3 : Int32) (kx : Int32 → Hp → Option R) : Nat → Int32 → Hp → Option R
  | 0, _, _ => none
  | n + 1, s4, h => if (9 : Int32) ≤ s4 then (kx s4 h) else (Option.bind (f_X2_isOpen 1 s1 s4 h) fun v2 => if v2 = 0 then (Option.bind (some (s4 + (1 : Int32))) fun v3 => f_X5_lengthenFrom_l19 s1 s2 s3 kx n v3 h) else (Option.bind (if s2 = 0 then (some (1 : Int32)) else (Option.bind (f_X2_roadBetween 1 s1 s4 h) fun v13 => some v13)) fun t5 => Option.bind (some (s3 + t5)) fun v6 => Option.bind (f_X5_at 34 9 s4 h) fun v7 => jn (fun (j9 : Int32) => Option.bind (f_X5_put 34 9 j9 v6 h) fun h10 => Option.bind (some (j9 + (1 : Int32))) fun v11 => f_X5_lengthenFrom_l19 s1 s2 s3 kx n v11 h10) fun k8 => if v7 = (-6 : Int32) then (k8 s4) else (if v7 ≤ v6 then (Option.bind (some (s4 + (1 : Int32))) fun v12 => f_X5_lengthenFrom_l19 s1 s2 s3 kx n v12 h) else (k8 s4))))
def f_X5_lengthenFrom (x1 : Int32) (x2 : Int32) (h : Hp) : Option Hp := Option.bind (f_X5_at 34 9 x1 h) fun v1 => if v1 = (-6 : Int32) then (some h) else (f_X5_lengthenFrom_l19 x1 x2 v1 (fun (w14 : Int32) (h15 : Hp) => some h15) FU (0 : Int32) h)
def f_X5_leastWay_l31 {R : Type} (s2 : Int32) (s3 : Int32) (s4 : Int32) (kx : Int32 → Hp → Option R) : Nat → Int32 → Hp → Option R
  | 0, _, _ => none
  | n + 1, s5, h => if (9 : Int32) ≤ s5 then (kx s5 h) else (Option.bind (f_X5_lengthenFrom s5 s3 h) fun h3 => Option.bind (some (s5 + (1 : Int32))) fun v4 => f_X5_leastWay_l31 s2 s3 s4 kx n v4 h3)
def f_X5_leastWay_l21 {R : Type} (s2 : Int32) (s3 : Int32) (kx : Int32 → Hp → Option R) : Nat → Int32 → Hp → Option R
  | 0, _, _ => none
  | n + 1, s4, h => if (9 : Int32) ≤ s4 then (kx s4 h) else (f_X5_leastWay_l31 s2 s3 s4 (fun (w5 : Int32) (h6 : Hp) => Option.bind (some (s4 + (1 : Int32))) fun v7 => f_X5_leastWay_l21 s2 s3 kx n v7 h6) FU (0 : Int32) h)
def f_X5_leastWay (x1 : Int32) (x2 : Int32) (x3 : Int32) (h : Hp) : Option (Int32 × Hp) := Option.bind (f_J7_fill_53178 34 9 (-6 : Int32) h) fun h1 => Option.bind (f_X5_put 34 9 x1 (0 : Int32) h1) fun h2 => f_X5_leastWay_l21 x2 x3 (fun (w8 : Int32) (h9 : Hp) => Option.bind (f_X5_at 34 9 x2 h9) fun v10 => some (v10, h9)) FU (1 : Int32) h2
def f_X5_way (x1 : Int32) (x2 : Int32) (x3 : Int32) (h : Hp) : Option (Int32 × Hp) := Option.bind (f_X5_isPlace x1) fun v1 => if v1 = 0 then (some ((-1 : Int32), h)) else (Option.bind (f_X5_isPlace x2) fun v2 => if v2 = 0 then (some ((-1 : Int32), h)) else (Option.bind (f_X5_within x3 (0 : Int32) (1 : Int32)) fun v3 => if v3 = 0 then (some ((-2 : Int32), h)) else (if x3 = (1 : Int32) then (Option.bind (f_X5_leastWay x1 x2 (1 : Int32) h) fun t5 => some (t5.1, t5.2)) else (Option.bind (f_X5_leastWay x1 x2 (0 : Int32) h) fun t4 => some (t4.1, t4.2)))))
def f_X5_parts_l33 {R : Type} (s1 : Int32) (s4 : Int32) (h : Hp) (kx : Int32 → Int32 → Int32 → Option R) : Nat → Int32 → Int32 → Int32 → Option R
  | 0, _, _, _ => none
  | n + 1, s2, s3, s5 => if (9 : Int32) ≤ s5 then (kx s2 s3 s5) else (Option.bind (f_X2_isOpen 1 s4 s5 h) fun v3 => if v3 = 0 then (Option.bind (some (s5 + (1 : Int32))) fun v4 => f_X5_parts_l33 s1 s4 h kx n s2 s3 v4) else (Option.bind (f_X2_reached 1 s4 ((1 : Int32) <<< (s5 &&& 31)) h) fun v5 => Option.bind (f_X5_holds v5 s5) fun v6 => if v6 = 0 then (Option.bind (some (s2 + (1 : Int32))) fun v8 => if s3 = (-6 : Int32) then (Option.bind (f_X5_nameOfRoad s4 s5) fun v10 => Option.bind (some (s5 + (1 : Int32))) fun v11 => f_X5_parts_l33 s1 s4 h kx n v8 v10 v11) else (Option.bind (some (s5 + (1 : Int32))) fun v9 => f_X5_parts_l33 s1 s4 h kx n v8 s3 v9)) else (Option.bind (some (s5 + (1 : Int32))) fun v7 => f_X5_parts_l33 s1 s4 h kx n s2 s3 v7)))
def f_X5_parts_l20 {R : Type} (s1 : Int32) (h : Hp) (kx : Int32 → Int32 → Int32 → Option R) : Nat → Int32 → Int32 → Int32 → Option R
  | 0, _, _, _ => none
  | n + 1, s2, s3, s4 => if (9 : Int32) ≤ s4 then (kx s2 s3 s4) else (Option.bind (some (s4 + (1 : Int32))) fun v2 => f_X5_parts_l33 s1 s4 h (fun (w12 : Int32) (w13 : Int32) (w14 : Int32) => Option.bind (some (s4 + (1 : Int32))) fun v15 => f_X5_parts_l20 s1 h kx n w12 w13 v15) FU s2 s3 v2)
def f_X5_parts (x1 : Int32) (h : Hp) : Option Int32 := Option.bind (f_X5_within x1 (0 : Int32) (1 : Int32)) fun v1 => if v1 = 0 then (some (-2 : Int32)) else (f_X5_parts_l20 x1 h (fun (w16 : Int32) (w17 : Int32) (w18 : Int32) => if x1 = 0 then (some w16) else (some w17)) FU (0 : Int32) (-6 : Int32) (0 : Int32))
def f_X5_walksWithin_l7 {R : Type} (s1 : Int32) (h : Hp) (kx : Int32 → Int32 → Int32 → Option R) : Nat → Int32 → Int32 → Int32 → Option R
  | 0, _, _, _ => none
  | n + 1, s2, s3, s4 => if (9 : Int32) ≤ s4 then (kx s2 s3 s4) else (Option.bind (f_X5_holds s1 s4) fun v1 => if v1 = 0 then (Option.bind (some (s4 + (1 : Int32))) fun v2 => f_X5_walksWithin_l7 s1 h kx n s2 s3 v2) else (Option.bind (f_X2_openFrom 1 s4 h) fun v3 => Option.bind (f_J6_bitCount_0f7a4 v3) fun v4 => Option.bind (some (s2 + v4)) fun v5 => Option.bind (some (s3 + (irem v4 (2 : Int32)))) fun v6 => Option.bind (some (s4 + (1 : Int32))) fun v7 => f_X5_walksWithin_l7 s1 h kx n v5 v6 v7))
def f_X5_walksWithin (x1 : Int32) (h : Hp) : Option Int32 := f_X5_walksWithin_l7 x1 h (fun (w8 : Int32) (w9 : Int32) (w10 : Int32) => if w8 = 0 then (some (0 : Int32)) else (some (imax (1 : Int32) (w9 / (2 : Int32))))) FU (0 : Int32) (0 : Int32) (0 : Int32)
def f_X5_strokes_l6 {R : Type}  (h : Hp) (kx : Int32 → Int32 → Int32 → Option R) : Nat → Int32 → Int32 → Int32 → Option R
  | 0, _, _, _ => none
  | n + 1, s1, s2, s3 => if (9 : Int32) ≤ s3 then (kx s1 s2 s3) else (Option.bind (f_X5_holds s2 s3) fun v1 => if v1 = 0 then (Option.bind (f_X2_reached 1 s3 (0 : Int32) h) fun v3 => Option.bind (some (s2 ||| v3)) fun v4 => Option.bind (f_X5_walksWithin v3 h) fun v5 => Option.bind (some (s1 + v5)) fun v6 => Option.bind (some (s3 + (1 : Int32))) fun v7 => f_X5_strokes_l6 h kx n v6 v4 v7) else (Option.bind (some (s3 + (1 : Int32))) fun v2 => f_X5_strokes_l6 h kx n s1 s2 v2))
def f_X5_strokes  (h : Hp) : Option Int32 := f_X5_strokes_l6 h (fun (w8 : Int32) (w9 : Int32) (w10 : Int32) => some w8) FU (0 : Int32) (0 : Int32) (0 : Int32)
def f_X5_powerOfTen_l4 {R : Type} (s0 : Int32) (kx : Int64 → Int32 → Option R) : Nat → Int64 → Int32 → Option R
  | 0, _, _ => none
  | n + 1, s1, s3 => if s0 ≤ s3 then (kx s1 s3) else (Option.bind (some (s1 * (10 : Int64))) fun v1 => Option.bind (some (s3 + (1 : Int32))) fun v2 => f_X5_powerOfTen_l4 s0 kx n v1 v2)
def f_X5_powerOfTen (x1 : Int32) : Option Int64 := f_X5_powerOfTen_l4 x1 (fun (w3 : Int64) (w4 : Int32) => some w3) FU (1 : Int64) (0 : Int32)
def f_X5_digit_l4 {R : Type} (s1 : Int32) (kx : Int32 → Int32 → Option R) : Nat → Int32 → Int32 → Option R
  | 0, _, _ => none
  | n + 1, s2, s3 => if s1 ≤ s3 then (kx s2 s3) else (Option.bind (some (s2 / (10 : Int32))) fun v1 => Option.bind (some (s3 + (1 : Int32))) fun v2 => f_X5_digit_l4 s1 kx n v1 v2)
def f_X5_digit (x1 : Int32) (x2 : Int32) : Option Int32 := f_X5_digit_l4 x2 (fun (w3 : Int32) (w4 : Int32) => some (irem w3 (10 : Int32))) FU x1 (0 : Int32)
def f_X5_hasDigits_l18 (s0 : Int32) (s1 : Int32) (kx : Int32 → Option Int32) : Nat → Int32 → Option Int32
  | 0, _ => none
  | n + 1, s2 => if s1 ≤ s2 then (kx s2) else (Option.bind (f_X5_digit s0 s2) fun v2 => if v2 = 0 then (some (0 : Int32)) else (Option.bind (some (s2 + (1 : Int32))) fun v3 => f_X5_hasDigits_l18 s0 s1 kx n v3))
def f_X5_hasDigits (x1 : Int32) (x2 : Int32) : Option Int32 := if x1 < 0 then (some (0 : Int32)) else (Option.bind (f_X5_powerOfTen x2) fun v1 => if (lg_cmp (x1).toInt64 v1) < 0 then (f_X5_hasDigits_l18 x1 x2 (fun (w4 : Int32) => some (1 : Int32)) FU (0 : Int32)) else (some (0 : Int32)))
def f_X5_fillLoads_l13 {R : Type} (s1 : Int32) (s2 : Int32) (s3 : Int32) (kx : Int32 → Int32 → Option R) : Nat → Int32 → Int32 → Option R
  | 0, _, _ => none
  | n + 1, s4, s5 => if (8 : Int32) ≤ s5 then (kx s4 s5) else (Option.bind (f_X5_holds s3 s5) fun v1 => if v1 = 0 then (Option.bind (some (s5 + (1 : Int32))) fun v2 => f_X5_fillLoads_l13 s1 s2 s3 kx n s4 v2) else (Option.bind (f_X5_digit s1 s5) fun v3 => Option.bind (some (s4 + v3)) fun v4 => Option.bind (some (s5 + (1 : Int32))) fun v5 => f_X5_fillLoads_l13 s1 s2 s3 kx n v4 v5))
def f_X5_fillLoads_l2 {R : Type} (s1 : Int32) (s2 : Int32) (kx : Int32 → Hp → Option R) : Nat → Int32 → Hp → Option R
  | 0, _, _ => none
  | n + 1, s3, h => if s2 ≤ s3 then (kx s3 h) else (f_X5_fillLoads_l13 s1 s2 s3 (fun (w6 : Int32) (w7 : Int32) => Option.bind (f_X5_put 35 256 s3 w6 h) fun h8 => Option.bind (f_X5_put 36 256 s3 w6 h8) fun h9 => Option.bind (some (s3 + (1 : Int32))) fun v10 => f_X5_fillLoads_l2 s1 s2 kx n v10 h9) FU (0 : Int32) (0 : Int32))
def f_X5_fillLoads (x1 : Int32) (x2 : Int32) (h : Hp) : Option Hp := f_X5_fillLoads_l2 x1 x2 (fun (w11 : Int32) (h12 : Hp) => some h12) FU (0 : Int32) h
def f_X5_giveToOneMoreHand_l20 {R : Type} (s2 : Int32) (h : Hp) (kx : Int32 → Int32 → Option R) : Nat → Int32 → Int32 → Option R
  | 0, _, _ => none
  | n + 1, s3, s4 => if s2 < s4 then (kx s3 s4) else (if (s4 &&& s2) = s4 then (Option.bind (f_X5_at 35 256 s4 h) fun v4 => Option.bind (f_X5_at 36 256 (s2 - s4) h) fun v5 => Option.bind (some (imin s3 (imax v4 v5))) fun v6 => Option.bind (some (s4 + (1 : Int32))) fun v7 => f_X5_giveToOneMoreHand_l20 s2 h kx n v6 v7) else (Option.bind (some (s4 + (1 : Int32))) fun v3 => f_X5_giveToOneMoreHand_l20 s2 h kx n s3 v3))
def f_X5_giveToOneMoreHand_l4 {R : Type} (kx : Int32 → Hp → Option R) : Nat → Int32 → Hp → Option R
  | 0, _, _ => none
  | n + 1, s2, h => if s2 ≤ 0 then (kx s2 h) else (Option.bind (f_X5_at 36 256 s2 h) fun v2 => f_X5_giveToOneMoreHand_l20 s2 h (fun (w8 : Int32) (w9 : Int32) => Option.bind (f_X5_put 36 256 s2 w8 h) fun h10 => Option.bind (some (s2 + (-1 : Int32))) fun v11 => f_X5_giveToOneMoreHand_l4 kx n v11 h10) FU v2 (1 : Int32))
def f_X5_giveToOneMoreHand (x1 : Int32) (h : Hp) : Option Hp := Option.bind (some (x1 - (1 : Int32))) fun v1 => f_X5_giveToOneMoreHand_l4 (fun (w12 : Int32) (h13 : Hp) => some h13) FU v1 h
def f_X5_mended_l48 {R : Type} (s3 : Int32) (s4 : Int32) (kx : Int32 → Hp → Option R) : Nat → Int32 → Hp → Option R
  | 0, _, _ => none
  | n + 1, s5, h => if s3 < s5 then (kx s5 h) else (Option.bind (f_X5_giveToOneMoreHand s4 h) fun h6 => Option.bind (some (s5 + (1 : Int32))) fun v7 => f_X5_mended_l48 s3 s4 kx n v7 h6)
def f_X5_mended (x1 : Int32) (x2 : Int32) (x3 : Int32) (h : Hp) : Option (Int32 × Hp) := Option.bind (f_X5_within x2 (1 : Int32) (8 : Int32)) fun v1 => if v1 = 0 then (some ((-2 : Int32), h)) else (Option.bind (f_X5_within x3 (1 : Int32) (4 : Int32)) fun v2 => if v2 = 0 then (some ((-2 : Int32), h)) else (Option.bind (f_X5_hasDigits x1 x2) fun v3 => if v3 = 0 then (some ((-2 : Int32), h)) else (Option.bind (some ((1 : Int32) <<< (x2 &&& 31))) fun v4 => Option.bind (f_X5_fillLoads x1 v4 h) fun h5 => f_X5_mended_l48 x3 v4 (fun (w8 : Int32) (h9 : Hp) => Option.bind (f_X5_at 36 256 (v4 - (1 : Int32)) h9) fun v10 => some (v10, h9)) FU (2 : Int32) h5)))
def f_X5_countUsers_l5 {R : Type} (s0 : Int32) (s1 : Int32) (s2 : Int32) (kx : Int32 → Int32 → Option R) : Nat → Int32 → Int32 → Option R
  | 0, _, _ => none
  | n + 1, s3, s4 => if s1 ≤ s4 then (kx s3 s4) else (Option.bind (f_X5_digit s0 s4) fun v1 => if v1 < s2 then (Option.bind (some (s4 + (1 : Int32))) fun v2 => f_X5_countUsers_l5 s0 s1 s2 kx n s3 v2) else (Option.bind (some (s3 + (1 : Int32))) fun v3 => Option.bind (some (s4 + (1 : Int32))) fun v4 => f_X5_countUsers_l5 s0 s1 s2 kx n v3 v4))
def f_X5_countUsers (x1 : Int32) (x2 : Int32) (x3 : Int32) : Option Int32 := f_X5_countUsers_l5 x1 x2 x3 (fun (w5 : Int32) (w6 : Int32) => some w5) FU (0 : Int32) (0 : Int32)
def f_X5_commonDivisor_l9 {R : Type} (kx : Int64 → Int64 → Int32 → Option R) : Nat → Int64 → Int64 → Int32 → Option R
  | 0, _, _, _ => none
  | n + 1, s4, s6, s8 => if (200 : Int32) ≤ s8 then (kx s4 s6 s8) else (if (lg_cmp s6 (0 : Int64)) = 0 then (kx s4 s6 s8) else (Option.bind (lrm s4 s6) fun v1 => Option.bind (some (s8 + (1 : Int32))) fun v2 => f_X5_commonDivisor_l9 kx n s6 v1 v2))
def f_X5_commonDivisor (x1 : Int64) (x2 : Int64) : Option Int64 := f_X5_commonDivisor_l9 (fun (w3 : Int64) (w4 : Int64) (w5 : Int32) => some w3) FU x1 x2 (0 : Int32)
def f_X5_lowestTerms (x1 : Int64) (x2 : Int64) (x3 : Int32) : Option Int64 := Option.bind (f_X5_commonDivisor x1 x2) fun v1 => Option.bind (if x3 = 0 then (some x1) else (some x2)) fun t3 => if (lg_cmp v1 (0 : Int64)) ≤ 0 then (some t3) else (Option.bind (ldv t3 v1) fun v4 => some v4)
def f_X5_pays_l70 {R : Type} (s1 : Int32) (s2 : Int32) (s4 : Int32) (s5 : Int32) (kx : Int64 → Int32 → Option R) : Nat → Int64 → Int32 → Option R
  | 0, _, _ => none
  | n + 1, s6, s8 => if s5 < s8 then (kx s6 s8) else (Option.bind (f_X5_countUsers s1 s2 s8) fun v6 => if v6 ≤ 0 then (Option.bind (some (s8 + (1 : Int32))) fun v7 => f_X5_pays_l70 s1 s2 s4 s5 kx n s6 v7) else (Option.bind (idv (2520 : Int32) v6) fun v8 => Option.bind (some (s6 + (v8).toInt64)) fun v9 => Option.bind (some (s8 + (1 : Int32))) fun v10 => f_X5_pays_l70 s1 s2 s4 s5 kx n v9 v10))
def f_X5_pays (x1 : Int32) (x2 : Int32) (x3 : Int32) (x4 : Int32) : Option Int64 := Option.bind (f_X5_within x2 (1 : Int32) (9 : Int32)) fun v1 => if v1 = 0 then (some (-1000000000000000002 : Int64)) else (if x1 < 0 then (some (-1000000000000000002 : Int64)) else (Option.bind (f_X5_powerOfTen x2) fun v2 => if (lg_cmp (x1).toInt64 v2) < 0 then (Option.bind (f_X5_within x3 (0 : Int32) (x2 - (1 : Int32))) fun v3 => if v3 = 0 then (some (-1000000000000000002 : Int64)) else (Option.bind (f_X5_within x4 (0 : Int32) (1 : Int32)) fun v4 => if v4 = 0 then (some (-1000000000000000002 : Int64)) else (Option.bind (f_X5_digit x1 ((x2 - (1 : Int32)) - x3)) fun v5 => f_X5_pays_l70 x1 x2 x4 v5 (fun (w11 : Int64) (w12 : Int32) => Option.bind (f_X5_lowestTerms w11 (2520 : Int64) x4) fun v13 => some v13) FU (0 : Int64) (1 : Int32)))) else (some (-1000000000000000002 : Int64))))
def f_X5_seen (x1 : Int32) (x2 : Int32) (x3 : Int32) (h : Hp) : Option (Int32 × Hp) := Option.bind (f_X5_within x2 (0 : Int32) (20 : Int32)) fun v1 => if v1 = 0 then (some ((-2 : Int32), h)) else (Option.bind (f_X5_within x3 (0 : Int32) (9999 : Int32)) fun v2 => if v2 = 0 then (some ((-2 : Int32), h)) else (if (h.1 5 3) < (8 : Int32) then (Option.bind (if x1 = 0 then (some (0 : Int32)) else (some (1 : Int32))) fun t4 => Option.bind (f_X3_add 5 t4 x2 x3 h) fun h5 => some ((h5.1 5 3), h5)) else (some ((-4 : Int32), h))))
def f_X5_forget  (h : Hp) : Option (Int32 × Hp) := Option.bind (some (h.1 5 3)) fun v1 => Option.bind (some (ip h 5 3 (0 : Int32))) fun h2 => some (v1, h2)
def f_X5_gatherFitting_l4 {R : Type} (kx : Int32 → Int32 → Hp → Option R) : Nat → Int32 → Int32 → Hp → Option R
  | 0, _, _, _ => none
  | n + 1, s1, s2, h => if (1000 : Int32) ≤ s2 then (kx s1 s2 h) else (Option.bind (f_X3_allowGuess 5 s2 h) fun v1 => if v1 = 0 then (Option.bind (some (s2 + (1 : Int32))) fun v2 => f_X5_gatherFitting_l4 kx n s1 v2 h) else (Option.bind (f_X5_put 37 1000 s1 s2 h) fun h3 => Option.bind (some (s1 + (1 : Int32))) fun v4 => Option.bind (some (s2 + (1 : Int32))) fun v5 => f_X5_gatherFitting_l4 kx n v4 v5 h3))
def f_X5_gatherFitting  (h : Hp) : Option (Int32 × Hp) := f_X5_gatherFitting_l4 (fun (w6 : Int32) (w7 : Int32) (h8 : Hp) => some (w6, h8)) FU (0 : Int32) (0 : Int32) h
def f_X5_who (x1 : Int32) (h : Hp) : Option (Int32 × Hp) := if (-1 : Int32) ≤ x1 then (Option.bind (f_X5_gatherFitting  h) fun t1 => if x1 = (-1 : Int32) then (some (t1.1, t1.2)) else (if t1.1 ≤ x1 then (some ((-6 : Int32), t1.2)) else (Option.bind (f_X5_at 37 1000 x1 t1.2) fun v2 => some (v2, t1.2)))) else (some ((-6 : Int32), h))
def f_X5_mostLeft_l14 {R : Type} (s1 : Int32) (s2 : Int32) (s3 : Int32) (kx : Int32 → Int32 → Hp → Option R) : Nat → Int32 → Int32 → Hp → Option R
  | 0, _, _, _ => none
  | n + 1, s4, s5, h => if s3 ≤ s5 then (kx s4 s5 h) else (Option.bind (f_X5_at 37 1000 s5 h) fun v2 => Option.bind (f_X5_reading s1 s2 v2) fun v3 => Option.bind (f_X5_at 38 280 v3 h) fun v4 => Option.bind (some (v4 + (1 : Int32))) fun v5 => Option.bind (f_X5_put 38 280 v3 v5 h) fun h6 => Option.bind (some (imax s4 v5)) fun v7 => Option.bind (some (s5 + (1 : Int32))) fun v8 => f_X5_mostLeft_l14 s1 s2 s3 kx n v7 v8 h6)
def f_X5_mostLeft (x1 : Int32) (x2 : Int32) (x3 : Int32) (h : Hp) : Option (Int32 × Hp) := Option.bind (f_J7_fill_53178 38 280 (0 : Int32) h) fun h1 => f_X5_mostLeft_l14 x1 x2 x3 (fun (w9 : Int32) (w10 : Int32) (h11 : Hp) => some (w9, h11)) FU (0 : Int32) (0 : Int32) h1
def f_X5_ask_l44 {R : Type} (s1 : Int32) (s2 : Int32) (s5 : Int32) (kx : Int32 → Int32 → Int32 → Hp → Option R) : Nat → Int32 → Int32 → Int32 → Hp → Option R
  | 0, _, _, _, _ => none
  | n + 1, s3, s4, s6, h => if (1 : Int32) < s6 then (kx s3 s4 s6 h) else (Option.bind (f_X5_mostLeft s6 s5 s2 h) fun t3 => if s4 ≤ t3.1 then (Option.bind (some (s6 + (1 : Int32))) fun v4 => f_X5_ask_l44 s1 s2 s5 kx n s3 s4 v4 t3.2) else (Option.bind (some (((10 : Int32) * s5) + s6)) fun v5 => Option.bind (some (s6 + (1 : Int32))) fun v6 => f_X5_ask_l44 s1 s2 s5 kx n v5 t3.1 v6 t3.2))
def f_X5_ask_l34 {R : Type} (s1 : Int32) (s2 : Int32) (kx : Int32 → Int32 → Int32 → Hp → Option R) : Nat → Int32 → Int32 → Int32 → Hp → Option R
  | 0, _, _, _, _ => none
  | n + 1, s3, s4, s5, h => if (10 : Int32) < s5 then (kx s3 s4 s5 h) else (f_X5_ask_l44 s1 s2 s5 (fun (w7 : Int32) (w8 : Int32) (w9 : Int32) (h10 : Hp) => Option.bind (some (s5 + (1 : Int32))) fun v11 => f_X5_ask_l34 s1 s2 kx n w7 w8 v11 h10) FU s3 s4 (0 : Int32) h)
def f_X5_ask (x1 : Int32) (h : Hp) : Option (Int32 × Hp) := Option.bind (f_X5_within x1 (0 : Int32) (1 : Int32)) fun v1 => if v1 = 0 then (some ((-2 : Int32), h)) else (Option.bind (f_X5_gatherFitting  h) fun t2 => if t2.1 = 0 then (some ((-6 : Int32), t2.2)) else (f_X5_ask_l34 x1 t2.1 (fun (w12 : Int32) (w13 : Int32) (w14 : Int32) (h15 : Hp) => if x1 = 0 then (some (w12, h15)) else (some (w13, h15))) FU (0 : Int32) (1001 : Int32) (0 : Int32) t2.2))
def f_X5_winningTake_l2 (s1 : Int32) (s2 : Int32) (h : Hp) (kx : Int32 → Option Int32) : Nat → Int32 → Option Int32
  | 0, _ => none
  | n + 1, s3 => if (9 : Int32) < s3 then (kx s3) else (if s1 < s3 then (kx s3) else (Option.bind (f_X5_holds s2 (s3 - (1 : Int32))) fun v1 => if v1 = 0 then (Option.bind (some (s3 + (1 : Int32))) fun v2 => f_X5_winningTake_l2 s1 s2 h kx n v2) else (Option.bind (f_X5_at 39 100 (s1 - s3) h) fun v3 => if v3 = (-6 : Int32) then (some s3) else (Option.bind (some (s3 + (1 : Int32))) fun v4 => f_X5_winningTake_l2 s1 s2 h kx n v4))))
def f_X5_winningTake (x1 : Int32) (x2 : Int32) (h : Hp) : Option Int32 := f_X5_winningTake_l2 x1 x2 h (fun (w5 : Int32) => some (-6 : Int32)) FU (1 : Int32)
def f_X5_tacks_l36 {R : Type} (s1 : Int32) (s2 : Int32) (s3 : Int32) (kx : Int32 → Hp → Option R) : Nat → Int32 → Hp → Option R
  | 0, _, _ => none
  | n + 1, s4, h => if s1 < s4 then (kx s4 h) else (Option.bind (f_X5_winningTake s4 s2 h) fun v4 => Option.bind (f_X5_put 39 100 s4 v4 h) fun h5 => Option.bind (some (s4 + (1 : Int32))) fun v6 => f_X5_tacks_l36 s1 s2 s3 kx n v6 h5)
def f_X5_tacks (x1 : Int32) (x2 : Int32) (x3 : Int32) (h : Hp) : Option (Int32 × Hp) := Option.bind (f_X5_within x1 (0 : Int32) (99 : Int32)) fun v1 => if v1 = 0 then (some ((-2 : Int32), h)) else (Option.bind (f_X5_within x2 (1 : Int32) (511 : Int32)) fun v2 => if v2 = 0 then (some ((-2 : Int32), h)) else (Option.bind (f_X5_within x3 (0 : Int32) (1 : Int32)) fun v3 => if v3 = 0 then (some ((-2 : Int32), h)) else (f_X5_tacks_l36 x1 x2 x3 (fun (w7 : Int32) (h8 : Hp) => Option.bind (f_X5_at 39 100 x1 h8) fun v9 => if x3 = 0 then (if v9 = (-6 : Int32) then (some ((0 : Int32), h8)) else (some ((1 : Int32), h8))) else (some (v9, h8))) FU (0 : Int32) h)))
def f_J7_fill_d0a16_l6 {R : Type} (r1 n1 : Nat) (s1 : Int64) (s4 : Int32) (kx : Int32 → Hp → Option R) : Nat → Int32 → Hp → Option R
  | 0, _, _ => none
  | n + 1, s3, h => if s4 ≤ s3 then (kx s3 h) else (Option.bind (last n1 h r1 s3 s1) fun h2 => Option.bind (some (s3 + (1 : Int32))) fun v3 => f_J7_fill_d0a16_l6 r1 n1 s1 s4 kx n v3 h2)
def f_J7_fill_d0a16 (r1 n1 : Nat) (x2 : Int64) (h : Hp) : Option Hp := Option.bind (some (Int32.ofNat n1)) fun v1 => f_J7_fill_d0a16_l6 r1 n1 x2 v1 (fun (w4 : Int32) (h5 : Hp) => some h5) FU (0 : Int32) h
def f_X5_fillChances_l39 {R : Type} (s1 : Int32) (s2 : Int32) (s3 : Int32) (kx : Int32 → Hp → Option R) : Nat → Int32 → Hp → Option R
  | 0, _, _ => none
  | n + 1, s4, h => if s4 < 0 then (kx s4 h) else (Option.bind (if s4 ≤ 0 then (some (0 : Int64)) else (Option.bind (lald 17 h 40 (s4 - (1 : Int32))) fun v10 => some (v10 * (s2).toInt64))) fun t6 => Option.bind (lald 17 h 40 s4) fun v7 => Option.bind (last 17 h 40 s4 ((v7 * (((10 : Int32) - s2)).toInt64) + t6)) fun h8 => Option.bind (some (s4 + (-1 : Int32))) fun v9 => f_X5_fillChances_l39 s1 s2 s3 kx n v9 h8)
def f_X5_fillChances_l25 {R : Type} (s1 : Int32) (s2 : Int32) (kx : Int32 → Hp → Option R) : Nat → Int32 → Hp → Option R
  | 0, _, _ => none
  | n + 1, s3, h => if s1 < s3 then (kx s3 h) else (Option.bind (some ((17 : Int32) - (1 : Int32))) fun v4 => f_X5_fillChances_l39 s1 s2 s3 (fun (w11 : Int32) (h12 : Hp) => Option.bind (some (s3 + (1 : Int32))) fun v13 => f_X5_fillChances_l25 s1 s2 kx n v13 h12) FU v4 h)
def f_X5_fillChances (x1 : Int32) (x2 : Int32) (h : Hp) : Option Hp := Option.bind (f_J7_fill_d0a16 40 17 (0 : Int64) h) fun h1 => Option.bind (if (17 : Int32) ≤ 0 then (some h1) else (Option.bind (last 17 h1 40 (0 : Int32) (1 : Int64)) fun h16 => some h16)) fun t3 => f_X5_fillChances_l25 x1 x2 (fun (w14 : Int32) (h15 : Hp) => some h15) FU (1 : Int32) t3
def f_X5_wet_l92 {R : Type} (s1 : Int32) (s3 : Int32) (s5 : Int32) (h : Hp) (kx : Int64 → Int32 → Option R) : Nat → Int64 → Int32 → Option R
  | 0, _, _ => none
  | n + 1, s6, s8 => if s1 < s8 then (kx s6 s8) else (if (17 : Int32) ≤ s8 then (kx s6 s8) else (if (s1 + s8) < s3 then (Option.bind (some (s8 + (1 : Int32))) fun v7 => f_X5_wet_l92 s1 s3 s5 h kx n s6 v7) else (Option.bind (lald 17 h 40 s8) fun v8 => Option.bind (some (s6 + v8)) fun v9 => Option.bind (some (s8 + (1 : Int32))) fun v10 => f_X5_wet_l92 s1 s3 s5 h kx n v9 v10)))
def f_X5_wet (x1 : Int32) (x2 : Int32) (x3 : Int32) (x4 : Int32) (x5 : Int32) (h : Hp) : Option (Int64 × Hp) := Option.bind (f_X5_within x1 (0 : Int32) (16 : Int32)) fun v1 => if v1 = 0 then (some ((-1000000000000000002 : Int64), h)) else (Option.bind (f_X5_within x2 (0 : Int32) (10 : Int32)) fun v2 => if v2 = 0 then (some ((-1000000000000000002 : Int64), h)) else (Option.bind (f_X5_within x3 (0 : Int32) (40 : Int32)) fun v3 => if v3 = 0 then (some ((-1000000000000000002 : Int64), h)) else (Option.bind (f_X5_within x4 (0 : Int32) (1 : Int32)) fun v4 => if v4 = 0 then (some ((-1000000000000000002 : Int64), h)) else (Option.bind (f_X5_within x5 (0 : Int32) (1 : Int32)) fun v5 => if v5 = 0 then (some ((-1000000000000000002 : Int64), h)) else (if x4 = (1 : Int32) then (Option.bind (f_X5_lowestTerms ((x1 * ((10 : Int32) + x2))).toInt64 (10 : Int64) x5) fun v15 => some (v15, h)) else (Option.bind (f_X5_fillChances x1 x2 h) fun h6 => f_X5_wet_l92 x1 x3 x5 h6 (fun (w11 : Int64) (w12 : Int32) => Option.bind (f_X5_powerOfTen x1) fun v13 => Option.bind (f_X5_lowestTerms w11 v13 x5) fun v14 => some (v14, h6)) FU (0 : Int64) (0 : Int32)))))))
def f_X5_year (x1 : Int32) (x2 : Int32) (x3 : Int32) (h : Hp) : Option (Int32 × Hp) := Option.bind (f_X5_within x1 (0 : Int32) (9999 : Int32)) fun v1 => if v1 = 0 then (some ((-2 : Int32), h)) else (Option.bind (f_X5_within x2 (1 : Int32) (99 : Int32)) fun v2 => if v2 = 0 then (some ((-2 : Int32), h)) else (Option.bind (f_X5_within x3 (0 : Int32) (2 : Int32)) fun v3 => if v3 = 0 then (some ((-2 : Int32), h)) else (Option.bind (f_X4_followDraws x1 x2 1 h) fun h4 => if x3 = (0 : Int32) then (Option.bind (f_X2_addWear 12 h4) fun v8 => some (v8, h4)) else (if x3 = (1 : Int32) then (Option.bind (f_X2_shutIn 12 h4) fun v6 => Option.bind (f_J6_bitCount_0f7a4 v6) fun v7 => some (v7, h4)) else (Option.bind (f_X2_countOpen 12 h4) fun v5 => some (v5, h4))))))
def f_X5_image (x1 : Int32) (h : Hp) : Option (Int32 × Hp) := Option.bind (f_X5_within x1 (0 : Int32) (1 : Int32)) fun v1 => if v1 = 0 then (some ((-2 : Int32), h)) else (if x1 = 0 then (Option.bind (f_X2_copyFrom 17 1 h) fun h5 => Option.bind (f_X3_copyFrom 21 5 h5) fun h6 => Option.bind (some (ip h6 16 2 (1 : Int32))) fun h7 => some ((1 : Int32), h7)) else (Option.bind (f_X2_copyFrom 26 1 h) fun h2 => Option.bind (f_X3_copyFrom 30 5 h2) fun h3 => Option.bind (some (ip h3 25 2 (1 : Int32))) fun h4 => some ((1 : Int32), h4)))
def f_X5_restore (x1 : Int32) (h : Hp) : Option (Int32 × Hp) := Option.bind (f_X5_within x1 (0 : Int32) (1 : Int32)) fun v1 => if v1 = 0 then (some ((-2 : Int32), h)) else (if x1 = 0 then (if (h.1 16 2) = 0 then (some ((-3 : Int32), h)) else (Option.bind (f_X2_copyFrom 1 17 h) fun h4 => Option.bind (f_X3_copyFrom 5 21 h4) fun h5 => some ((1 : Int32), h5))) else (if (h.1 25 2) = 0 then (some ((-3 : Int32), h)) else (Option.bind (f_X2_copyFrom 1 26 h) fun h2 => Option.bind (f_X3_copyFrom 5 30 h2) fun h3 => some ((1 : Int32), h3))))
def f_X5_told (x1 : Int32) (h : Hp) : Option Int32 := if x1 = 0 then (some (h.1 9 1)) else (if x1 = (1 : Int32) then (Option.bind (f_X2_walkersThere 1 h) fun v16 => some v16) else (if x1 = (2 : Int32) then (some (h.1 1 3)) else (if x1 = (3 : Int32) then (some (h.1 5 3)) else (Option.bind (f_X5_within x1 (10 : Int32) (19 : Int32)) fun v1 => if v1 = 0 then (Option.bind (f_X5_within x1 (20 : Int32) (29 : Int32)) fun v2 => if v2 = 0 then (Option.bind (f_X5_within x1 (30 : Int32) (39 : Int32)) fun v3 => if v3 = 0 then (Option.bind (f_X5_within x1 (100 : Int32) (199 : Int32)) fun v4 => if v4 = 0 then (some (-2 : Int32)) else (Option.bind (some ((x1 - (100 : Int32)) / (10 : Int32))) fun v5 => Option.bind (some (irem (x1 - (100 : Int32)) (10 : Int32))) fun v6 => Option.bind (f_X5_isPlace v5) fun v7 => if v7 = 0 then (some (-2 : Int32)) else (Option.bind (f_X5_isPlace v6) fun v8 => if v8 = 0 then (some (-2 : Int32)) else (Option.bind (f_X2_roadBetween 1 v5 v6 h) fun v9 => some v9)))) else (Option.bind (f_X5_isPlace (x1 - (30 : Int32))) fun v10 => if v10 = 0 then (some (-2 : Int32)) else (Option.bind (f_X2_openFrom 1 (x1 - (30 : Int32)) h) fun v11 => some v11))) else (Option.bind (f_X2_isThere 1 (x1 - (20 : Int32)) h) fun v12 => if v12 = 0 then (some (-2 : Int32)) else (Option.bind (f_X2_ironOf 1 (x1 - (20 : Int32)) h) fun v13 => some v13))) else (Option.bind (f_X2_isThere 1 (x1 - (10 : Int32)) h) fun v14 => if v14 = 0 then (some (-2 : Int32)) else (Option.bind (f_X2_placeOf 1 (x1 - (10 : Int32)) h) fun v15 => some v15))))))
def f_X6_in (x1 : Int32) (x2 : Int32) (x3 : Int32) : Option Int32 := if x1 < x2 then (some (0 : Int32)) else (if x3 < x1 then (some (0 : Int32)) else (some (1 : Int32)))
def f_X6_has (x1 : Int32) (x2 : Int32) : Option Int32 := if ((x1 >>> (x2 &&& 31)) &&& (1 : Int32)) = (1 : Int32) then (some (1 : Int32)) else (some (0 : Int32))
def f_X6_bits_l4 {R : Type} (s0 : Int32) (kx : Int32 → Int32 → Option R) : Nat → Int32 → Int32 → Option R
  | 0, _, _ => none
  | n + 1, s1, s2 => if (9 : Int32) ≤ s2 then (kx s1 s2) else (Option.bind (some (s1 + ((s0 >>> (s2 &&& 31)) &&& (1 : Int32)))) fun v1 => Option.bind (some (s2 + (1 : Int32))) fun v2 => f_X6_bits_l4 s0 kx n v1 v2)
def f_X6_bits (x1 : Int32) : Option Int32 := f_X6_bits_l4 x1 (fun (w3 : Int32) (w4 : Int32) => some w3) FU (0 : Int32) (0 : Int32)
def f_X6_isPlace (x1 : Int32) : Option Int32 := Option.bind (f_X6_in x1 (0 : Int32) (8 : Int32)) fun v1 => Option.bind (zck v1) fun v2 => some v2
def f_X6_isThere (x1 : Int32) (h : Hp) : Option Int32 := Option.bind (f_X6_in x1 (0 : Int32) (5 : Int32)) fun v1 => if v1 = 0 then (some (0 : Int32)) else (Option.bind (f_X6_has (h.1 0 2) x1) fun v2 => if v2 = 0 then (some (0 : Int32)) else (some (1 : Int32)))
def f_X6_roadsOf_l4 {R : Type}  (h : Hp) (kx : Int32 → Int32 → Option R) : Nat → Int32 → Int32 → Option R
  | 0, _, _ => none
  | n + 1, s1, s2 => if (81 : Int32) ≤ s2 then (kx s1 s2) else (Option.bind (ald 89 h 2 s2) fun v1 => Option.bind (if v1 < 0 then (some (0 : Int32)) else (some (1 : Int32))) fun t3 => Option.bind (some (s1 + t3)) fun v4 => Option.bind (some (s2 + (1 : Int32))) fun v5 => f_X6_roadsOf_l4 h kx n v4 v5)
def f_X6_roadsOf  (h : Hp) : Option Int32 := f_X6_roadsOf_l4 h (fun (w6 : Int32) (w7 : Int32) => some (w6 / (2 : Int32))) FU (0 : Int32) (0 : Int32)
def f_X6_asNow_l2 {R : Type} (kx : Int32 → Hp → Option R) : Nat → Int32 → Hp → Option R
  | 0, _, _ => none
  | n + 1, s1, h => if (89 : Int32) ≤ s1 then (kx s1 h) else (Option.bind (ald 89 h 1 s1) fun v1 => Option.bind (ast 89 h 2 s1 v1) fun h2 => Option.bind (some (s1 + (1 : Int32))) fun v3 => f_X6_asNow_l2 kx n v3 h2)
def f_X6_asNow  (h : Hp) : Option Hp := f_X6_asNow_l2 (fun (w4 : Int32) (h5 : Hp) => Option.bind (some (ip h5 0 7 (-6 : Int32))) fun h6 => Option.bind (some (ip h6 0 8 (-6 : Int32))) fun h7 => some h7) FU (0 : Int32) h
def f_X6_road (x1 : Int32) (x2 : Int32) (x3 : Int32) (h : Hp) : Option (Int32 × Hp) := Option.bind (f_X6_isPlace x1) fun v1 => if v1 = 0 then (some ((-1 : Int32), h)) else (Option.bind (f_X6_isPlace x2) fun v2 => if v2 = 0 then (some ((-1 : Int32), h)) else (if x1 = x2 then (some ((-1 : Int32), h)) else (Option.bind (f_X6_in x3 (-1 : Int32) (9 : Int32)) fun v3 => if v3 = 0 then (some ((-2 : Int32), h)) else (Option.bind (if 0 ≤ x3 then (some x3) else (some (-6 : Int32))) fun t5 => Option.bind (ast 89 h 1 (((9 : Int32) * x1) + x2) t5) fun h6 => Option.bind (if 0 ≤ x3 then (some x3) else (some (-6 : Int32))) fun t8 => Option.bind (ast 89 h6 1 (((9 : Int32) * x2) + x1) t8) fun h9 => Option.bind (f_X6_asNow  h9) fun h10 => Option.bind (f_X6_roadsOf  h10) fun v11 => some (v11, h10)))))
def f_X6_walker (x1 : Int32) (x2 : Int32) (x3 : Int32) (h : Hp) : Option (Int32 × Hp) := Option.bind (f_X6_in x1 (0 : Int32) (5 : Int32)) fun v1 => if v1 = 0 then (some ((-1 : Int32), h)) else (Option.bind (f_X6_isPlace x2) fun v2 => if v2 = 0 then (some ((-1 : Int32), h)) else (Option.bind (some (ip h 0 2 ((h.1 0 2) ||| ((1 : Int32) <<< (x1 &&& 31))))) fun h3 => Option.bind (ast 89 h3 1 ((81 : Int32) + x1) x2) fun h4 => Option.bind (ald 89 h4 1 (87 : Int32)) fun v5 => Option.bind (ast 89 h4 1 (87 : Int32) (v5 &&& (((1 : Int32) <<< (x1 &&& 31)) ^^^ (-1 : Int32)))) fun h6 => Option.bind (ald 89 h6 1 (87 : Int32)) fun v7 => Option.bind (if x3 = 0 then (some (0 : Int32)) else (some ((1 : Int32) <<< (x1 &&& 31)))) fun t9 => Option.bind (ast 89 h6 1 (87 : Int32) (v7 ||| t9)) fun h10 => Option.bind (f_X6_bits (h10.1 0 2)) fun v11 => some (v11, h10)))
def f_X6_say (x1 : Int32) (h : Hp) : Option (Int32 × Hp) := Option.bind (f_X6_in x1 (33 : Int32) (126 : Int32)) fun v1 => if v1 = 0 then (some ((-2 : Int32), h)) else (if (h.1 0 5) = (60 : Int32) then (some ((-4 : Int32), h)) else (Option.bind (ast 60 h 4 (h.1 0 5) x1) fun h2 => Option.bind (some (ip h2 0 5 ((h2.1 0 5) + (1 : Int32)))) fun h3 => some ((h3.1 0 5), h3)))
def f_X6_wipe  (h : Hp) : Option (Int32 × Hp) := Option.bind (some (h.1 0 5)) fun v1 => Option.bind (some (ip h 0 5 (0 : Int32))) fun h2 => some (v1, h2)
def f_X6_faultOf_l4  (h : Hp) (kx : Int32 → Int32 → Option Int32) : Nat → Int32 → Int32 → Option Int32
  | 0, _, _ => none
  | n + 1, s1, s2 => if (h.1 0 5) ≤ s2 then (kx s1 s2) else (Option.bind (ald 60 h 4 s2) fun v1 => Option.bind (f_X6_in v1 (97 : Int32) (105 : Int32)) fun v2 => if s1 ≤ 0 then (if 0 ≤ s1 then (Option.bind (f_X6_in v1 (65 : Int32) (70 : Int32)) fun v3 => if v3 = 0 then (jn (fun (j5 : Int32) => Option.bind (if v1 = (109 : Int32) then (some (2 : Int32)) else (some (4 : Int32))) fun t7 => Option.bind (some (j5 + (1 : Int32))) fun v8 => f_X6_faultOf_l4 h kx n t7 v8) fun k4 => if v1 = (109 : Int32) then (k4 s2) else (if v1 = (112 : Int32) then (k4 s2) else (if v1 = (46 : Int32) then (Option.bind (some (s2 + (1 : Int32))) fun v9 => f_X6_faultOf_l4 h kx n s1 v9) else (some s2)))) else (Option.bind (some (s2 + (1 : Int32))) fun v10 => f_X6_faultOf_l4 h kx n (-1 : Int32) v10)) else (jn (fun (_u : Unit) => Option.bind (some (s2 + (1 : Int32))) fun v12 => f_X6_faultOf_l4 h kx n (0 : Int32) v12) fun k11 => if v2 = 0 then (if v1 = (94 : Int32) then (k11 ()) else (some s2)) else (k11 ()))) else (if v2 = 0 then (some s2) else (Option.bind (some (s1 + (-1 : Int32))) fun v13 => Option.bind (some (s2 + (1 : Int32))) fun v14 => f_X6_faultOf_l4 h kx n v13 v14)))
def f_X6_faultOf  (h : Hp) : Option Int32 := f_X6_faultOf_l4 h (fun (w15 : Int32) (w16 : Int32) => if w15 = 0 then (some (-6 : Int32)) else (some (h.1 0 5))) FU (0 : Int32) (0 : Int32)
def f_X6_fault  (h : Hp) : Option Int32 := Option.bind (f_X6_faultOf  h) fun v1 => some v1
def f_X6_lay (x1 : Int32) (x2 : Int32) (x3 : Int32) (h : Hp) : Option Hp := Option.bind (ast 89 h 2 (((9 : Int32) * x1) + x2) x3) fun h1 => Option.bind (ast 89 h1 2 (((9 : Int32) * x2) + x1) x3) fun h2 => some h2
def f_X6_barOf (x1 : Int32) (x2 : Int32) (h : Hp) : Option Int32 := Option.bind (ald 89 h 2 (((9 : Int32) * x1) + x2)) fun v1 => if 0 ≤ v1 then (if v1 ≤ (99 : Int32) then (some (0 : Int32)) else (some (4 : Int32))) else (some (3 : Int32))
def f_X6_walk (x1 : Int32) (x2 : Int32) (h : Hp) : Option (Int32 × Hp) := Option.bind (f_X6_isThere x1 h) fun v1 => if v1 = 0 then (some ((1 : Int32), h)) else (Option.bind (ald 89 h 2 ((81 : Int32) + x1)) fun v2 => if v2 = x2 then (some ((2 : Int32), h)) else (Option.bind (f_X6_barOf v2 x2 h) fun v3 => Option.bind (ald 89 h 2 (((9 : Int32) * v2) + x2)) fun v4 => jn (fun (j6 : Hp) => if v3 ≤ 0 then (some ((5 : Int32), j6)) else (some (v3, j6))) fun k5 => if 0 < v3 then (k5 h) else (if v4 = (9 : Int32) then (k5 h) else (Option.bind (ald 89 h 2 (87 : Int32)) fun v7 => Option.bind (f_X6_has v7 x1) fun v8 => Option.bind (if v8 = 0 then (some (1 : Int32)) else (some (2 : Int32))) fun t10 => Option.bind (some (v4 + t10)) fun v11 => Option.bind (if v11 ≤ (9 : Int32) then (some v11) else (some (9 : Int32))) fun t13 => Option.bind (f_X6_lay v2 x2 t13 h) fun h14 => Option.bind (ast 89 h14 2 ((81 : Int32) + x1) x2) fun h15 => some ((0 : Int32), h15)))))
def f_X6_shoe (x1 : Int32) (h : Hp) : Option (Int32 × Hp) := Option.bind (f_X6_isThere x1 h) fun v1 => if v1 = 0 then (some ((1 : Int32), h)) else (Option.bind (ald 89 h 2 (87 : Int32)) fun v2 => Option.bind (ast 89 h 2 (87 : Int32) (v2 ^^^ ((1 : Int32) <<< (x1 &&& 31)))) fun h3 => some ((0 : Int32), h3))
def f_X6_bring (x1 : Int32) (x2 : Int32) (h : Hp) : Option (Int32 × Hp) := Option.bind (f_X6_barOf x1 x2 h) fun v1 => if v1 = 0 then (Option.bind (f_X6_lay x1 x2 (103 : Int32) h) fun h2 => some (v1, h2)) else (some (v1, h))
def f_X6_patch (x1 : Int32) (x2 : Int32) (x3 : Int32) (x4 : Int32) (h : Hp) : Option (Int32 × Hp) := Option.bind (f_X6_barOf x1 x2 h) fun v1 => Option.bind (f_X6_barOf x3 x4 h) fun v2 => if v1 = (3 : Int32) then (some ((3 : Int32), h)) else (if v2 = (3 : Int32) then (some ((3 : Int32), h)) else (if v1 = (4 : Int32) then (some ((4 : Int32), h)) else (if v2 = (4 : Int32) then (some ((4 : Int32), h)) else (jn (fun (_u : Unit) => jn (fun (_u : Unit) => Option.bind (ald 89 h 2 (((9 : Int32) * x1) + x2)) fun v5 => Option.bind (f_X6_lay x1 x2 (v5 / (2 : Int32)) h) fun h6 => Option.bind (f_X6_lay x3 x4 (-6 : Int32) h6) fun h7 => some ((0 : Int32), h7)) fun k4 => if x1 = x4 then (if x2 = x3 then (some ((6 : Int32), h)) else (k4 ())) else (k4 ())) fun k3 => if x1 = x3 then (if x2 = x4 then (some ((6 : Int32), h)) else (k3 ())) else (k3 ())))))
def f_X6_endDay_l28 {R : Type} (kx : Int32 → Hp → Option R) : Nat → Int32 → Hp → Option R
  | 0, _, _ => none
  | n + 1, s1, h => if (81 : Int32) ≤ s1 then (kx s1 h) else (Option.bind (ald 89 h 2 s1) fun v4 => Option.bind (if v4 = (101 : Int32) then (some (0 : Int32)) else (Option.bind (ald 89 h 2 s1) fun v9 => if v9 ≤ (101 : Int32) then (Option.bind (ald 89 h 2 s1) fun v10 => some v10) else (Option.bind (ald 89 h 2 s1) fun v11 => some (v11 - (1 : Int32))))) fun t6 => Option.bind (ast 89 h 2 s1 t6) fun h7 => Option.bind (some (s1 + (1 : Int32))) fun v8 => f_X6_endDay_l28 kx n v8 h7)
def f_X6_endDay  (h : Hp) : Option (Int32 × Hp) := Option.bind (ald 89 h 2 (88 : Int32)) fun v1 => if v1 = (99 : Int32) then (some ((7 : Int32), h)) else (Option.bind (ald 89 h 2 (88 : Int32)) fun v2 => Option.bind (ast 89 h 2 (88 : Int32) (v2 + (1 : Int32))) fun h3 => f_X6_endDay_l28 (fun (w12 : Int32) (h13 : Hp) => some ((0 : Int32), h13)) FU (0 : Int32) h3)
def f_X6_isOpen (x1 : Int32) (x2 : Int32) (h : Hp) : Option Int32 := Option.bind (ald 89 h 2 (((9 : Int32) * x1) + x2)) fun v1 => Option.bind (f_X6_in v1 (0 : Int32) (8 : Int32)) fun v2 => Option.bind (zck v2) fun v3 => some v3
def f_X6_openFrom_l4 {R : Type} (s1 : Int32) (h : Hp) (kx : Int32 → Int32 → Option R) : Nat → Int32 → Int32 → Option R
  | 0, _, _ => none
  | n + 1, s2, s3 => if (9 : Int32) ≤ s3 then (kx s2 s3) else (Option.bind (f_X6_isOpen s1 s3 h) fun v1 => Option.bind (if v1 = 0 then (some (0 : Int32)) else (some ((1 : Int32) <<< (s3 &&& 31)))) fun t3 => Option.bind (some (s2 ||| t3)) fun v4 => Option.bind (some (s3 + (1 : Int32))) fun v5 => f_X6_openFrom_l4 s1 h kx n v4 v5)
def f_X6_openFrom (x1 : Int32) (h : Hp) : Option Int32 := f_X6_openFrom_l4 x1 h (fun (w6 : Int32) (w7 : Int32) => some w6) FU (0 : Int32) (0 : Int32)
def f_X6_shutIn_l4 {R : Type}  (h : Hp) (kx : Int32 → Int32 → Option R) : Nat → Int32 → Int32 → Option R
  | 0, _, _ => none
  | n + 1, s1, s2 => if (6 : Int32) ≤ s2 then (kx s1 s2) else (Option.bind (f_X6_isThere s2 h) fun v1 => Option.bind (if v1 = 0 then (some (0 : Int32)) else (Option.bind (ald 89 h 2 ((81 : Int32) + s2)) fun v6 => Option.bind (f_X6_openFrom v6 h) fun v7 => if v7 = 0 then (some ((1 : Int32) <<< (s2 &&& 31))) else (some (0 : Int32)))) fun t3 => Option.bind (some (s1 ||| t3)) fun v4 => Option.bind (some (s2 + (1 : Int32))) fun v5 => f_X6_shutIn_l4 h kx n v4 v5)
def f_X6_shutIn  (h : Hp) : Option Int32 := f_X6_shutIn_l4 h (fun (w8 : Int32) (w9 : Int32) => some w8) FU (0 : Int32) (0 : Int32)
def f_X6_wearOf_l4 {R : Type}  (h : Hp) (kx : Int32 → Int32 → Option R) : Nat → Int32 → Int32 → Option R
  | 0, _, _ => none
  | n + 1, s1, s2 => if (81 : Int32) ≤ s2 then (kx s1 s2) else (Option.bind (ald 89 h 2 s2) fun v1 => Option.bind (f_X6_in v1 (0 : Int32) (9 : Int32)) fun v2 => Option.bind (if v2 = 0 then (some (0 : Int32)) else (Option.bind (ald 89 h 2 s2) fun v7 => some v7)) fun t4 => Option.bind (some (s1 + t4)) fun v5 => Option.bind (some (s2 + (1 : Int32))) fun v6 => f_X6_wearOf_l4 h kx n v5 v6)
def f_X6_wearOf  (h : Hp) : Option Int32 := f_X6_wearOf_l4 h (fun (w8 : Int32) (w9 : Int32) => some (w8 / (2 : Int32))) FU (0 : Int32) (0 : Int32)
def f_X6_goDays_l11 (kx : Int32 → Hp → Option (Int32 × Hp)) : Nat → Int32 → Hp → Option (Int32 × Hp)
  | 0, _, _ => none
  | n + 1, s1, h => if (h.1 0 5) ≤ s1 then (kx s1 h) else (Option.bind (ald 60 h 4 s1) fun v3 => Option.bind (if v3 = (46 : Int32) then (Option.bind (f_X6_endDay  h) fun t41 => Option.bind (some (ip t41.2 0 9 t41.1)) fun h42 => Option.bind (some (s1 + (1 : Int32))) fun v43 => some (v43, h42)) else (if v3 = (109 : Int32) then (Option.bind (ald 60 h 4 (s1 + (1 : Int32))) fun v36 => Option.bind (ald 60 h 4 (s1 + (2 : Int32))) fun v37 => Option.bind (f_X6_bring (v36 - (97 : Int32)) (v37 - (97 : Int32)) h) fun t38 => Option.bind (some (ip t38.2 0 9 t38.1)) fun h39 => Option.bind (some (s1 + (3 : Int32))) fun v40 => some (v40, h39)) else (if v3 = (112 : Int32) then (Option.bind (ald 60 h 4 (s1 + (1 : Int32))) fun v29 => Option.bind (ald 60 h 4 (s1 + (2 : Int32))) fun v30 => Option.bind (ald 60 h 4 (s1 + (3 : Int32))) fun v31 => Option.bind (ald 60 h 4 (s1 + (4 : Int32))) fun v32 => Option.bind (f_X6_patch (v29 - (97 : Int32)) (v30 - (97 : Int32)) (v31 - (97 : Int32)) (v32 - (97 : Int32)) h) fun t33 => Option.bind (some (ip t33.2 0 9 t33.1)) fun h34 => Option.bind (some (s1 + (5 : Int32))) fun v35 => some (v35, h34)) else (Option.bind (some (v3 - (65 : Int32))) fun v7 => Option.bind (ald 60 h 4 (s1 + (1 : Int32))) fun v8 => Option.bind (some (v8 - (97 : Int32))) fun v9 => Option.bind (ald 89 h 2 ((81 : Int32) + v7)) fun v10 => Option.bind (ald 60 h 4 (s1 + (1 : Int32))) fun v11 => Option.bind (if v11 = (94 : Int32) then (some (0 : Int32)) else (some (1 : Int32))) fun t13 => Option.bind (if t13 = 0 then (Option.bind (f_X6_shoe v7 h) fun t27 => some (t27.1, t27.2)) else (Option.bind (f_X6_walk v7 v9 h) fun t28 => some (t28.1, t28.2))) fun t15 => Option.bind (some (ip t15.2 0 9 t15.1)) fun h16 => if t13 = 0 then (Option.bind (some (s1 + (2 : Int32))) fun v17 => some (v17, h16)) else (if (h16.1 0 9) = 0 then (Option.bind (ald 89 h16 2 (((9 : Int32) * v10) + v9)) fun v19 => if v19 = (9 : Int32) then (if 0 ≤ (h16.1 0 7) then (Option.bind (some (s1 + (2 : Int32))) fun v21 => some (v21, h16)) else (Option.bind (some (ip h16 0 7 (h16.1 0 10))) fun h22 => if v9 ≤ v10 then (Option.bind (some (ip h22 0 8 (((10 : Int32) * v9) + v10))) fun h23 => Option.bind (some (s1 + (2 : Int32))) fun v24 => some (v24, h23)) else (Option.bind (some (ip h22 0 8 (((10 : Int32) * v10) + v9))) fun h25 => Option.bind (some (s1 + (2 : Int32))) fun v26 => some (v26, h25)))) else (Option.bind (some (s1 + (2 : Int32))) fun v20 => some (v20, h16))) else (Option.bind (some (s1 + (2 : Int32))) fun v18 => some (v18, h16))))))) fun t5 => if (t5.2.1 0 9) ≤ 0 then (Option.bind (some (ip t5.2 0 10 ((t5.2.1 0 10) + (1 : Int32)))) fun h6 => f_X6_goDays_l11 kx n t5.1 h6) else (some ((t5.2.1 0 10), t5.2)))
def f_X6_goDays  (h : Hp) : Option (Int32 × Hp) := Option.bind (f_X6_asNow  h) fun h1 => Option.bind (some (ip h1 0 10 (0 : Int32))) fun h2 => f_X6_goDays_l11 (fun (w44 : Int32) (h45 : Hp) => some ((-6 : Int32), h45)) FU (0 : Int32) h2
def f_X6_judge (x1 : Int32) (h : Hp) : Option (Int32 × Hp) := Option.bind (f_X6_in x1 (0 : Int32) (1 : Int32)) fun v1 => if v1 = 0 then (some ((-2 : Int32), h)) else (Option.bind (f_X6_faultOf  h) fun v2 => if v2 < 0 then (Option.bind (f_X6_goDays  h) fun t3 => if t3.1 < 0 then (some (t3.1, t3.2)) else (if x1 = 0 then (some (t3.1, t3.2)) else (some ((t3.2.1 0 9), t3.2)))) else (some ((-5 : Int32), h)))
def f_X6_barOfDays  (h : Hp) : Option (Int32 × Hp) := Option.bind (f_X6_faultOf  h) fun v1 => if 0 ≤ v1 then (some ((-5 : Int32), h)) else (Option.bind (f_X6_goDays  h) fun t2 => if t2.1 < 0 then (some ((0 : Int32), t2.2)) else (some ((-5 : Int32), t2.2)))
def f_X6_done_l12 {R : Type} (kx : Int32 → Hp → Option R) : Nat → Int32 → Hp → Option R
  | 0, _, _ => none
  | n + 1, s1, h => if (89 : Int32) ≤ s1 then (kx s1 h) else (Option.bind (ald 89 h 2 s1) fun v2 => Option.bind (ast 89 h 1 s1 v2) fun h3 => Option.bind (some (s1 + (1 : Int32))) fun v4 => f_X6_done_l12 kx n v4 h3)
def f_X6_done  (h : Hp) : Option (Int32 × Hp) := Option.bind (f_X6_barOfDays  h) fun t1 => if 0 ≤ t1.1 then (f_X6_done_l12 (fun (w5 : Int32) (h6 : Hp) => Option.bind (some (ip h6 0 5 (0 : Int32))) fun h7 => some ((h7.1 0 10), h7)) FU (0 : Int32) t1.2) else (some ((-5 : Int32), t1.2))
def f_X6_behind (x1 : Int32) (x2 : Int32) (h : Hp) : Option (Int32 × Hp) := Option.bind (f_X6_isPlace x1) fun v1 => if v1 = 0 then (some ((-1 : Int32), h)) else (Option.bind (f_X6_isPlace x2) fun v2 => if v2 = 0 then (some ((-1 : Int32), h)) else (if x1 = x2 then (some ((-1 : Int32), h)) else (Option.bind (f_X6_barOfDays  h) fun t3 => if 0 ≤ t3.1 then (Option.bind (ald 89 t3.2 2 (((9 : Int32) * x1) + x2)) fun v4 => some (v4, t3.2)) else (some ((-5 : Int32), t3.2)))))
def f_X6_goes (x1 : Int32) (x2 : Int32) (h : Hp) : Option (Int32 × Hp) := Option.bind (f_X6_isThere x1 h) fun v1 => if v1 = 0 then (some ((-1 : Int32), h)) else (Option.bind (f_X6_in x2 (0 : Int32) (1 : Int32)) fun v2 => if v2 = 0 then (some ((-2 : Int32), h)) else (Option.bind (f_X6_barOfDays  h) fun t3 => if 0 ≤ t3.1 then (if x2 = 0 then (Option.bind (ald 89 t3.2 2 ((81 : Int32) + x1)) fun v5 => some (v5, t3.2)) else (Option.bind (ald 89 t3.2 2 (87 : Int32)) fun v4 => some (((v4 >>> (x1 &&& 31)) &&& (1 : Int32)), t3.2))) else (some ((-5 : Int32), t3.2))))
def f_X6_then (x1 : Int32) (h : Hp) : Option (Int32 × Hp) := Option.bind (f_X6_in x1 (0 : Int32) (5 : Int32)) fun v1 => if v1 = 0 then (some ((-2 : Int32), h)) else (Option.bind (f_X6_barOfDays  h) fun t2 => if 0 ≤ t2.1 then (if x1 = (0 : Int32) then (Option.bind (f_X6_roadsOf  t2.2) fun v6 => some (v6, t2.2)) else (if x1 = (1 : Int32) then (Option.bind (f_X6_wearOf  t2.2) fun v5 => some (v5, t2.2)) else (if x1 = (2 : Int32) then (Option.bind (f_X6_shutIn  t2.2) fun v4 => some (v4, t2.2)) else (if x1 = (3 : Int32) then (Option.bind (ald 89 t2.2 2 (88 : Int32)) fun v3 => some (v3, t2.2)) else (if x1 = (4 : Int32) then (some ((t2.2.1 0 7), t2.2)) else (some ((t2.2.1 0 8), t2.2))))))) else (some ((-5 : Int32), t2.2)))
def f_X6_way_l35 {R : Type} (s1 : Int32) (s2 : Int32) (s3 : Int32) (kx : Int32 → Hp → Option R) : Nat → Int32 → Hp → Option R
  | 0, _, _ => none
  | n + 1, s4, h => if (9 : Int32) ≤ s4 then (kx s4 h) else (Option.bind (if s4 = s1 then (some (0 : Int32)) else (some (1000000 : Int32))) fun t6 => Option.bind (ast 9 h 5 s4 t6) fun h7 => Option.bind (some (s4 + (1 : Int32))) fun v8 => f_X6_way_l35 s1 s2 s3 kx n v8 h7)
def f_X6_way_l90 {R : Type} (s2 : Int32) (s3 : Int32) (s4 : Int32) (s5 : Int32) (kx : Int32 → Hp → Option R) : Nat → Int32 → Hp → Option R
  | 0, _, _ => none
  | n + 1, s6, h => if (9 : Int32) ≤ s6 then (kx s6 h) else (Option.bind (f_X6_isOpen s5 s6 h) fun v11 => Option.bind (if v11 = 0 then (some (1000000 : Int32)) else (Option.bind (ald 9 h 5 s5) fun v20 => if s3 = 0 then (some (v20 + (1 : Int32))) else (Option.bind (ald 89 h 2 (((9 : Int32) * s5) + s6)) fun v21 => some (v20 + v21)))) fun t13 => Option.bind (ald 9 h 5 s6) fun v14 => Option.bind (if v14 ≤ t13 then (Option.bind (ald 9 h 5 s6) fun v19 => some v19) else (some t13)) fun t16 => Option.bind (ast 9 h 5 s6 t16) fun h17 => Option.bind (some (s6 + (1 : Int32))) fun v18 => f_X6_way_l90 s2 s3 s4 s5 kx n v18 h17)
def f_X6_way_l80 {R : Type} (s2 : Int32) (s3 : Int32) (s4 : Int32) (kx : Int32 → Hp → Option R) : Nat → Int32 → Hp → Option R
  | 0, _, _ => none
  | n + 1, s5, h => if (9 : Int32) ≤ s5 then (kx s5 h) else (f_X6_way_l90 s2 s3 s4 s5 (fun (w22 : Int32) (h23 : Hp) => Option.bind (some (s5 + (1 : Int32))) fun v24 => f_X6_way_l80 s2 s3 s4 kx n v24 h23) FU (0 : Int32) h)
def f_X6_way_l70 {R : Type} (s2 : Int32) (s3 : Int32) (kx : Int32 → Hp → Option R) : Nat → Int32 → Hp → Option R
  | 0, _, _ => none
  | n + 1, s4, h => if (9 : Int32) ≤ s4 then (kx s4 h) else (f_X6_way_l80 s2 s3 s4 (fun (w25 : Int32) (h26 : Hp) => Option.bind (some (s4 + (1 : Int32))) fun v27 => f_X6_way_l70 s2 s3 kx n v27 h26) FU (0 : Int32) h)
def f_X6_way (x1 : Int32) (x2 : Int32) (x3 : Int32) (h : Hp) : Option (Int32 × Hp) := Option.bind (f_X6_isPlace x1) fun v1 => if v1 = 0 then (some ((-1 : Int32), h)) else (Option.bind (f_X6_isPlace x2) fun v2 => if v2 = 0 then (some ((-1 : Int32), h)) else (Option.bind (f_X6_in x3 (0 : Int32) (1 : Int32)) fun v3 => if v3 = 0 then (some ((-2 : Int32), h)) else (Option.bind (f_X6_asNow  h) fun h4 => f_X6_way_l35 x1 x2 x3 (fun (w9 : Int32) (h10 : Hp) => f_X6_way_l70 x2 x3 (fun (w28 : Int32) (h29 : Hp) => Option.bind (ald 9 h29 5 x2) fun v30 => if (1000000 : Int32) ≤ v30 then (some ((-6 : Int32), h29)) else (Option.bind (ald 9 h29 5 x2) fun v31 => some (v31, h29))) FU (0 : Int32) h10) FU (0 : Int32) h4)))
def f_X6_partOf_l16 {R : Type} (s3 : Int32) (h : Hp) (kx : Int32 → Int32 → Option R) : Nat → Int32 → Int32 → Option R
  | 0, _, _ => none
  | n + 1, s2, s4 => if (9 : Int32) ≤ s4 then (kx s2 s4) else (Option.bind (f_X6_has s3 s4) fun v2 => Option.bind (if v2 = 0 then (some (0 : Int32)) else (Option.bind (f_X6_openFrom s4 h) fun v7 => some v7)) fun t4 => Option.bind (some (s2 ||| t4)) fun v5 => Option.bind (some (s4 + (1 : Int32))) fun v6 => f_X6_partOf_l16 s3 h kx n v5 v6)
def f_X6_partOf_l6 {R : Type}  (h : Hp) (kx : Int32 → Int32 → Option R) : Nat → Int32 → Int32 → Option R
  | 0, _, _ => none
  | n + 1, s2, s3 => if s2 = s3 then (kx s2 s3) else (f_X6_partOf_l16 s2 h (fun (w8 : Int32) (w9 : Int32) => f_X6_partOf_l6 h kx n w8 s2) FU s2 (0 : Int32))
def f_X6_partOf (x1 : Int32) (h : Hp) : Option Int32 := Option.bind (some ((1 : Int32) <<< (x1 &&& 31))) fun v1 => f_X6_partOf_l6 h (fun (w10 : Int32) (w11 : Int32) => some w10) FU v1 (0 : Int32)
def f_X6_parts_l25 {R : Type} (s1 : Int32) (kx : Int32 → Int32 → Int32 → Hp → Option R) : Nat → Int32 → Int32 → Int32 → Hp → Option R
  | 0, _, _, _, _ => none
  | n + 1, s2, s3, s4, h => if s4 < 0 then (kx s2 s3 s4 h) else (Option.bind (some (s4 / (9 : Int32))) fun v3 => Option.bind (some (irem s4 (9 : Int32))) fun v4 => if v4 ≤ v3 then (Option.bind (some (s4 + (-1 : Int32))) fun v5 => f_X6_parts_l25 s1 kx n s2 s3 v5 h) else (Option.bind (f_X6_isOpen v3 v4 h) fun v6 => if v6 = 0 then (Option.bind (some (s4 + (-1 : Int32))) fun v7 => f_X6_parts_l25 s1 kx n s2 s3 v7 h) else (Option.bind (ald 89 h 2 s4) fun v8 => Option.bind (f_X6_lay v3 v4 (-6 : Int32) h) fun h9 => Option.bind (f_X6_partOf v3 h9) fun v10 => Option.bind (f_X6_has v10 v4) fun v11 => Option.bind (if v11 = 0 then (some (1 : Int32)) else (some (0 : Int32))) fun t13 => Option.bind (f_X6_lay v3 v4 v8 h9) fun h14 => Option.bind (if t13 = 0 then (some (0 : Int32)) else (some (1 : Int32))) fun t16 => Option.bind (some (s2 + t16)) fun v17 => Option.bind (if t13 = 0 then (some s3) else (some (((10 : Int32) * v3) + v4))) fun t19 => Option.bind (some (s4 + (-1 : Int32))) fun v20 => f_X6_parts_l25 s1 kx n v17 t19 v20 h14)))
def f_X6_parts (x1 : Int32) (h : Hp) : Option (Int32 × Hp) := Option.bind (f_X6_in x1 (0 : Int32) (1 : Int32)) fun v1 => if v1 = 0 then (some ((-2 : Int32), h)) else (Option.bind (f_X6_asNow  h) fun h2 => f_X6_parts_l25 x1 (fun (w21 : Int32) (w22 : Int32) (w23 : Int32) (h24 : Hp) => if x1 = 0 then (some (w21, h24)) else (some (w22, h24))) FU (0 : Int32) (-6 : Int32) (80 : Int32) h2)
def f_X6_strokes_l37 {R : Type} (s1 : Int32) (s2 : Int32) (s3 : Int32) (s4 : Int32) (h : Hp) (kx : Int32 → Int32 → Option R) : Nat → Int32 → Int32 → Option R
  | 0, _, _ => none
  | n + 1, s5, s6 => if (9 : Int32) ≤ s6 then (kx s5 s6) else (Option.bind (f_X6_has s4 s6) fun v5 => Option.bind (if v5 = 0 then (some (0 : Int32)) else (Option.bind (f_X6_openFrom s6 h) fun v10 => Option.bind (f_X6_bits v10) fun v11 => some (irem v11 (2 : Int32)))) fun t7 => Option.bind (some (s5 + t7)) fun v8 => Option.bind (some (s6 + (1 : Int32))) fun v9 => f_X6_strokes_l37 s1 s2 s3 s4 h kx n v8 v9)
def f_X6_strokes_l10 {R : Type}  (h : Hp) (kx : Int32 → Int32 → Int32 → Option R) : Nat → Int32 → Int32 → Int32 → Option R
  | 0, _, _, _ => none
  | n + 1, s1, s2, s3 => if (9 : Int32) ≤ s3 then (kx s1 s2 s3) else (Option.bind (f_X6_has s2 s3) fun v2 => if v2 = 0 then (Option.bind (f_X6_partOf s3 h) fun v4 => f_X6_strokes_l37 s1 s2 s3 v4 h (fun (w12 : Int32) (w13 : Int32) => Option.bind (some (s2 ||| v4)) fun v14 => Option.bind (f_X6_bits v4) fun v15 => Option.bind (if v15 = (1 : Int32) then (some (0 : Int32)) else (if w12 = 0 then (some (1 : Int32)) else (some (w12 / (2 : Int32))))) fun t17 => Option.bind (some (s1 + t17)) fun v18 => Option.bind (some (s3 + (1 : Int32))) fun v19 => f_X6_strokes_l10 h kx n v18 v14 v19) FU (0 : Int32) (0 : Int32)) else (Option.bind (some (s3 + (1 : Int32))) fun v3 => f_X6_strokes_l10 h kx n s1 s2 v3))
def f_X6_strokes  (h : Hp) : Option (Int32 × Hp) := Option.bind (f_X6_asNow  h) fun h1 => f_X6_strokes_l10 h1 (fun (w20 : Int32) (w21 : Int32) (w22 : Int32) => some (w20, h1)) FU (0 : Int32) (0 : Int32) (0 : Int32)
def f_X6_mended_l36 {R : Type} (s2 : Int32) (s3 : Int32) (kx : Int32 → Int32 → Int32 → Hp → Option R) : Nat → Int32 → Int32 → Int32 → Hp → Option R
  | 0, _, _, _, _ => none
  | n + 1, s4, s5, s6, h => if s2 ≤ s6 then (kx s4 s5 s6 h) else (if s4 = 0 then (kx s4 s5 s6 h) else (Option.bind (ast 9 h 6 s6 (irem s5 (10 : Int32))) fun h4 => Option.bind (ald 9 h4 6 s6) fun v5 => Option.bind (if v5 ≤ 0 then (some (0 : Int32)) else (some (1 : Int32))) fun t7 => Option.bind (some (s5 / (10 : Int32))) fun v8 => Option.bind (some (s6 + (1 : Int32))) fun v9 => f_X6_mended_l36 s2 s3 kx n t7 v8 v9 h4))
def f_X6_mended_l108 {R : Type} (s2 : Int32) (s3 : Int32) (kx : Int32 → Int32 → Option R) : Nat → Int32 → Int32 → Option R
  | 0, _, _ => none
  | n + 1, s6, s7 => if s2 ≤ s7 then (kx s6 s7) else (Option.bind (some (s6 * s3)) fun v14 => Option.bind (some (s7 + (1 : Int32))) fun v15 => f_X6_mended_l108 s2 s3 kx n v14 v15)
def f_X6_mended_l150 {R : Type} (s2 : Int32) (s3 : Int32) (s6 : Int32) (s7 : Int32) (s8 : Int32) (s9 : Int32) (s10 : Int32) (kx : Int32 → Hp → Option R) : Nat → Int32 → Hp → Option R
  | 0, _, _ => none
  | n + 1, s11, h => if (4 : Int32) ≤ s11 then (kx s11 h) else (Option.bind (ast 4 h 7 s11 (0 : Int32)) fun h18 => Option.bind (some (s11 + (1 : Int32))) fun v19 => f_X6_mended_l150 s2 s3 s6 s7 s8 s9 s10 kx n v19 h18)
def f_X6_mended_l173 {R : Type} (s2 : Int32) (s3 : Int32) (s6 : Int32) (s7 : Int32) (s8 : Int32) (kx : Int32 → Int32 → Int32 → Hp → Option R) : Nat → Int32 → Int32 → Int32 → Hp → Option R
  | 0, _, _, _, _ => none
  | n + 1, s9, s10, s11, h => if s2 ≤ s11 then (kx s9 s10 s11 h) else (Option.bind (irm s9 s3) fun v22 => Option.bind (ald 4 h 7 v22) fun v23 => Option.bind (ald 9 h 6 s11) fun v24 => Option.bind (ast 4 h 7 v22 (v23 + v24)) fun h25 => Option.bind (irm s9 s3) fun v26 => Option.bind (ald 4 h25 7 v26) fun v27 => Option.bind (if v27 ≤ s10 then (some s10) else (Option.bind (irm s9 s3) fun v32 => Option.bind (ald 4 h25 7 v32) fun v33 => some v33)) fun t29 => Option.bind (idv s9 s3) fun v30 => Option.bind (some (s11 + (1 : Int32))) fun v31 => f_X6_mended_l173 s2 s3 s6 s7 s8 kx n v30 t29 v31 h25)
def f_X6_mended_l133 {R : Type} (s2 : Int32) (s3 : Int32) (s6 : Int32) (kx : Int32 → Int32 → Hp → Option R) : Nat → Int32 → Int32 → Hp → Option R
  | 0, _, _, _ => none
  | n + 1, s7, s8, h => if s6 ≤ s8 then (kx s7 s8 h) else (f_X6_mended_l150 s2 s3 s6 s7 s8 s8 (0 : Int32) (fun (w20 : Int32) (h21 : Hp) => f_X6_mended_l173 s2 s3 s6 s7 s8 (fun (w35 : Int32) (w34 : Int32) (w36 : Int32) (h37 : Hp) => Option.bind (if s7 ≤ w34 then (some s7) else (some w34)) fun t39 => Option.bind (some (s8 + (1 : Int32))) fun v40 => f_X6_mended_l133 s2 s3 s6 kx n t39 v40 h37) FU s8 (0 : Int32) (0 : Int32) h21) FU (0 : Int32) h)
def f_X6_mended (x1 : Int32) (x2 : Int32) (x3 : Int32) (h : Hp) : Option (Int32 × Hp) := Option.bind (f_X6_in x2 (1 : Int32) (8 : Int32)) fun v1 => Option.bind (if v1 = 0 then (some (0 : Int32)) else (if x1 ≤ 0 then (some (0 : Int32)) else (Option.bind (f_X6_in x3 (1 : Int32) (4 : Int32)) fun v44 => if v44 = 0 then (some (0 : Int32)) else (some (1 : Int32))))) fun t3 => f_X6_mended_l36 x2 x3 (fun (w10 : Int32) (w11 : Int32) (w12 : Int32) (h13 : Hp) => if w10 = 0 then (some ((-2 : Int32), h13)) else (if w11 = 0 then (f_X6_mended_l108 x2 x3 (fun (w16 : Int32) (w17 : Int32) => f_X6_mended_l133 x2 x3 w16 (fun (w41 : Int32) (w42 : Int32) (h43 : Hp) => some (w41, h43)) FU (1000000 : Int32) (0 : Int32) h13) FU (1 : Int32) (0 : Int32)) else (some ((-2 : Int32), h13)))) FU t3 x1 (0 : Int32) h
def f_X6_lowest_l6 {R : Type} (s0 : Int64) (s2 : Int64) (s4 : Int32) (kx : Int64 → Int64 → Option R) : Nat → Int64 → Int64 → Option R
  | 0, _, _ => none
  | n + 1, s5, s7 => if (lg_cmp s7 (0 : Int64)) = 0 then (kx s5 s7) else (Option.bind (lrm s5 s7) fun v1 => f_X6_lowest_l6 s0 s2 s4 kx n s7 v1)
def f_X6_lowest (x1 : Int64) (x2 : Int64) (x3 : Int32) : Option Int64 := f_X6_lowest_l6 x1 x2 x3 (fun (w2 : Int64) (w3 : Int64) => if x3 = 0 then (Option.bind (ldv x1 w2) fun v5 => some v5) else (Option.bind (ldv x2 w2) fun v4 => some v4)) FU x1 x2
def f_X6_pays_l47 {R : Type} (s2 : Int32) (s3 : Int32) (s4 : Int32) (kx : Int32 → Int32 → Hp → Option R) : Nat → Int32 → Int32 → Hp → Option R
  | 0, _, _, _ => none
  | n + 1, s5, s6, h => if s6 < 0 then (kx s5 s6 h) else (Option.bind (ast 9 h 6 s6 (irem s5 (10 : Int32))) fun h5 => Option.bind (some (s5 / (10 : Int32))) fun v6 => Option.bind (some (s6 + (-1 : Int32))) fun v7 => f_X6_pays_l47 s2 s3 s4 kx n v6 v7 h5)
def f_X6_pays_l109 {R : Type} (s2 : Int32) (s3 : Int32) (s4 : Int32) (s6 : Int64) (s8 : Int32) (h : Hp) (kx : Int32 → Int32 → Option R) : Nat → Int32 → Int32 → Option R
  | 0, _, _ => none
  | n + 1, s9, s10 => if s2 ≤ s10 then (kx s9 s10) else (Option.bind (ald 9 h 6 s10) fun v12 => Option.bind (if v12 < s8 then (some (0 : Int32)) else (some (1 : Int32))) fun t14 => Option.bind (some (s9 + t14)) fun v15 => Option.bind (some (s10 + (1 : Int32))) fun v16 => f_X6_pays_l109 s2 s3 s4 s6 s8 h kx n v15 v16)
def f_X6_pays_l92 {R : Type} (s2 : Int32) (s3 : Int32) (s4 : Int32) (h : Hp) (kx : Int64 → Int32 → Option R) : Nat → Int64 → Int32 → Option R
  | 0, _, _ => none
  | n + 1, s6, s8 => Option.bind (ald 9 h 6 s3) fun v11 => if v11 < s8 then (kx s6 s8) else (f_X6_pays_l109 s2 s3 s4 s6 s8 h (fun (w17 : Int32) (w18 : Int32) => Option.bind (idv (2520 : Int32) w17) fun v19 => Option.bind (some (s6 + (v19).toInt64)) fun v20 => Option.bind (some (s8 + (1 : Int32))) fun v21 => f_X6_pays_l92 s2 s3 s4 h kx n v20 v21) FU (0 : Int32) (0 : Int32))
def f_X6_pays (x1 : Int32) (x2 : Int32) (x3 : Int32) (x4 : Int32) (h : Hp) : Option (Int64 × Hp) := Option.bind (f_X6_in x2 (1 : Int32) (9 : Int32)) fun v1 => if v1 = 0 then (some ((-1000000000000000002 : Int64), h)) else (if x1 < 0 then (some ((-1000000000000000002 : Int64), h)) else (Option.bind (f_X6_in x3 (0 : Int32) (x2 - (1 : Int32))) fun v2 => if v2 = 0 then (some ((-1000000000000000002 : Int64), h)) else (Option.bind (f_X6_in x4 (0 : Int32) (1 : Int32)) fun v3 => if v3 = 0 then (some ((-1000000000000000002 : Int64), h)) else (Option.bind (some (x2 - (1 : Int32))) fun v4 => f_X6_pays_l47 x2 x3 x4 (fun (w8 : Int32) (w9 : Int32) (h10 : Hp) => if w8 = 0 then (f_X6_pays_l92 x2 x3 x4 h10 (fun (w22 : Int64) (w23 : Int32) => Option.bind (f_X6_lowest w22 (2520 : Int64) x4) fun v24 => some (v24, h10)) FU (0 : Int64) (1 : Int32)) else (some ((-1000000000000000002 : Int64), h10))) FU x1 v4 h))))
def f_X6_seen (x1 : Int32) (x2 : Int32) (x3 : Int32) (h : Hp) : Option (Int32 × Hp) := Option.bind (f_X6_in x2 (0 : Int32) (20 : Int32)) fun v1 => if v1 = 0 then (some ((-2 : Int32), h)) else (Option.bind (f_X6_in x3 (0 : Int32) (9999 : Int32)) fun v2 => if v2 = 0 then (some ((-2 : Int32), h)) else (if (h.1 0 3) = (8 : Int32) then (some ((-4 : Int32), h)) else (Option.bind (if x1 = 0 then (some (0 : Int32)) else (some (1 : Int32))) fun t4 => Option.bind (ast 24 h 3 ((3 : Int32) * (h.1 0 3)) t4) fun h5 => Option.bind (ast 24 h5 3 (((3 : Int32) * (h5.1 0 3)) + (1 : Int32)) x2) fun h6 => Option.bind (ast 24 h6 3 (((3 : Int32) * (h6.1 0 3)) + (2 : Int32)) x3) fun h7 => Option.bind (some (ip h7 0 3 ((h7.1 0 3) + (1 : Int32)))) fun h8 => some ((h8.1 0 3), h8))))
def f_X6_forget  (h : Hp) : Option (Int32 × Hp) := Option.bind (some (h.1 0 3)) fun v1 => Option.bind (some (ip h 0 3 (0 : Int32))) fun h2 => some (v1, h2)
def f_X6_tellOf (x1 : Int32) (x2 : Int32) (x3 : Int32) : Option Int32 := Option.bind (some (irem (x1 / (10 : Int32)) (10 : Int32))) fun v1 => Option.bind (some (irem x1 (10 : Int32))) fun v2 => if x2 = (1 : Int32) then (some (x3 * (v1 + v2))) else (some ((x1 / (100 : Int32)) + (x3 * (v1 + ((2 : Int32) * v2)))))
def f_X6_isFit_l4 {R : Type} (s1 : Int32) (h : Hp) (kx : Int32 → Int32 → Option R) : Nat → Int32 → Int32 → Option R
  | 0, _, _ => none
  | n + 1, s2, s3 => if (h.1 0 3) ≤ s3 then (kx s2 s3) else (if s2 = 0 then (kx s2 s3) else (Option.bind (ald 24 h 3 ((3 : Int32) * s3)) fun v1 => Option.bind (ald 24 h 3 (((3 : Int32) * s3) + (1 : Int32))) fun v2 => Option.bind (f_X6_tellOf s1 v1 v2) fun v3 => Option.bind (ald 24 h 3 (((3 : Int32) * s3) + (2 : Int32))) fun v4 => Option.bind (if v3 = v4 then (some (1 : Int32)) else (some (0 : Int32))) fun t6 => Option.bind (some (s3 + (1 : Int32))) fun v7 => f_X6_isFit_l4 s1 h kx n t6 v7))
def f_X6_isFit (x1 : Int32) (h : Hp) : Option Int32 := f_X6_isFit_l4 x1 h (fun (w8 : Int32) (w9 : Int32) => Option.bind (zck w8) fun v10 => some v10) FU (1 : Int32) (0 : Int32)
def f_X6_who_l4 (s1 : Int32) (h : Hp) (kx : Int32 → Int32 → Option Int32) : Nat → Int32 → Int32 → Option Int32
  | 0, _, _ => none
  | n + 1, s2, s3 => if (1000 : Int32) ≤ s3 then (kx s2 s3) else (Option.bind (f_X6_isFit s3 h) fun v1 => if v1 = 0 then (Option.bind (some (s3 + (1 : Int32))) fun v2 => f_X6_who_l4 s1 h kx n s2 v2) else (if s2 = s1 then (some s3) else (Option.bind (some (s2 + (1 : Int32))) fun v3 => Option.bind (some (s3 + (1 : Int32))) fun v4 => f_X6_who_l4 s1 h kx n v3 v4)))
def f_X6_who (x1 : Int32) (h : Hp) : Option Int32 := f_X6_who_l4 x1 h (fun (w5 : Int32) (w6 : Int32) => if x1 = (-1 : Int32) then (some w5) else (some (-6 : Int32))) FU (0 : Int32) (0 : Int32)
def f_X6_ask_l16 {R : Type} (s1 : Int32) (kx : Int32 → Int32 → Hp → Option R) : Nat → Int32 → Int32 → Hp → Option R
  | 0, _, _, _ => none
  | n + 1, s2, s3, h => if (1000 : Int32) ≤ s3 then (kx s2 s3 h) else (Option.bind (f_X6_isFit s3 h) fun v2 => if v2 = 0 then (Option.bind (some (s3 + (1 : Int32))) fun v3 => f_X6_ask_l16 s1 kx n s2 v3 h) else (Option.bind (ast 1000 h 9 s2 s3) fun h4 => Option.bind (some (s2 + (1 : Int32))) fun v5 => Option.bind (some (s3 + (1 : Int32))) fun v6 => f_X6_ask_l16 s1 kx n v5 v6 h4))
def f_X6_ask_l74 {R : Type} (s1 : Int32) (s2 : Int32) (s3 : Int32) (s4 : Int32) (s5 : Int32) (s6 : Int32) (kx : Int32 → Hp → Option R) : Nat → Int32 → Hp → Option R
  | 0, _, _ => none
  | n + 1, s7, h => if (600 : Int32) ≤ s7 then (kx s7 h) else (Option.bind (ast 600 h 8 s7 (0 : Int32)) fun h10 => Option.bind (some (s7 + (1 : Int32))) fun v11 => f_X6_ask_l74 s1 s2 s3 s4 s5 s6 kx n v11 h10)
def f_X6_ask_l99 {R : Type} (s1 : Int32) (s2 : Int32) (s3 : Int32) (s4 : Int32) (s5 : Int32) (kx : Int32 → Int32 → Hp → Option R) : Nat → Int32 → Int32 → Hp → Option R
  | 0, _, _, _ => none
  | n + 1, s6, s7, h => if s2 ≤ s7 then (kx s6 s7 h) else (Option.bind (ald 1000 h 9 s7) fun v14 => Option.bind (f_X6_tellOf v14 (irem s5 (2 : Int32)) (s5 / (2 : Int32))) fun v15 => Option.bind (ald 600 h 8 v15) fun v16 => Option.bind (ast 600 h 8 v15 (v16 + (1 : Int32))) fun h17 => Option.bind (ald 600 h17 8 v15) fun v18 => Option.bind (if v18 ≤ s6 then (some s6) else (Option.bind (ald 600 h17 8 v15) fun v22 => some v22)) fun t20 => Option.bind (some (s7 + (1 : Int32))) fun v21 => f_X6_ask_l99 s1 s2 s3 s4 s5 kx n t20 v21 h17)
def f_X6_ask_l57 {R : Type} (s1 : Int32) (s2 : Int32) (kx : Int32 → Int32 → Int32 → Hp → Option R) : Nat → Int32 → Int32 → Int32 → Hp → Option R
  | 0, _, _, _, _ => none
  | n + 1, s3, s4, s5, h => if (42 : Int32) ≤ s5 then (kx s3 s4 s5 h) else (if s2 ≤ 0 then (kx s3 s4 s5 h) else (f_X6_ask_l74 s1 s2 s3 s4 s5 (0 : Int32) (fun (w12 : Int32) (h13 : Hp) => f_X6_ask_l99 s1 s2 s3 s4 s5 (fun (w23 : Int32) (w24 : Int32) (h25 : Hp) => Option.bind (if s4 ≤ w23 then (some s3) else (some (((s5 / (2 : Int32)) * (10 : Int32)) + (irem s5 (2 : Int32))))) fun t27 => Option.bind (if s4 ≤ w23 then (some s4) else (some w23)) fun t29 => Option.bind (some (s5 + (1 : Int32))) fun v30 => f_X6_ask_l57 s1 s2 kx n t27 t29 v30 h25) FU (0 : Int32) (0 : Int32) h13) FU (0 : Int32) h))
def f_X6_ask (x1 : Int32) (h : Hp) : Option (Int32 × Hp) := Option.bind (f_X6_in x1 (0 : Int32) (1 : Int32)) fun v1 => if v1 = 0 then (some ((-2 : Int32), h)) else (f_X6_ask_l16 x1 (fun (w7 : Int32) (w8 : Int32) (h9 : Hp) => f_X6_ask_l57 x1 w7 (fun (w31 : Int32) (w32 : Int32) (w33 : Int32) (h34 : Hp) => if w31 < 0 then (some (w31, h34)) else (if x1 = 0 then (some (w31, h34)) else (some (w32, h34)))) FU (-6 : Int32) (1000000 : Int32) (0 : Int32) h9) FU (0 : Int32) (0 : Int32) h)
def f_X6_tacks_l54 {R : Type} (s1 : Int32) (s2 : Int32) (s3 : Int32) (s5 : Int32) (h : Hp) (kx : Int32 → Int32 → Option R) : Nat → Int32 → Int32 → Option R
  | 0, _, _ => none
  | n + 1, s4, s6 => if s6 ≤ 0 then (kx s4 s6) else (Option.bind (f_X6_has s2 (s6 - (1 : Int32))) fun v4 => Option.bind (if v4 = 0 then (some s4) else (if s5 < s6 then (some s4) else (Option.bind (ald 100 h 10 (s5 - s6)) fun v8 => if v8 = 0 then (some s6) else (some s4)))) fun t6 => Option.bind (some (s6 + (-1 : Int32))) fun v7 => f_X6_tacks_l54 s1 s2 s3 s5 h kx n t6 v7)
def f_X6_tacks_l40 {R : Type} (s1 : Int32) (s2 : Int32) (s3 : Int32) (kx : Int32 → Int32 → Hp → Option R) : Nat → Int32 → Int32 → Hp → Option R
  | 0, _, _, _ => none
  | n + 1, s4, s5, h => if s1 < s5 then (kx s4 s5 h) else (f_X6_tacks_l54 s1 s2 s3 s5 h (fun (w9 : Int32) (w10 : Int32) => Option.bind (if w9 ≤ 0 then (some (0 : Int32)) else (some (1 : Int32))) fun t12 => Option.bind (zast 100 h 10 s5 t12) fun h13 => Option.bind (some (s5 + (1 : Int32))) fun v14 => f_X6_tacks_l40 s1 s2 s3 kx n w9 v14 h13) FU (-6 : Int32) (9 : Int32))
def f_X6_tacks (x1 : Int32) (x2 : Int32) (x3 : Int32) (h : Hp) : Option (Int32 × Hp) := Option.bind (f_X6_in x1 (0 : Int32) (99 : Int32)) fun v1 => if v1 = 0 then (some ((-2 : Int32), h)) else (Option.bind (f_X6_in x2 (1 : Int32) (511 : Int32)) fun v2 => if v2 = 0 then (some ((-2 : Int32), h)) else (Option.bind (f_X6_in x3 (0 : Int32) (1 : Int32)) fun v3 => if v3 = 0 then (some ((-2 : Int32), h)) else (f_X6_tacks_l40 x1 x2 x3 (fun (w15 : Int32) (w16 : Int32) (h17 : Hp) => if x3 = (1 : Int32) then (some (w15, h17)) else (if w15 ≤ 0 then (some ((0 : Int32), h17)) else (some ((1 : Int32), h17)))) FU (-6 : Int32) (0 : Int32) h)))
def f_X6_wet_l83 {R : Type} (s1 : Int32) (s2 : Int32) (s3 : Int32) (s5 : Int32) (s6 : Int64) (kx : Int32 → Hp → Option R) : Nat → Int32 → Hp → Option R
  | 0, _, _ => none
  | n + 1, s8, h => if (18 : Int32) ≤ s8 then (kx s8 h) else (Option.bind (if s8 = 0 then (some (1 : Int64)) else (some (0 : Int64))) fun t7 => Option.bind (last 18 h 11 s8 t7) fun h8 => Option.bind (some (s8 + (1 : Int32))) fun v9 => f_X6_wet_l83 s1 s2 s3 s5 s6 kx n v9 h8)
def f_X6_wet_l134 {R : Type} (s1 : Int32) (s2 : Int32) (s3 : Int32) (s5 : Int32) (s6 : Int64) (s8 : Int32) (kx : Int32 → Hp → Option R) : Nat → Int32 → Hp → Option R
  | 0, _, _ => none
  | n + 1, s9, h => if s9 < 0 then (kx s9 h) else (Option.bind (lald 18 h 11 s9) fun v13 => Option.bind (if s9 ≤ 0 then (some (0 : Int64)) else (Option.bind (lald 18 h 11 (s9 - (1 : Int32))) fun v18 => some (v18 * (s2).toInt64))) fun t15 => Option.bind (last 18 h 11 s9 ((v13 * (((10 : Int32) - s2)).toInt64) + t15)) fun h16 => Option.bind (some (s9 + (-1 : Int32))) fun v17 => f_X6_wet_l134 s1 s2 s3 s5 s6 s8 kx n v17 h16)
def f_X6_wet_l116 {R : Type} (s1 : Int32) (s2 : Int32) (s3 : Int32) (s5 : Int32) (kx : Int64 → Int32 → Hp → Option R) : Nat → Int64 → Int32 → Hp → Option R
  | 0, _, _, _ => none
  | n + 1, s6, s8, h => if s1 ≤ s8 then (kx s6 s8 h) else (Option.bind (some (s6 * (10 : Int64))) fun v12 => f_X6_wet_l134 s1 s2 s3 s5 v12 s8 (fun (w19 : Int32) (h20 : Hp) => Option.bind (some (s8 + (1 : Int32))) fun v21 => f_X6_wet_l116 s1 s2 s3 s5 kx n v12 v21 h20) FU (17 : Int32) h)
def f_X6_wet_l199 {R : Type} (s1 : Int32) (s3 : Int32) (s5 : Int32) (s6 : Int64) (h : Hp) (kx : Int64 → Int32 → Option R) : Nat → Int64 → Int32 → Option R
  | 0, _, _ => none
  | n + 1, s8, s10 => if (18 : Int32) ≤ s10 then (kx s8 s10) else (Option.bind (if (s1 + s10) < s3 then (some (0 : Int64)) else (Option.bind (lald 18 h 11 s10) fun v29 => some v29)) fun t26 => Option.bind (some (s8 + t26)) fun v27 => Option.bind (some (s10 + (1 : Int32))) fun v28 => f_X6_wet_l199 s1 s3 s5 s6 h kx n v27 v28)
def f_X6_wet (x1 : Int32) (x2 : Int32) (x3 : Int32) (x4 : Int32) (x5 : Int32) (h : Hp) : Option (Int64 × Hp) := Option.bind (f_X6_in x1 (0 : Int32) (16 : Int32)) fun v1 => if v1 = 0 then (some ((-1000000000000000002 : Int64), h)) else (Option.bind (f_X6_in x2 (0 : Int32) (10 : Int32)) fun v2 => if v2 = 0 then (some ((-1000000000000000002 : Int64), h)) else (Option.bind (f_X6_in x3 (0 : Int32) (40 : Int32)) fun v3 => if v3 = 0 then (some ((-1000000000000000002 : Int64), h)) else (Option.bind (f_X6_in x4 (0 : Int32) (1 : Int32)) fun v4 => if v4 = 0 then (some ((-1000000000000000002 : Int64), h)) else (Option.bind (f_X6_in x5 (0 : Int32) (1 : Int32)) fun v5 => if v5 = 0 then (some ((-1000000000000000002 : Int64), h)) else (if x4 = (1 : Int32) then (Option.bind (f_X6_lowest ((x1).toInt64 * (((10 : Int32) + x2)).toInt64) (10 : Int64) x5) fun v33 => some (v33, h)) else (f_X6_wet_l83 x1 x2 x3 x5 (1 : Int64) (fun (w10 : Int32) (h11 : Hp) => f_X6_wet_l116 x1 x2 x3 x5 (fun (w22 : Int64) (w23 : Int32) (h24 : Hp) => f_X6_wet_l199 x1 x3 x5 w22 h24 (fun (w30 : Int64) (w31 : Int32) => Option.bind (f_X6_lowest w30 w22 x5) fun v32 => some (v32, h24)) FU (0 : Int64) (0 : Int32)) FU (1 : Int64) (0 : Int32) h11) FU (0 : Int32) h))))))
def f_X6_year_l43 {R : Type} (s2 : Int32) (s3 : Int32) (kx : Int32 → Int32 → Hp → Option R) : Nat → Int32 → Int32 → Hp → Option R
  | 0, _, _, _ => none
  | n + 1, s4, s5, h => if s2 ≤ s5 then (kx s4 s5 h) else (Option.bind (some (irem (((75 : Int32) * s4) + (74 : Int32)) (65537 : Int32))) fun v5 => Option.bind (some (irem (v5 / (6 : Int32)) (8 : Int32))) fun v6 => Option.bind (some (v5 / (48 : Int32))) fun v7 => if (5 : Int32) ≤ v6 then (if v6 = (5 : Int32) then (Option.bind (f_X6_shoe (irem v5 (6 : Int32)) h) fun t14 => Option.bind (some (ip t14.2 0 9 t14.1)) fun h15 => Option.bind (some (s5 + (1 : Int32))) fun v16 => f_X6_year_l43 s2 s3 kx n v5 v16 h15) else (Option.bind (if v6 = (6 : Int32) then (Option.bind (f_X6_bring (irem v7 (9 : Int32)) (irem (v7 / (9 : Int32)) (9 : Int32)) h) fun t13 => some (t13.1, t13.2)) else (Option.bind (f_X6_endDay  h) fun t12 => some (t12.1, t12.2))) fun t9 => Option.bind (some (ip t9.2 0 9 t9.1)) fun h10 => Option.bind (some (s5 + (1 : Int32))) fun v11 => f_X6_year_l43 s2 s3 kx n v5 v11 h10)) else (Option.bind (f_X6_walk (irem v5 (6 : Int32)) (irem v7 (9 : Int32)) h) fun t17 => Option.bind (some (ip t17.2 0 9 t17.1)) fun h18 => Option.bind (some (s5 + (1 : Int32))) fun v19 => f_X6_year_l43 s2 s3 kx n v5 v19 h18))
def f_X6_year_l175 {R : Type} (s3 : Int32) (h : Hp) (kx : Int32 → Int32 → Option R) : Nat → Int32 → Int32 → Option R
  | 0, _, _ => none
  | n + 1, s5, s6 => if (9 : Int32) ≤ s6 then (kx s5 s6) else (Option.bind (f_X6_openFrom s6 h) fun v23 => Option.bind (f_X6_bits v23) fun v24 => Option.bind (some (s5 + v24)) fun v25 => Option.bind (some (s6 + (1 : Int32))) fun v26 => f_X6_year_l175 s3 h kx n v25 v26)
def f_X6_year (x1 : Int32) (x2 : Int32) (x3 : Int32) (h : Hp) : Option (Int32 × Hp) := Option.bind (f_X6_in x1 (0 : Int32) (9999 : Int32)) fun v1 => if v1 = 0 then (some ((-2 : Int32), h)) else (Option.bind (f_X6_in x2 (1 : Int32) (99 : Int32)) fun v2 => if v2 = 0 then (some ((-2 : Int32), h)) else (Option.bind (f_X6_in x3 (0 : Int32) (2 : Int32)) fun v3 => if v3 = 0 then (some ((-2 : Int32), h)) else (Option.bind (f_X6_asNow  h) fun h4 => f_X6_year_l43 x2 x3 (fun (w20 : Int32) (w21 : Int32) (h22 : Hp) => f_X6_year_l175 x3 h22 (fun (w27 : Int32) (w28 : Int32) => if x3 = 0 then (Option.bind (f_X6_wearOf  h22) fun v31 => some (v31, h22)) else (if x3 = (1 : Int32) then (Option.bind (f_X6_shutIn  h22) fun v29 => Option.bind (f_X6_bits v29) fun v30 => some (v30, h22)) else (some ((w27 / (2 : Int32)), h22)))) FU (0 : Int32) (0 : Int32)) FU x1 (0 : Int32) h4)))
def f_X6_image_l19 {R : Type} (s1 : Int32) (s2 : Int32) (kx : Int32 → Hp → Option R) : Nat → Int32 → Hp → Option R
  | 0, _, _ => none
  | n + 1, s3, h => if (89 : Int32) ≤ s3 then (kx s3 h) else (Option.bind (ald 89 h 1 s3) fun v3 => Option.bind (ast 240 h 12 (s2 + s3) v3) fun h4 => Option.bind (some (s3 + (1 : Int32))) fun v5 => f_X6_image_l19 s1 s2 kx n v5 h4)
def f_X6_image_l47 {R : Type} (s1 : Int32) (s2 : Int32) (kx : Int32 → Hp → Option R) : Nat → Int32 → Hp → Option R
  | 0, _, _ => none
  | n + 1, s3, h => if (24 : Int32) ≤ s3 then (kx s3 h) else (Option.bind (ald 24 h 3 s3) fun v8 => Option.bind (ast 240 h 12 ((s2 + (89 : Int32)) + s3) v8) fun h9 => Option.bind (some (s3 + (1 : Int32))) fun v10 => f_X6_image_l47 s1 s2 kx n v10 h9)
def f_X6_image (x1 : Int32) (h : Hp) : Option (Int32 × Hp) := Option.bind (f_X6_in x1 (0 : Int32) (1 : Int32)) fun v1 => if v1 = 0 then (some ((-2 : Int32), h)) else (Option.bind (some ((120 : Int32) * x1)) fun v2 => f_X6_image_l19 x1 v2 (fun (w6 : Int32) (h7 : Hp) => f_X6_image_l47 x1 v2 (fun (w11 : Int32) (h12 : Hp) => Option.bind (ast 240 h12 12 (v2 + (115 : Int32)) (h12.1 0 2)) fun h13 => Option.bind (ast 240 h13 12 (v2 + (116 : Int32)) (h13.1 0 3)) fun h14 => Option.bind (zast 2 h14 13 x1 (1 : Int32)) fun h15 => some ((1 : Int32), h15)) FU (0 : Int32) h7) FU (0 : Int32) h)
def f_X6_restore_l31 {R : Type} (s2 : Int32) (kx : Int32 → Hp → Option R) : Nat → Int32 → Hp → Option R
  | 0, _, _ => none
  | n + 1, s3, h => if (89 : Int32) ≤ s3 then (kx s3 h) else (Option.bind (ald 240 h 12 (s2 + s3)) fun v4 => Option.bind (ast 89 h 1 s3 v4) fun h5 => Option.bind (some (s3 + (1 : Int32))) fun v6 => f_X6_restore_l31 s2 kx n v6 h5)
def f_X6_restore_l59 {R : Type} (s2 : Int32) (kx : Int32 → Hp → Option R) : Nat → Int32 → Hp → Option R
  | 0, _, _ => none
  | n + 1, s3, h => if (24 : Int32) ≤ s3 then (kx s3 h) else (Option.bind (ald 240 h 12 ((s2 + (89 : Int32)) + s3)) fun v9 => Option.bind (ast 24 h 3 s3 v9) fun h10 => Option.bind (some (s3 + (1 : Int32))) fun v11 => f_X6_restore_l59 s2 kx n v11 h10)
def f_X6_restore (x1 : Int32) (h : Hp) : Option (Int32 × Hp) := Option.bind (f_X6_in x1 (0 : Int32) (1 : Int32)) fun v1 => if v1 = 0 then (some ((-2 : Int32), h)) else (Option.bind (ald 2 h 13 x1) fun v2 => if v2 = 0 then (some ((-3 : Int32), h)) else (Option.bind (some ((120 : Int32) * x1)) fun v3 => f_X6_restore_l31 v3 (fun (w7 : Int32) (h8 : Hp) => f_X6_restore_l59 v3 (fun (w12 : Int32) (h13 : Hp) => Option.bind (ald 240 h13 12 (v3 + (115 : Int32))) fun v14 => Option.bind (some (ip h13 0 2 v14)) fun h15 => Option.bind (ald 240 h15 12 (v3 + (116 : Int32))) fun v16 => Option.bind (some (ip h15 0 3 v16)) fun h17 => some ((1 : Int32), h17)) FU (0 : Int32) h8) FU (0 : Int32) h))
def f_X6_told (x1 : Int32) (h : Hp) : Option (Int32 × Hp) := if x1 < (100 : Int32) then (Option.bind (f_X6_asNow  h) fun h1 => if x1 < (30 : Int32) then (if x1 < (10 : Int32) then (if x1 = (0 : Int32) then (some ((h1.1 0 5), h1)) else (if x1 = (1 : Int32) then (some ((h1.1 0 2), h1)) else (if x1 = (2 : Int32) then (Option.bind (ald 89 h1 1 (88 : Int32)) fun v2 => some (v2, h1)) else (if x1 = (3 : Int32) then (some ((h1.1 0 3), h1)) else (some ((-2 : Int32), h1)))))) else (Option.bind (some (irem x1 (10 : Int32))) fun v3 => Option.bind (f_X6_isThere v3 h1) fun v4 => if v4 = 0 then (some ((-2 : Int32), h1)) else (if (20 : Int32) ≤ x1 then (Option.bind (ald 89 h1 1 (87 : Int32)) fun v5 => some (((v5 >>> (v3 &&& 31)) &&& (1 : Int32)), h1)) else (Option.bind (ald 89 h1 1 ((81 : Int32) + v3)) fun v6 => some (v6, h1))))) else (Option.bind (f_X6_in x1 (30 : Int32) (38 : Int32)) fun v7 => if v7 = 0 then (some ((-2 : Int32), h1)) else (Option.bind (f_X6_openFrom (x1 - (30 : Int32)) h1) fun v8 => some (v8, h1)))) else (Option.bind (some ((x1 / (10 : Int32)) - (10 : Int32))) fun v9 => Option.bind (f_X6_isPlace v9) fun v10 => if v10 = 0 then (some ((-2 : Int32), h)) else (Option.bind (f_X6_isPlace (irem x1 (10 : Int32))) fun v11 => if v11 = 0 then (some ((-2 : Int32), h)) else (Option.bind (ald 89 h 1 (((9 : Int32) * v9) + (irem x1 (10 : Int32)))) fun v12 => some (v12, h))))
end
