section
-- ===== PART A: goes FIRST, ahead of the names: the tables' words, and 'selects' of the private methods out of them =====
/-- a private method of a class that the tables say can be made, by its rows of tables_1 -/
def lw_okq (q : MethodName × Nat) : Prop := (q.1.cls ≠ "java/lang/invoke/MethodHandle" ∧ q.1.cls ≠ "java/lang/invoke/VarHandle") ∧ Cond.instantiable q.1.cls q.2 ∈ tables_1 ∧ Cond.privateMethod q.1 ∈ tables_1 ∧ Cond.instanceMethod q.1 ∈ tables_1
theorem lw_p0 : lw_okq (⟨"SpeakTubes$Route", "bringsNearer", "(LSpeakTubes$House;I)Z"⟩, 6) := ⟨⟨by decide +kernel, by decide +kernel⟩, List.mem_of_getElem? (i := 138) (by decide +kernel), List.mem_of_getElem? (i := 399) (by decide +kernel), List.mem_of_getElem? (i := 400) (by decide +kernel)⟩
theorem lw_p1 : lw_okq (⟨"SpeakTubes$Route", "nextTube", "(LSpeakTubes$House;II)I"⟩, 6) := ⟨⟨by decide +kernel, by decide +kernel⟩, List.mem_of_getElem? (i := 138) (by decide +kernel), List.mem_of_getElem? (i := 410) (by decide +kernel), List.mem_of_getElem? (i := 411) (by decide +kernel)⟩
theorem lw_p2 : lw_okq (⟨"SpeakTubes$Day", "endCalls", "()V"⟩, 13) := ⟨⟨by decide +kernel, by decide +kernel⟩, List.mem_of_getElem? (i := 174) (by decide +kernel), List.mem_of_getElem? (i := 471) (by decide +kernel), List.mem_of_getElem? (i := 472) (by decide +kernel)⟩
theorem lw_p3 : lw_okq (⟨"SpeakTubes$Day", "whyNot", "(IILSpeakTubes$Keeping;LSpeakTubes$Route;)I"⟩, 13) := ⟨⟨by decide +kernel, by decide +kernel⟩, List.mem_of_getElem? (i := 174) (by decide +kernel), List.mem_of_getElem? (i := 479) (by decide +kernel), List.mem_of_getElem? (i := 480) (by decide +kernel)⟩
theorem lw_p4 : lw_okq (⟨"SpeakTubes$Day", "beginCall", "(IIILSpeakTubes$Route;I)V"⟩, 13) := ⟨⟨by decide +kernel, by decide +kernel⟩, List.mem_of_getElem? (i := 174) (by decide +kernel), List.mem_of_getElem? (i := 492) (by decide +kernel), List.mem_of_getElem? (i := 493) (by decide +kernel)⟩
theorem lw_p5 : lw_okq (⟨"SpeakTubes$Day", "goingOn", "()I"⟩, 13) := ⟨⟨by decide +kernel, by decide +kernel⟩, List.mem_of_getElem? (i := 174) (by decide +kernel), List.mem_of_getElem? (i := 499) (by decide +kernel), List.mem_of_getElem? (i := 500) (by decide +kernel)⟩
theorem lw_p6 : lw_okq (⟨"SpeakTubes$Orders", "orderEnd", "(Z)I"⟩, 11) := ⟨⟨by decide +kernel, by decide +kernel⟩, List.mem_of_getElem? (i := 226) (by decide +kernel), List.mem_of_getElem? (i := 541) (by decide +kernel), List.mem_of_getElem? (i := 542) (by decide +kernel)⟩
theorem lw_p7 : lw_okq (⟨"SpeakTubes$Orders", "busyMinutes", "(I)J"⟩, 11) := ⟨⟨by decide +kernel, by decide +kernel⟩, List.mem_of_getElem? (i := 226) (by decide +kernel), List.mem_of_getElem? (i := 545) (by decide +kernel), List.mem_of_getElem? (i := 546) (by decide +kernel)⟩
theorem lw_p8 : lw_okq (⟨"SpeakTubes$Orders", "minutesOf", "(II)J"⟩, 11) := ⟨⟨by decide +kernel, by decide +kernel⟩, List.mem_of_getElem? (i := 226) (by decide +kernel), List.mem_of_getElem? (i := 549) (by decide +kernel), List.mem_of_getElem? (i := 550) (by decide +kernel)⟩
theorem lw_p9 : lw_okq (⟨"SpeakTubes$Orders", "nextOrder", "()Z"⟩, 11) := ⟨⟨by decide +kernel, by decide +kernel⟩, List.mem_of_getElem? (i := 226) (by decide +kernel), List.mem_of_getElem? (i := 561) (by decide +kernel), List.mem_of_getElem? (i := 562) (by decide +kernel)⟩
theorem lw_p10 : lw_okq (⟨"SpeakTubes$Orders", "swap", "(II)V"⟩, 11) := ⟨⟨by decide +kernel, by decide +kernel⟩, List.mem_of_getElem? (i := 226) (by decide +kernel), List.mem_of_getElem? (i := 565) (by decide +kernel), List.mem_of_getElem? (i := 566) (by decide +kernel)⟩
theorem lw_p11 : lw_okq (⟨"SpeakTubes$Servants", "takeAsTheyCome", "(ILSpeakTubes$Route;)V"⟩, 3) := ⟨⟨by decide +kernel, by decide +kernel⟩, List.mem_of_getElem? (i := 269) (by decide +kernel), List.mem_of_getElem? (i := 587) (by decide +kernel), List.mem_of_getElem? (i := 588) (by decide +kernel)⟩
theorem lw_p12 : lw_okq (⟨"SpeakTubes$Servants", "takeByNumbers", "(ILSpeakTubes$Route;)V"⟩, 3) := ⟨⟨by decide +kernel, by decide +kernel⟩, List.mem_of_getElem? (i := 269) (by decide +kernel), List.mem_of_getElem? (i := 592) (by decide +kernel), List.mem_of_getElem? (i := 593) (by decide +kernel)⟩
theorem lw_p13 : lw_okq (⟨"SpeakTubes$Stretches", "gatherParts", "(I)V"⟩, 5) := ⟨⟨by decide +kernel, by decide +kernel⟩, List.mem_of_getElem? (i := 287) (by decide +kernel), List.mem_of_getElem? (i := 638) (by decide +kernel), List.mem_of_getElem? (i := 639) (by decide +kernel)⟩
theorem lw_p14 : lw_okq (⟨"SpeakTubes$Stretches", "hasPart", "(II)Z"⟩, 5) := ⟨⟨by decide +kernel, by decide +kernel⟩, List.mem_of_getElem? (i := 287) (by decide +kernel), List.mem_of_getElem? (i := 642) (by decide +kernel), List.mem_of_getElem? (i := 643) (by decide +kernel)⟩
theorem lw_p15 : lw_okq (⟨"SpeakTubes$Stretches", "allCanBeParted", "(I)Z"⟩, 5) := ⟨⟨by decide +kernel, by decide +kernel⟩, List.mem_of_getElem? (i := 287) (by decide +kernel), List.mem_of_getElem? (i := 646) (by decide +kernel), List.mem_of_getElem? (i := 647) (by decide +kernel)⟩
def lw_privs_1 : List (MethodName × Nat) := [(⟨"SpeakTubes$Route", "bringsNearer", "(LSpeakTubes$House;I)Z"⟩, 6), (⟨"SpeakTubes$Route", "nextTube", "(LSpeakTubes$House;II)I"⟩, 6), (⟨"SpeakTubes$Day", "endCalls", "()V"⟩, 13), (⟨"SpeakTubes$Day", "whyNot", "(IILSpeakTubes$Keeping;LSpeakTubes$Route;)I"⟩, 13), (⟨"SpeakTubes$Day", "beginCall", "(IIILSpeakTubes$Route;I)V"⟩, 13), (⟨"SpeakTubes$Day", "goingOn", "()I"⟩, 13), (⟨"SpeakTubes$Orders", "orderEnd", "(Z)I"⟩, 11), (⟨"SpeakTubes$Orders", "busyMinutes", "(I)J"⟩, 11), (⟨"SpeakTubes$Orders", "minutesOf", "(II)J"⟩, 11), (⟨"SpeakTubes$Orders", "nextOrder", "()Z"⟩, 11), (⟨"SpeakTubes$Orders", "swap", "(II)V"⟩, 11), (⟨"SpeakTubes$Servants", "takeAsTheyCome", "(ILSpeakTubes$Route;)V"⟩, 3), (⟨"SpeakTubes$Servants", "takeByNumbers", "(ILSpeakTubes$Route;)V"⟩, 3), (⟨"SpeakTubes$Stretches", "gatherParts", "(I)V"⟩, 5), (⟨"SpeakTubes$Stretches", "hasPart", "(II)Z"⟩, 5), (⟨"SpeakTubes$Stretches", "allCanBeParted", "(I)Z"⟩, 5)]
theorem lw_r1 : ∀ q ∈ lw_privs_1, lw_okq q := List.forall_mem_cons.mpr ⟨lw_p0, List.forall_mem_cons.mpr ⟨lw_p1, List.forall_mem_cons.mpr ⟨lw_p2, List.forall_mem_cons.mpr ⟨lw_p3, List.forall_mem_cons.mpr ⟨lw_p4, List.forall_mem_cons.mpr ⟨lw_p5, List.forall_mem_cons.mpr ⟨lw_p6, List.forall_mem_cons.mpr ⟨lw_p7, List.forall_mem_cons.mpr ⟨lw_p8, List.forall_mem_cons.mpr ⟨lw_p9, List.forall_mem_cons.mpr ⟨lw_p10, List.forall_mem_cons.mpr ⟨lw_p11, List.forall_mem_cons.mpr ⟨lw_p12, List.forall_mem_cons.mpr ⟨lw_p13, List.forall_mem_cons.mpr ⟨lw_p14, List.forall_mem_cons.mpr ⟨lw_p15, fun _ h => absurd h List.not_mem_nil⟩⟩⟩⟩⟩⟩⟩⟩⟩⟩⟩⟩⟩⟩⟩⟩
theorem lw_p16 : lw_okq (⟨"SpeakTubes$Stretches", "layBounds", "(I)V"⟩, 5) := ⟨⟨by decide +kernel, by decide +kernel⟩, List.mem_of_getElem? (i := 287) (by decide +kernel), List.mem_of_getElem? (i := 650) (by decide +kernel), List.mem_of_getElem? (i := 651) (by decide +kernel)⟩
theorem lw_p17 : lw_okq (⟨"SpeakTubes$Distances", "layTube", "(LSpeakTubes$House;I)V"⟩, 1) := ⟨⟨by decide +kernel, by decide +kernel⟩, List.mem_of_getElem? (i := 310) (by decide +kernel), List.mem_of_getElem? (i := 675) (by decide +kernel), List.mem_of_getElem? (i := 676) (by decide +kernel)⟩
theorem lw_p18 : lw_okq (⟨"SpeakTubes$Distances", "goBy", "(I)V"⟩, 1) := ⟨⟨by decide +kernel, by decide +kernel⟩, List.mem_of_getElem? (i := 310) (by decide +kernel), List.mem_of_getElem? (i := 680) (by decide +kernel), List.mem_of_getElem? (i := 681) (by decide +kernel)⟩
def lw_privs_2 : List (MethodName × Nat) := [(⟨"SpeakTubes$Stretches", "layBounds", "(I)V"⟩, 5), (⟨"SpeakTubes$Distances", "layTube", "(LSpeakTubes$House;I)V"⟩, 1), (⟨"SpeakTubes$Distances", "goBy", "(I)V"⟩, 1)]
theorem lw_r2 : ∀ q ∈ lw_privs_2, lw_okq q := List.forall_mem_cons.mpr ⟨lw_p16, List.forall_mem_cons.mpr ⟨lw_p17, List.forall_mem_cons.mpr ⟨lw_p18, fun _ h => absurd h List.not_mem_nil⟩⟩⟩
def lw_privs : List (MethodName × Nat) := lw_privs_1 ++ (lw_privs_2)
def lw_tbl : List Cond := k2_sels lw_privs ++ tables_1
theorem lw_privs_ok : ∀ q ∈ lw_privs, lw_okq q := by
  show ∀ q ∈ lw_privs_1 ++ (lw_privs_2), lw_okq q
  exact List.forall_mem_append.mpr ⟨lw_r1, lw_r2⟩
/-! ===== BEGIN printed: names, fields, word lists, decode rows ===== -/
def RX0 : String := "SpeakTubes$Day"
def TX0 : u_T := fun k => match k with
  | 0 => ("SpeakTubes$Day", "rooms", "[I", true)
  | 1 => ("SpeakTubes$Day", "over", "[I", true)
  | 2 => ("SpeakTubes$Day", "tubes", "[I", true)
  | 3 => ("SpeakTubes$Day", "hearers", "[I", true)
  | 4 => ("SpeakTubes$Day", "brings", "[I", true)
  | 5 => ("SpeakTubes$Day", "ended", "[Z", true)
  | 6 => ("SpeakTubes$Day", "known", "[I", true)
  | 7 => ("SpeakTubes$Day", "begun", "I", false)
  | 8 => ("SpeakTubes$Day", "minute", "I", false)
  | 9 => ("SpeakTubes$Day", "last", "I", false)
  | 10 => ("SpeakTubes$Day", "most", "I", false)
  | 11 => ("SpeakTubes$Day", "used", "I", false)
  | _ => ("SpeakTubes$Day", "why", "I", false)
def tyX0 : Nat → FieldType := fun k => match k with
  | 0 => .array .int
  | 1 => .array .int
  | 2 => .array .int
  | 3 => .array .int
  | 4 => .array .int
  | 5 => .array .boolean
  | 6 => .array .int
  | 7 => .int
  | 8 => .int
  | 9 => .int
  | 10 => .int
  | 11 => .int
  | _ => .int
abbrev wsX00 : List Cond := u_ws RX0 TX0 13
theorem nmX0 : ∀ a, a < 13 → ∀ b, b < 13 → a ≠ b → (TX0 a).2.1 ≠ (TX0 b).2.1 := by decide +kernel
theorem tyX0_ok : ∀ k, k < 13 → parseFieldDescriptor (TX0 k).2.2.1 = some (tyX0 k) := by decide +kernel
abbrev cX0_init : ByteArray := prog_2_method_1_code
def yX0_init : MethodName := ⟨RX0, "<init>", "()V"⟩
abbrev cX0_run : ByteArray := prog_2_method_2_code
def yX0_run : MethodName := ⟨RX0, "run", "(LSpeakTubes$Pad;LSpeakTubes$Keeping;LSpeakTubes$Route;I)V"⟩
abbrev cX0_beginCall : ByteArray := prog_2_method_3_code
def yX0_beginCall : MethodName := ⟨RX0, "beginCall", "(IIILSpeakTubes$Route;I)V"⟩
abbrev cX0_whyNot : ByteArray := prog_2_method_4_code
def yX0_whyNot : MethodName := ⟨RX0, "whyNot", "(IILSpeakTubes$Keeping;LSpeakTubes$Route;)I"⟩
abbrev cX0_goingOn : ByteArray := prog_2_method_5_code
def yX0_goingOn : MethodName := ⟨RX0, "goingOn", "()I"⟩
abbrev cX0_endCalls : ByteArray := prog_2_method_6_code
def yX0_endCalls : MethodName := ⟨RX0, "endCalls", "()V"⟩
def RX1 : String := "SpeakTubes$Distances"
def TX1 : u_T := fun k => match k with
  | _ => ("SpeakTubes$Distances", "lengths", "[I", true)
def tyX1 : Nat → FieldType := fun k => match k with
  | _ => .array .int
abbrev wsX10 : List Cond := u_ws RX1 TX1 1
theorem nmX1 : ∀ a, a < 1 → ∀ b, b < 1 → a ≠ b → (TX1 a).2.1 ≠ (TX1 b).2.1 := by decide +kernel
theorem tyX1_ok : ∀ k, k < 1 → parseFieldDescriptor (TX1 k).2.2.1 = some (tyX1 k) := by decide +kernel
abbrev cX1_init : ByteArray := prog_3_method_1_code
def yX1_init : MethodName := ⟨RX1, "<init>", "()V"⟩
abbrev cX1_measure : ByteArray := prog_3_method_2_code
def yX1_measure : MethodName := ⟨RX1, "measure", "(LSpeakTubes$Keeping;I)V"⟩
abbrev cX1_layTube : ByteArray := prog_3_method_3_code
def yX1_layTube : MethodName := ⟨RX1, "layTube", "(LSpeakTubes$House;I)V"⟩
abbrev cX1_goBy : ByteArray := prog_3_method_4_code
def yX1_goBy : MethodName := ⟨RX1, "goBy", "(I)V"⟩
abbrev cX1_carried : ByteArray := prog_3_method_5_code
def yX1_carried : MethodName := ⟨RX1, "carried", "(II)I"⟩
abbrev cX1_sum : ByteArray := prog_3_method_6_code
def yX1_sum : MethodName := ⟨RX1, "sum", "()I"⟩
abbrev cX1_sumWith : ByteArray := prog_3_method_7_code
def yX1_sumWith : MethodName := ⟨RX1, "sumWith", "(IIII)I"⟩
abbrev cX1_lacksOneOf : ByteArray := prog_3_method_8_code
def yX1_lacksOneOf : MethodName := ⟨RX1, "lacksOneOf", "(LSpeakTubes$Distances;)Z"⟩
def RX2 : String := "SpeakTubes$House"
def TX2 : u_T := fun k => match k with
  | 0 => ("SpeakTubes$House", "first", "[I", true)
  | 1 => ("SpeakTubes$House", "other", "[I", true)
  | 2 => ("SpeakTubes$House", "kind", "[I", true)
  | 3 => ("SpeakTubes$House", "length", "[I", true)
  | _ => ("SpeakTubes$House", "count", "I", false)
def tyX2 : Nat → FieldType := fun k => match k with
  | 0 => .array .int
  | 1 => .array .int
  | 2 => .array .int
  | 3 => .array .int
  | _ => .int
abbrev wsX20 : List Cond := u_ws RX2 TX2 5
theorem nmX2 : ∀ a, a < 5 → ∀ b, b < 5 → a ≠ b → (TX2 a).2.1 ≠ (TX2 b).2.1 := by decide +kernel
theorem tyX2_ok : ∀ k, k < 5 → parseFieldDescriptor (TX2 k).2.2.1 = some (tyX2 k) := by decide +kernel
abbrev cX2_init : ByteArray := prog_4_method_1_code
def yX2_init : MethodName := ⟨RX2, "<init>", "()V"⟩
abbrev cX2_read : ByteArray := prog_4_method_2_code
def yX2_read : MethodName := ⟨RX2, "read", "(LSpeakTubes$Pad;)V"⟩
abbrev cX2_beyond : ByteArray := prog_4_method_4_code
def yX2_beyond : MethodName := ⟨RX2, "beyond", "(II)I"⟩
abbrev cX2_ofKind : ByteArray := prog_4_method_5_code
def yX2_ofKind : MethodName := ⟨RX2, "ofKind", "(I)I"⟩
def RX3 : String := "SpeakTubes$Keeping"
def TX3 : u_T := fun k => match k with
  | 0 => ("SpeakTubes$Keeping", "house", "LSpeakTubes$House;", true)
  | 1 => ("SpeakTubes$Keeping", "carries", "I", false)
  | 2 => ("SpeakTubes$Keeping", "stoppers", "I", false)
  | 3 => ("SpeakTubes$Keeping", "matters", "[I", true)
  | 4 => ("SpeakTubes$Keeping", "from", "[I", true)
  | 5 => ("SpeakTubes$Keeping", "to", "[I", true)
  | 6 => ("SpeakTubes$Keeping", "minutes", "[I", true)
  | 7 => ("SpeakTubes$Keeping", "due", "[I", true)
  | 8 => ("SpeakTubes$Keeping", "waiting", "I", false)
  | 9 => ("SpeakTubes$Keeping", "tries", "I", false)
  | _ => ("SpeakTubes$Keeping", "canBe", "I", false)
def tyX3 : Nat → FieldType := fun k => match k with
  | 0 => .object "SpeakTubes$House"
  | 1 => .int
  | 2 => .int
  | 3 => .array .int
  | 4 => .array .int
  | 5 => .array .int
  | 6 => .array .int
  | 7 => .array .int
  | 8 => .int
  | 9 => .int
  | _ => .int
abbrev wsX30 : List Cond := u_ws RX3 TX3 11
theorem nmX3 : ∀ a, a < 11 → ∀ b, b < 11 → a ≠ b → (TX3 a).2.1 ≠ (TX3 b).2.1 := by decide +kernel
theorem tyX3_ok : ∀ k, k < 11 → parseFieldDescriptor (TX3 k).2.2.1 = some (tyX3 k) := by decide +kernel
abbrev cX3_init : ByteArray := prog_5_method_1_code
def yX3_init : MethodName := ⟨RX3, "<init>", "()V"⟩
abbrev cX3_beginTries : ByteArray := prog_5_method_3_code
def yX3_beginTries : MethodName := ⟨RX3, "beginTries", "()V"⟩
abbrev cX3_addWaiting : ByteArray := prog_5_method_4_code
def yX3_addWaiting : MethodName := ⟨RX3, "addWaiting", "(IIII)Z"⟩
def RX4 : String := "SpeakTubes$Orders"
def TX4 : u_T := fun k => match k with
  | 0 => ("SpeakTubes$Orders", "rooms", "[I", true)
  | 1 => ("SpeakTubes$Orders", "tubes", "[I", true)
  | 2 => ("SpeakTubes$Orders", "minutes", "[I", true)
  | 3 => ("SpeakTubes$Orders", "due", "[I", true)
  | 4 => ("SpeakTubes$Orders", "order", "[I", true)
  | 5 => ("SpeakTubes$Orders", "best", "[I", true)
  | 6 => ("SpeakTubes$Orders", "spans", "[J", true)
  | 7 => ("SpeakTubes$Orders", "count", "I", false)
  | 8 => ("SpeakTubes$Orders", "doubles", "I", false)
  | 9 => ("SpeakTubes$Orders", "minute", "I", false)
  | _ => ("SpeakTubes$Orders", "found", "Z", false)
def tyX4 : Nat → FieldType := fun k => match k with
  | 0 => .array .int
  | 1 => .array .int
  | 2 => .array .int
  | 3 => .array .int
  | 4 => .array .int
  | 5 => .array .int
  | 6 => .array .long
  | 7 => .int
  | 8 => .int
  | 9 => .int
  | _ => .boolean
abbrev wsX40 : List Cond := u_ws RX4 TX4 11
theorem nmX4 : ∀ a, a < 11 → ∀ b, b < 11 → a ≠ b → (TX4 a).2.1 ≠ (TX4 b).2.1 := by decide +kernel
theorem tyX4_ok : ∀ k, k < 11 → parseFieldDescriptor (TX4 k).2.2.1 = some (tyX4 k) := by decide +kernel
abbrev cX4_init : ByteArray := prog_6_method_1_code
def yX4_init : MethodName := ⟨RX4, "<init>", "()V"⟩
abbrev cX4_gather : ByteArray := prog_6_method_2_code
def yX4_gather : MethodName := ⟨RX4, "gather", "(LSpeakTubes$Keeping;LSpeakTubes$Route;)Z"⟩
abbrev cX4_seek : ByteArray := prog_6_method_3_code
def yX4_seek : MethodName := ⟨RX4, "seek", "(Z)V"⟩
abbrev cX4_callAt : ByteArray := prog_6_method_4_code
def yX4_callAt : MethodName := ⟨RX4, "callAt", "(I)I"⟩
abbrev cX4_orderEnd : ByteArray := prog_6_method_5_code
def yX4_orderEnd : MethodName := ⟨RX4, "orderEnd", "(Z)I"⟩
abbrev cX4_span : ByteArray := prog_6_method_6_code
def yX4_span : MethodName := ⟨RX4, "span", "(II)J"⟩
abbrev cX4_firstFree : ByteArray := prog_6_method_7_code
def yX4_firstFree : MethodName := ⟨RX4, "firstFree", "(JI)I"⟩
abbrev cX4_busyMinutes : ByteArray := prog_6_method_8_code
def yX4_busyMinutes : MethodName := ⟨RX4, "busyMinutes", "(I)J"⟩
abbrev cX4_minutesOf : ByteArray := prog_6_method_9_code
def yX4_minutesOf : MethodName := ⟨RX4, "minutesOf", "(II)J"⟩
abbrev cX4_nextOrder : ByteArray := prog_6_method_10_code
def yX4_nextOrder : MethodName := ⟨RX4, "nextOrder", "()Z"⟩
abbrev cX4_swap : ByteArray := prog_6_method_11_code
def yX4_swap : MethodName := ⟨RX4, "swap", "(II)V"⟩
def RX5 : String := "SpeakTubes$Pad"
def TX5 : u_T := fun k => match k with
  | 0 => ("SpeakTubes$Pad", "signs", "[I", true)
  | _ => ("SpeakTubes$Pad", "count", "I", false)
def tyX5 : Nat → FieldType := fun k => match k with
  | 0 => .array .int
  | _ => .int
abbrev wsX50 : List Cond := u_ws RX5 TX5 2
theorem nmX5 : ∀ a, a < 2 → ∀ b, b < 2 → a ≠ b → (TX5 a).2.1 ≠ (TX5 b).2.1 := by decide +kernel
theorem tyX5_ok : ∀ k, k < 2 → parseFieldDescriptor (TX5 k).2.2.1 = some (tyX5 k) := by decide +kernel
abbrev cX5_init : ByteArray := prog_7_method_1_code
def yX5_init : MethodName := ⟨RX5, "<init>", "()V"⟩
abbrev cX5_add : ByteArray := prog_7_method_2_code
def yX5_add : MethodName := ⟨RX5, "add", "(I)Z"⟩
abbrev cX5_empty : ByteArray := prog_7_method_3_code
def yX5_empty : MethodName := ⟨RX5, "empty", "()I"⟩
abbrev cX5_signAt : ByteArray := prog_7_method_4_code
def yX5_signAt : MethodName := ⟨RX5, "signAt", "(I)I"⟩
abbrev cX5_roomAt : ByteArray := prog_7_method_5_code
def yX5_roomAt : MethodName := ⟨RX5, "roomAt", "(I)Z"⟩
abbrev cX5_otherRoomAt : ByteArray := prog_7_method_6_code
def yX5_otherRoomAt : MethodName := ⟨RX5, "otherRoomAt", "(II)Z"⟩
abbrev cX5_digitAt : ByteArray := prog_7_method_7_code
def yX5_digitAt : MethodName := ⟨RX5, "digitAt", "(I)Z"⟩
abbrev cX5_kindAt : ByteArray := prog_7_method_8_code
def yX5_kindAt : MethodName := ⟨RX5, "kindAt", "(I)Z"⟩
abbrev cX5_roomOf : ByteArray := prog_7_method_9_code
def yX5_roomOf : MethodName := ⟨RX5, "roomOf", "(I)I"⟩
abbrev cX5_numberOf : ByteArray := prog_7_method_10_code
def yX5_numberOf : MethodName := ⟨RX5, "numberOf", "(I)I"⟩
abbrev cX5_houseFault : ByteArray := prog_7_method_11_code
def yX5_houseFault : MethodName := ⟨RX5, "houseFault", "()I"⟩
abbrev cX5_dayFault : ByteArray := prog_7_method_12_code
def yX5_dayFault : MethodName := ⟨RX5, "dayFault", "()I"⟩
def RX6 : String := "SpeakTubes$Route"
def TX6 : u_T := fun k => match k with
  | 0 => ("SpeakTubes$Route", "cost", "[I", true)
  | 1 => ("SpeakTubes$Route", "tubes", "[I", true)
  | 2 => ("SpeakTubes$Route", "rooms", "[I", true)
  | 3 => ("SpeakTubes$Route", "count", "I", false)
  | 4 => ("SpeakTubes$Route", "length", "I", false)
  | _ => ("SpeakTubes$Route", "mask", "I", false)
def tyX6 : Nat → FieldType := fun k => match k with
  | 0 => .array .int
  | 1 => .array .int
  | 2 => .array .int
  | 3 => .int
  | 4 => .int
  | _ => .int
abbrev wsX60 : List Cond := u_ws RX6 TX6 6
theorem nmX6 : ∀ a, a < 6 → ∀ b, b < 6 → a ≠ b → (TX6 a).2.1 ≠ (TX6 b).2.1 := by decide +kernel
theorem tyX6_ok : ∀ k, k < 6 → parseFieldDescriptor (TX6 k).2.2.1 = some (tyX6 k) := by decide +kernel
abbrev cX6_init : ByteArray := prog_8_method_1_code
def yX6_init : MethodName := ⟨RX6, "<init>", "()V"⟩
abbrev cX6_find : ByteArray := prog_8_method_2_code
def yX6_find : MethodName := ⟨RX6, "find", "(LSpeakTubes$Keeping;III)Z"⟩
abbrev cX6_aim : ByteArray := prog_8_method_3_code
def yX6_aim : MethodName := ⟨RX6, "aim", "(LSpeakTubes$House;II)V"⟩
abbrev cX6_bringsNearer : ByteArray := prog_8_method_4_code
def yX6_bringsNearer : MethodName := ⟨RX6, "bringsNearer", "(LSpeakTubes$House;I)Z"⟩
abbrev cX6_stepOf : ByteArray := prog_8_method_5_code
def yX6_stepOf : MethodName := ⟨RX6, "stepOf", "(LSpeakTubes$House;I)I"⟩
abbrev cX6_walk : ByteArray := prog_8_method_6_code
def yX6_walk : MethodName := ⟨RX6, "walk", "(LSpeakTubes$Keeping;III)Z"⟩
abbrev cX6_nextTube : ByteArray := prog_8_method_7_code
def yX6_nextTube : MethodName := ⟨RX6, "nextTube", "(LSpeakTubes$House;II)I"⟩
abbrev cX6_loudness : ByteArray := prog_8_method_8_code
def yX6_loudness : MethodName := ⟨RX6, "loudness", "(LSpeakTubes$Keeping;I)I"⟩
abbrev cX6_hearers : ByteArray := prog_8_method_9_code
def yX6_hearers : MethodName := ⟨RX6, "hearers", "(LSpeakTubes$House;I)I"⟩
def RX7 : String := "SpeakTubes$Servants"
def TX7 : u_T := fun k => match k with
  | 0 => ("SpeakTubes$Servants", "takes", "[[I", true)
  | 1 => ("SpeakTubes$Servants", "counts", "[I", true)
  | _ => ("SpeakTubes$Servants", "doubles", "I", false)
def tyX7 : Nat → FieldType := fun k => match k with
  | 0 => .array (.array .int)
  | 1 => .array .int
  | _ => .int
abbrev wsX70 : List Cond := u_ws RX7 TX7 3
theorem nmX7 : ∀ a, a < 3 → ∀ b, b < 3 → a ≠ b → (TX7 a).2.1 ≠ (TX7 b).2.1 := by decide +kernel
theorem tyX7_ok : ∀ k, k < 3 → parseFieldDescriptor (TX7 k).2.2.1 = some (tyX7 k) := by decide +kernel
abbrev cX7_init : ByteArray := prog_9_method_1_code
def yX7_init : MethodName := ⟨RX7, "<init>", "()V"⟩
abbrev cX7_gather : ByteArray := prog_9_method_2_code
def yX7_gather : MethodName := ⟨RX7, "gather", "(LSpeakTubes$Keeping;LSpeakTubes$Route;II)Z"⟩
abbrev cX7_takeAsTheyCome : ByteArray := prog_9_method_3_code
def yX7_takeAsTheyCome : MethodName := ⟨RX7, "takeAsTheyCome", "(ILSpeakTubes$Route;)V"⟩
abbrev cX7_takeByNumbers : ByteArray := prog_9_method_4_code
def yX7_takeByNumbers : MethodName := ⟨RX7, "takeByNumbers", "(ILSpeakTubes$Route;)V"⟩
abbrev cX7_leastLocked : ByteArray := prog_9_method_5_code
def yX7_leastLocked : MethodName := ⟨RX7, "leastLocked", "()I"⟩
abbrev cX7_leastFrom : ByteArray := prog_9_method_6_code
def yX7_leastFrom : MethodName := ⟨RX7, "leastFrom", "(LSpeakTubes$Servants;IIIII)I"⟩
def RX8 : String := "SpeakTubes$Stretches"
def TX8 : u_T := fun k => match k with
  | 0 => ("SpeakTubes$Stretches", "ways", "[I", true)
  | 1 => ("SpeakTubes$Stretches", "parts", "[I", true)
  | 2 => ("SpeakTubes$Stretches", "count", "I", false)
  | 3 => ("SpeakTubes$Stretches", "bounds", "[I", true)
  | _ => ("SpeakTubes$Stretches", "fewest", "[B", true)
def tyX8 : Nat → FieldType := fun k => match k with
  | 0 => .array .int
  | 1 => .array .int
  | 2 => .int
  | 3 => .array .int
  | _ => .array .byte
abbrev wsX80 : List Cond := u_ws RX8 TX8 5
theorem nmX8 : ∀ a, a < 5 → ∀ b, b < 5 → a ≠ b → (TX8 a).2.1 ≠ (TX8 b).2.1 := by decide +kernel
theorem tyX8_ok : ∀ k, k < 5 → parseFieldDescriptor (TX8 k).2.2.1 = some (tyX8 k) := by decide +kernel
abbrev cX8_init : ByteArray := prog_10_method_1_code
def yX8_init : MethodName := ⟨RX8, "<init>", "()V"⟩
abbrev cX8_gather : ByteArray := prog_10_method_2_code
def yX8_gather : MethodName := ⟨RX8, "gather", "(LSpeakTubes$Keeping;LSpeakTubes$Route;)V"⟩
abbrev cX8_nextTry : ByteArray := prog_10_method_3_code
def yX8_nextTry : MethodName := ⟨RX8, "nextTry", "(I)I"⟩
abbrev cX8_largerPart : ByteArray := prog_10_method_4_code
def yX8_largerPart : MethodName := ⟨RX8, "largerPart", "(II)I"⟩
abbrev cX8_fewestTries : ByteArray := prog_10_method_5_code
def yX8_fewestTries : MethodName := ⟨RX8, "fewestTries", "(I)I"⟩
abbrev cX8_gatherParts : ByteArray := prog_10_method_6_code
def yX8_gatherParts : MethodName := ⟨RX8, "gatherParts", "(I)V"⟩
abbrev cX8_hasPart : ByteArray := prog_10_method_7_code
def yX8_hasPart : MethodName := ⟨RX8, "hasPart", "(II)Z"⟩
abbrev cX8_allCanBeParted : ByteArray := prog_10_method_8_code
def yX8_allCanBeParted : MethodName := ⟨RX8, "allCanBeParted", "(I)Z"⟩
abbrev cX8_layBounds : ByteArray := prog_10_method_9_code
def yX8_layBounds : MethodName := ⟨RX8, "layBounds", "(I)V"⟩
abbrev cX8_fewestOf : ByteArray := prog_10_method_10_code
def yX8_fewestOf : MethodName := ⟨RX8, "fewestOf", "(LSpeakTubes$Stretches;II)I"⟩
def RX9 : String := "SpeakTubes"
def TX9 : u_T := fun k => match k with
  | 0 => ("SpeakTubes", "pad", "LSpeakTubes$Pad;", true)
  | 1 => ("SpeakTubes", "now", "LSpeakTubes$Keeping;", true)
  | 2 => ("SpeakTubes", "image0", "LSpeakTubes$Keeping;", true)
  | 3 => ("SpeakTubes", "image1", "LSpeakTubes$Keeping;", true)
  | 4 => ("SpeakTubes", "kept", "[Z", true)
  | 5 => ("SpeakTubes", "route", "LSpeakTubes$Route;", true)
  | 6 => ("SpeakTubes", "today", "LSpeakTubes$Day;", true)
  | 7 => ("SpeakTubes", "orders", "LSpeakTubes$Orders;", true)
  | 8 => ("SpeakTubes", "servants", "LSpeakTubes$Servants;", true)
  | 9 => ("SpeakTubes", "stretches", "LSpeakTubes$Stretches;", true)
  | 10 => ("SpeakTubes", "distances", "LSpeakTubes$Distances;", true)
  | _ => ("SpeakTubes", "others", "LSpeakTubes$Distances;", true)
def tyX9 : Nat → FieldType := fun k => match k with
  | 0 => .object "SpeakTubes$Pad"
  | 1 => .object "SpeakTubes$Keeping"
  | 2 => .object "SpeakTubes$Keeping"
  | 3 => .object "SpeakTubes$Keeping"
  | 4 => .array .boolean
  | 5 => .object "SpeakTubes$Route"
  | 6 => .object "SpeakTubes$Day"
  | 7 => .object "SpeakTubes$Orders"
  | 8 => .object "SpeakTubes$Servants"
  | 9 => .object "SpeakTubes$Stretches"
  | 10 => .object "SpeakTubes$Distances"
  | _ => .object "SpeakTubes$Distances"
abbrev wsX90 : List Cond := u_ws RX9 TX9 12
theorem nmX9 : ∀ a, a < 12 → ∀ b, b < 12 → a ≠ b → (TX9 a).2.1 ≠ (TX9 b).2.1 := by decide +kernel
theorem tyX9_ok : ∀ k, k < 12 → parseFieldDescriptor (TX9 k).2.2.1 = some (tyX9 k) := by decide +kernel
abbrev cX9_init : ByteArray := prog_1_method_1_code
def yX9_init : MethodName := ⟨RX9, "<init>", "()V"⟩
abbrev cX9_say : ByteArray := prog_1_method_2_code
def yX9_say : MethodName := ⟨RX9, "say", "(I)I"⟩
abbrev cX9_wipe : ByteArray := prog_1_method_3_code
def yX9_wipe : MethodName := ⟨RX9, "wipe", "()I"⟩
abbrev cX9_fault : ByteArray := prog_1_method_4_code
def yX9_fault : MethodName := ⟨RX9, "fault", "(I)I"⟩
abbrev cX9_house : ByteArray := prog_1_method_5_code
def yX9_house : MethodName := ⟨RX9, "house", "()I"⟩
abbrev cX9_set : ByteArray := prog_1_method_7_code
def yX9_set : MethodName := ⟨RX9, "set", "(II)I"⟩
abbrev cX9_way : ByteArray := prog_1_method_8_code
def yX9_way : MethodName := ⟨RX9, "way", "(III)I"⟩
abbrev cX9_loud : ByteArray := prog_1_method_9_code
def yX9_loud : MethodName := ⟨RX9, "loud", "(III)I"⟩
abbrev cX9_heard : ByteArray := prog_1_method_10_code
def yX9_heard : MethodName := ⟨RX9, "heard", "(II)I"⟩
abbrev cX9_judge : ByteArray := prog_1_method_11_code
def yX9_judge : MethodName := ⟨RX9, "judge", "(I)I"⟩
abbrev cX9_day : ByteArray := prog_1_method_12_code
def yX9_day : MethodName := ⟨RX9, "day", "(I)I"⟩
abbrev cX9_know : ByteArray := prog_1_method_13_code
def yX9_know : MethodName := ⟨RX9, "know", "(II)I"⟩
abbrev cX9_knows : ByteArray := prog_1_method_14_code
def yX9_knows : MethodName := ⟨RX9, "knows", "(II)I"⟩
abbrev cX9_call : ByteArray := prog_1_method_15_code
def yX9_call : MethodName := ⟨RX9, "call", "(IIII)I"⟩
abbrev cX9_clear : ByteArray := prog_1_method_16_code
def yX9_clear : MethodName := ⟨RX9, "clear", "()I"⟩
abbrev cX9_soonest : ByteArray := prog_1_method_17_code
def yX9_soonest : MethodName := ⟨RX9, "soonest", "(I)I"⟩
abbrev cX9_byDue : ByteArray := prog_1_method_18_code
def yX9_byDue : MethodName := ⟨RX9, "byDue", "(I)I"⟩
abbrev cX9_locked : ByteArray := prog_1_method_19_code
def yX9_locked : MethodName := ⟨RX9, "locked", "(II)I"⟩
abbrev cX9_tried : ByteArray := prog_1_method_20_code
def yX9_tried : MethodName := ⟨RX9, "tried", "(IIZ)I"⟩
abbrev cX9_stopped : ByteArray := prog_1_method_22_code
def yX9_stopped : MethodName := ⟨RX9, "stopped", "(I)I"⟩
abbrev cX9_far : ByteArray := prog_1_method_23_code
def yX9_far : MethodName := ⟨RX9, "far", "(II)I"⟩
abbrev cX9_further : ByteArray := prog_1_method_24_code
def yX9_further : MethodName := ⟨RX9, "further", "(II)I"⟩
abbrev cX9_bridges : ByteArray := prog_1_method_25_code
def yX9_bridges : MethodName := ⟨RX9, "bridges", "()I"⟩
abbrev cX9_told : ByteArray := prog_1_method_29_code
def yX9_told : MethodName := ⟨RX9, "told", "(I)I"⟩
abbrev cX9_within : ByteArray := prog_1_method_30_code
def yX9_within : MethodName := ⟨RX9, "within", "(III)Z"⟩
abbrev cX9_isRoom : ByteArray := prog_1_method_31_code
def yX9_isRoom : MethodName := ⟨RX9, "isRoom", "(I)Z"⟩
abbrev cX9_twoRooms : ByteArray := prog_1_method_32_code
def yX9_twoRooms : MethodName := ⟨RX9, "twoRooms", "(II)Z"⟩
abbrev cX9_takenOf : ByteArray := prog_1_method_33_code
def yX9_takenOf : MethodName := ⟨RX9, "takenOf", "(III)I"⟩
def RX10 : String := "SpeakTubesModel"
def TX10 : u_T := fun k => match k with
  | _ => ("", "", "", false)
def tyX10 : Nat → FieldType := fun k => match k with
  | _ => .int
abbrev wsX100 : List Cond := u_ws RX10 TX10 0
theorem nmX10 : ∀ a, a < 0 → ∀ b, b < 0 → a ≠ b → (TX10 a).2.1 ≠ (TX10 b).2.1 := by decide +kernel
theorem tyX10_ok : ∀ k, k < 0 → parseFieldDescriptor (TX10 k).2.2.1 = some (tyX10 k) := by decide +kernel
def RJ6 : String := "java/lang/Integer"
def TJ6 : u_T := fun k => match k with
  | _ => ("", "", "", false)
def tyJ6 : Nat → FieldType := fun k => match k with
  | _ => .int
abbrev wsJ60 : List Cond := u_ws RJ6 TJ6 0
theorem nmJ6 : ∀ a, a < 0 → ∀ b, b < 0 → a ≠ b → (TJ6 a).2.1 ≠ (TJ6 b).2.1 := by decide +kernel
theorem tyJ6_ok : ∀ k, k < 0 → parseFieldDescriptor (TJ6 k).2.2.1 = some (tyJ6 k) := by decide +kernel
abbrev cJ6_bitCount_0f7a4 : ByteArray := prog_13_method_49_code
def yJ6_bitCount_0f7a4 : MethodName := ⟨RJ6, "bitCount", "(I)I"⟩
def RJ9 : String := "java/lang/Math"
def TJ9 : u_T := fun k => match k with
  | _ => ("", "", "", false)
def tyJ9 : Nat → FieldType := fun k => match k with
  | _ => .int
abbrev wsJ90 : List Cond := u_ws RJ9 TJ9 0
theorem nmJ9 : ∀ a, a < 0 → ∀ b, b < 0 → a ≠ b → (TJ9 a).2.1 ≠ (TJ9 b).2.1 := by decide +kernel
theorem tyJ9_ok : ∀ k, k < 0 → parseFieldDescriptor (TJ9 k).2.2.1 = some (tyJ9 k) := by decide +kernel
abbrev cJ9_max_7cf53 : ByteArray := prog_14_method_65_code
def yJ9_max_7cf53 : MethodName := ⟨RJ9, "max", "(II)I"⟩
abbrev cJ9_min_7cf53 : ByteArray := prog_14_method_69_code
def yJ9_min_7cf53 : MethodName := ⟨RJ9, "min", "(II)I"⟩
def RJ10 : String := "java/lang/System"
def TJ10 : u_T := fun k => match k with
  | _ => ("", "", "", false)
def tyJ10 : Nat → FieldType := fun k => match k with
  | _ => .int
abbrev wsJ100 : List Cond := u_ws RJ10 TJ10 0
theorem nmJ10 : ∀ a, a < 0 → ∀ b, b < 0 → a ≠ b → (TJ10 a).2.1 ≠ (TJ10 b).2.1 := by decide +kernel
theorem tyJ10_ok : ∀ k, k < 0 → parseFieldDescriptor (TJ10 k).2.2.1 = some (tyJ10 k) := by decide +kernel
def RJ7 : String := "java/util/Arrays"
def TJ7 : u_T := fun k => match k with
  | _ => ("", "", "", false)
def tyJ7 : Nat → FieldType := fun k => match k with
  | _ => .int
abbrev wsJ70 : List Cond := u_ws RJ7 TJ7 0
theorem nmJ7 : ∀ a, a < 0 → ∀ b, b < 0 → a ≠ b → (TJ7 a).2.1 ≠ (TJ7 b).2.1 := by decide +kernel
theorem tyJ7_ok : ∀ k, k < 0 → parseFieldDescriptor (TJ7 k).2.2.1 = some (tyJ7 k) := by decide +kernel
abbrev cJ7_fill_031fb : ByteArray := prog_16_method_109_code
def yJ7_fill_031fb : MethodName := ⟨RJ7, "fill", "([BB)V"⟩
def RL : String := "SpeakTubesLaw"
abbrev cL_cell : ByteArray := method_2_code
def yL_cell : MethodName := ⟨RL, "cell", "([III)I"⟩
abbrev cL_sign : ByteArray := method_3_code
def yL_sign : MethodName := ⟨RL, "sign", "(I)I"⟩
abbrev cL_house : ByteArray := method_4_code
def yL_house : MethodName := ⟨RL, "house", "(LSpeakTubes;[III[I)I"⟩
abbrev cL_leads : ByteArray := method_5_code
def yL_leads : MethodName := ⟨RL, "leads", "([III)I"⟩
abbrev cL_law : ByteArray := code
def yL_law : MethodName := ⟨RL, "law", "([I)Z"⟩
def R_law : String := "SpeakTubesLaw"
def lw_P (b : Addr) (xs : List Int32) (args : Array Value) (s : State) : Prop := args = #[.ref b] ∧ s.IntsAt b xs ∧ xs.length ≤ 260 ∧ (Jvm.Cond.and given_1 narrow_1).before args s = true
def lw_Q (_ : Array Value) (s : State) (o : Outcome) (t : State) : Prop := o = .returned (some (.int 1)) ∧ Framed s o t [] 600000 7302250
def lw_Z (below : List Frame) (a : Array Value) (s : State) : State → Prop := fun t => ∃ o, t.status = .running ∧ Ended t below o ∧ lw_Q a s o t
/-- the law's own end, with 1 on the stack, nothing written that was there before, its room as the claim has it -/
theorem lw_ret {p : Program} {l : Launch} {e : Env} {s : State} {m : MethodId} {below : List Frame} {meth : Method} {c : Code} {b : Nat} (hx : p.tables.exec = Jvm.exec) (hb : c.code = code) (hr : meth.sig.returnType = ret) (hlocks : meth.locks = false) {pc : Nat} {H : Heap} {ls : Array Slot} (hdg : decode code pc = .ok (.ireturn, 1)) : W p l e room_1 s m #[Value.ref b] below meth c H [] 600000 7302250 (lw_Z below #[Value.ref b] s) (F0 m pc ls [.int 1]) := by
  intro T hT X
  obtain ⟨fs, hret, hrun, hended, hW, hframe⟩ := X.leave (v := some (.int 1)) (hlocks := hlocks) (fun h => by rw [hr] at h; cases h)
  have hmeth' : T.vm.method? m = some meth := X.method'
  refine ⟨T.setFrames fs, ?_, .returned (some (.int 1)), hrun, hended, rfl, ⟨_, rfl⟩, hW, hframe⟩
  jvm_step X.here [X.here.top, hx, hb, hdg, hmeth', hr, ret, narrow_b1]
  (try refine ⟨rfl, ?_⟩); (try refine ⟨rfl, ?_⟩)
  first | (intro acts; rw [hret _ acts rfl rfl rfl]) | rw [hret _ _ rfl rfl rfl]
  exact Steps.refl _
/-- what holds at the law's entry: the machine, the code, the tables' words (any of lw_tbl by 'hts w (by decide +kernel)'), the script of L ints xs at the cell b, what the Statement gives of the start (any of its parts by flat_of_before) -/
def lw_At (p : Program) (s : State) (m : MethodId) (meth : Method) (c : Code) (b L : Nat) (xs : Nat → Int32) : Prop :=
  p.tables.exec = Jvm.exec ∧ c.code = code ∧ meth.sig.returnType = ret ∧ c.maxLocals = 21 ∧ s.vm.findClass R_law = some m.cls ∧ (∀ w ∈ lw_tbl, w.before #[Value.ref b] s = true) ∧ va_X b L xs s s.heap ∧ b < s.heap.size ∧ meth.locks = false ∧ (Jvm.Cond.and given_1 narrow_1).before #[Value.ref b] s = true
end
section
/-! the tables of the abstract machine, by program: methods, field links, constants, places -/
def am_N (y : Nat) : MethodName := (bif Nat.blt y 47 then (bif Nat.blt y 23 then (bif Nat.blt y 11 then (bif Nat.blt y 5 then (bif Nat.blt y 2 then (bif Nat.blt y 1 then yX0_run else yX0_beginCall) else (bif Nat.blt y 3 then yX0_whyNot else (bif Nat.blt y 4 then yX0_goingOn else yX0_endCalls))) else (bif Nat.blt y 8 then (bif Nat.blt y 6 then yX1_measure else (bif Nat.blt y 7 then yX1_layTube else yX1_goBy)) else (bif Nat.blt y 9 then yX1_carried else (bif Nat.blt y 10 then yX1_sum else yX1_sumWith)))) else (bif Nat.blt y 17 then (bif Nat.blt y 14 then (bif Nat.blt y 12 then yX1_lacksOneOf else (bif Nat.blt y 13 then yX2_read else yX2_beyond)) else (bif Nat.blt y 15 then yX2_ofKind else (bif Nat.blt y 16 then yX3_beginTries else yX3_addWaiting))) else (bif Nat.blt y 20 then (bif Nat.blt y 18 then yX4_gather else (bif Nat.blt y 19 then yX4_seek else yX4_callAt)) else (bif Nat.blt y 21 then yX4_orderEnd else (bif Nat.blt y 22 then yX4_span else yX4_firstFree))))) else (bif Nat.blt y 35 then (bif Nat.blt y 29 then (bif Nat.blt y 26 then (bif Nat.blt y 24 then yX4_busyMinutes else (bif Nat.blt y 25 then yX4_minutesOf else yX4_nextOrder)) else (bif Nat.blt y 27 then yX4_swap else (bif Nat.blt y 28 then yX5_add else yX5_empty))) else (bif Nat.blt y 32 then (bif Nat.blt y 30 then yX5_signAt else (bif Nat.blt y 31 then yX5_roomAt else yX5_otherRoomAt)) else (bif Nat.blt y 33 then yX5_digitAt else (bif Nat.blt y 34 then yX5_kindAt else yX5_roomOf)))) else (bif Nat.blt y 41 then (bif Nat.blt y 38 then (bif Nat.blt y 36 then yX5_numberOf else (bif Nat.blt y 37 then yX5_houseFault else yX5_dayFault)) else (bif Nat.blt y 39 then yX6_find else (bif Nat.blt y 40 then yX6_aim else yX6_bringsNearer))) else (bif Nat.blt y 44 then (bif Nat.blt y 42 then yX6_stepOf else (bif Nat.blt y 43 then yX6_walk else yX6_nextTube)) else (bif Nat.blt y 45 then yX6_loudness else (bif Nat.blt y 46 then yX6_hearers else yX7_gather)))))) else (bif Nat.blt y 70 then (bif Nat.blt y 58 then (bif Nat.blt y 52 then (bif Nat.blt y 49 then (bif Nat.blt y 48 then yX7_takeAsTheyCome else yX7_takeByNumbers) else (bif Nat.blt y 50 then yX7_leastLocked else (bif Nat.blt y 51 then yX7_leastFrom else yX8_gather))) else (bif Nat.blt y 55 then (bif Nat.blt y 53 then yX8_nextTry else (bif Nat.blt y 54 then yX8_largerPart else yX8_fewestTries)) else (bif Nat.blt y 56 then yX8_gatherParts else (bif Nat.blt y 57 then yX8_hasPart else yX8_allCanBeParted)))) else (bif Nat.blt y 64 then (bif Nat.blt y 61 then (bif Nat.blt y 59 then yX8_layBounds else (bif Nat.blt y 60 then yX8_fewestOf else yX9_say)) else (bif Nat.blt y 62 then yX9_wipe else (bif Nat.blt y 63 then yX9_fault else yX9_house))) else (bif Nat.blt y 67 then (bif Nat.blt y 65 then yX9_set else (bif Nat.blt y 66 then yX9_way else yX9_loud)) else (bif Nat.blt y 68 then yX9_heard else (bif Nat.blt y 69 then yX9_judge else yX9_day))))) else (bif Nat.blt y 82 then (bif Nat.blt y 76 then (bif Nat.blt y 73 then (bif Nat.blt y 71 then yX9_know else (bif Nat.blt y 72 then yX9_knows else yX9_call)) else (bif Nat.blt y 74 then yX9_clear else (bif Nat.blt y 75 then yX9_soonest else yX9_byDue))) else (bif Nat.blt y 79 then (bif Nat.blt y 77 then yX9_locked else (bif Nat.blt y 78 then yX9_tried else yX9_stopped)) else (bif Nat.blt y 80 then yX9_far else (bif Nat.blt y 81 then yX9_further else yX9_bridges)))) else (bif Nat.blt y 88 then (bif Nat.blt y 85 then (bif Nat.blt y 83 then yX9_told else (bif Nat.blt y 84 then yX9_within else yX9_isRoom)) else (bif Nat.blt y 86 then yX9_twoRooms else (bif Nat.blt y 87 then yX9_takenOf else yJ6_bitCount_0f7a4))) else (bif Nat.blt y 91 then (bif Nat.blt y 89 then yJ7_fill_031fb else (bif Nat.blt y 90 then yL_cell else yL_sign)) else (bif Nat.blt y 92 then yL_house else (bif Nat.blt y 93 then yL_leads else yL_law)))))))
def am_B (y : Nat) : ByteArray := (bif Nat.blt y 47 then (bif Nat.blt y 23 then (bif Nat.blt y 11 then (bif Nat.blt y 5 then (bif Nat.blt y 2 then (bif Nat.blt y 1 then cX0_run else cX0_beginCall) else (bif Nat.blt y 3 then cX0_whyNot else (bif Nat.blt y 4 then cX0_goingOn else cX0_endCalls))) else (bif Nat.blt y 8 then (bif Nat.blt y 6 then cX1_measure else (bif Nat.blt y 7 then cX1_layTube else cX1_goBy)) else (bif Nat.blt y 9 then cX1_carried else (bif Nat.blt y 10 then cX1_sum else cX1_sumWith)))) else (bif Nat.blt y 17 then (bif Nat.blt y 14 then (bif Nat.blt y 12 then cX1_lacksOneOf else (bif Nat.blt y 13 then cX2_read else cX2_beyond)) else (bif Nat.blt y 15 then cX2_ofKind else (bif Nat.blt y 16 then cX3_beginTries else cX3_addWaiting))) else (bif Nat.blt y 20 then (bif Nat.blt y 18 then cX4_gather else (bif Nat.blt y 19 then cX4_seek else cX4_callAt)) else (bif Nat.blt y 21 then cX4_orderEnd else (bif Nat.blt y 22 then cX4_span else cX4_firstFree))))) else (bif Nat.blt y 35 then (bif Nat.blt y 29 then (bif Nat.blt y 26 then (bif Nat.blt y 24 then cX4_busyMinutes else (bif Nat.blt y 25 then cX4_minutesOf else cX4_nextOrder)) else (bif Nat.blt y 27 then cX4_swap else (bif Nat.blt y 28 then cX5_add else cX5_empty))) else (bif Nat.blt y 32 then (bif Nat.blt y 30 then cX5_signAt else (bif Nat.blt y 31 then cX5_roomAt else cX5_otherRoomAt)) else (bif Nat.blt y 33 then cX5_digitAt else (bif Nat.blt y 34 then cX5_kindAt else cX5_roomOf)))) else (bif Nat.blt y 41 then (bif Nat.blt y 38 then (bif Nat.blt y 36 then cX5_numberOf else (bif Nat.blt y 37 then cX5_houseFault else cX5_dayFault)) else (bif Nat.blt y 39 then cX6_find else (bif Nat.blt y 40 then cX6_aim else cX6_bringsNearer))) else (bif Nat.blt y 44 then (bif Nat.blt y 42 then cX6_stepOf else (bif Nat.blt y 43 then cX6_walk else cX6_nextTube)) else (bif Nat.blt y 45 then cX6_loudness else (bif Nat.blt y 46 then cX6_hearers else cX7_gather)))))) else (bif Nat.blt y 70 then (bif Nat.blt y 58 then (bif Nat.blt y 52 then (bif Nat.blt y 49 then (bif Nat.blt y 48 then cX7_takeAsTheyCome else cX7_takeByNumbers) else (bif Nat.blt y 50 then cX7_leastLocked else (bif Nat.blt y 51 then cX7_leastFrom else cX8_gather))) else (bif Nat.blt y 55 then (bif Nat.blt y 53 then cX8_nextTry else (bif Nat.blt y 54 then cX8_largerPart else cX8_fewestTries)) else (bif Nat.blt y 56 then cX8_gatherParts else (bif Nat.blt y 57 then cX8_hasPart else cX8_allCanBeParted)))) else (bif Nat.blt y 64 then (bif Nat.blt y 61 then (bif Nat.blt y 59 then cX8_layBounds else (bif Nat.blt y 60 then cX8_fewestOf else cX9_say)) else (bif Nat.blt y 62 then cX9_wipe else (bif Nat.blt y 63 then cX9_fault else cX9_house))) else (bif Nat.blt y 67 then (bif Nat.blt y 65 then cX9_set else (bif Nat.blt y 66 then cX9_way else cX9_loud)) else (bif Nat.blt y 68 then cX9_heard else (bif Nat.blt y 69 then cX9_judge else cX9_day))))) else (bif Nat.blt y 82 then (bif Nat.blt y 76 then (bif Nat.blt y 73 then (bif Nat.blt y 71 then cX9_know else (bif Nat.blt y 72 then cX9_knows else cX9_call)) else (bif Nat.blt y 74 then cX9_clear else (bif Nat.blt y 75 then cX9_soonest else cX9_byDue))) else (bif Nat.blt y 79 then (bif Nat.blt y 77 then cX9_locked else (bif Nat.blt y 78 then cX9_tried else cX9_stopped)) else (bif Nat.blt y 80 then cX9_far else (bif Nat.blt y 81 then cX9_further else cX9_bridges)))) else (bif Nat.blt y 88 then (bif Nat.blt y 85 then (bif Nat.blt y 83 then cX9_told else (bif Nat.blt y 84 then cX9_within else cX9_isRoom)) else (bif Nat.blt y 86 then cX9_twoRooms else (bif Nat.blt y 87 then cX9_takenOf else cJ6_bitCount_0f7a4))) else (bif Nat.blt y 91 then (bif Nat.blt y 89 then cJ7_fill_031fb else (bif Nat.blt y 90 then cL_cell else cL_sign)) else (bif Nat.blt y 92 then cL_house else (bif Nat.blt y 93 then cL_leads else cL_law)))))))
def am_X (y : Nat) : Nat := (bif Nat.blt y 47 then (bif Nat.blt y 23 then (bif Nat.blt y 11 then (bif Nat.blt y 5 then (bif Nat.blt y 2 then (bif Nat.blt y 1 then 9 else 6) else (bif Nat.blt y 3 then 9 else (bif Nat.blt y 4 then 3 else 3))) else (bif Nat.blt y 8 then (bif Nat.blt y 6 then 4 else (bif Nat.blt y 7 then 5 else 5)) else (bif Nat.blt y 9 then 2 else (bif Nat.blt y 10 then 6 else 13)))) else (bif Nat.blt y 17 then (bif Nat.blt y 14 then (bif Nat.blt y 12 then 3 else (bif Nat.blt y 13 then 3 else 3)) else (bif Nat.blt y 15 then 4 else (bif Nat.blt y 16 then 1 else 5))) else (bif Nat.blt y 20 then (bif Nat.blt y 18 then 4 else (bif Nat.blt y 19 then 5 else 2)) else (bif Nat.blt y 21 then 7 else (bif Nat.blt y 22 then 2 else 4))))) else (bif Nat.blt y 35 then (bif Nat.blt y 29 then (bif Nat.blt y 26 then (bif Nat.blt y 24 then 8 else (bif Nat.blt y 25 then 6 else 5)) else (bif Nat.blt y 27 then 4 else (bif Nat.blt y 28 then 2 else 2))) else (bif Nat.blt y 32 then (bif Nat.blt y 30 then 2 else (bif Nat.blt y 31 then 2 else 3)) else (bif Nat.blt y 33 then 2 else (bif Nat.blt y 34 then 3 else 2)))) else (bif Nat.blt y 41 then (bif Nat.blt y 38 then (bif Nat.blt y 36 then 2 else (bif Nat.blt y 37 then 3 else 4)) else (bif Nat.blt y 39 then 5 else (bif Nat.blt y 40 then 7 else 7))) else (bif Nat.blt y 44 then (bif Nat.blt y 42 then 2 else (bif Nat.blt y 43 then 8 else 6)) else (bif Nat.blt y 45 then 5 else (bif Nat.blt y 46 then 5 else 6)))))) else (bif Nat.blt y 70 then (bif Nat.blt y 58 then (bif Nat.blt y 52 then (bif Nat.blt y 49 then (bif Nat.blt y 48 then 3 else 4) else (bif Nat.blt y 50 then 1 else (bif Nat.blt y 51 then 10 else 5))) else (bif Nat.blt y 55 then (bif Nat.blt y 53 then 7 else (bif Nat.blt y 54 then 2 else 2)) else (bif Nat.blt y 56 then 9 else (bif Nat.blt y 57 then 4 else 5)))) else (bif Nat.blt y 64 then (bif Nat.blt y 61 then (bif Nat.blt y 59 then 5 else (bif Nat.blt y 60 then 8 else 2)) else (bif Nat.blt y 62 then 1 else (bif Nat.blt y 63 then 2 else 1))) else (bif Nat.blt y 67 then (bif Nat.blt y 65 then 4 else (bif Nat.blt y 66 then 4 else 4)) else (bif Nat.blt y 68 then 3 else (bif Nat.blt y 69 then 2 else 2))))) else (bif Nat.blt y 82 then (bif Nat.blt y 76 then (bif Nat.blt y 73 then (bif Nat.blt y 71 then 4 else (bif Nat.blt y 72 then 3 else 5)) else (bif Nat.blt y 74 then 2 else (bif Nat.blt y 75 then 2 else 2))) else (bif Nat.blt y 79 then (bif Nat.blt y 77 then 4 else (bif Nat.blt y 78 then 4 else 2)) else (bif Nat.blt y 80 then 3 else (bif Nat.blt y 81 then 8 else 3)))) else (bif Nat.blt y 88 then (bif Nat.blt y 85 then (bif Nat.blt y 83 then 2 else (bif Nat.blt y 84 then 3 else 1)) else (bif Nat.blt y 86 then 2 else (bif Nat.blt y 87 then 3 else 1))) else (bif Nat.blt y 91 then (bif Nat.blt y 89 then 4 else (bif Nat.blt y 90 then 3 else 1)) else (bif Nat.blt y 92 then 10 else (bif Nat.blt y 93 then 4 else 21)))))))
def am_R (y : Nat) : Option FieldType := (bif Nat.blt y 47 then (bif Nat.blt y 23 then (bif Nat.blt y 11 then (bif Nat.blt y 5 then (bif Nat.blt y 2 then (bif Nat.blt y 1 then none else none) else (bif Nat.blt y 3 then (some .int) else (bif Nat.blt y 4 then (some .int) else none))) else (bif Nat.blt y 8 then (bif Nat.blt y 6 then none else (bif Nat.blt y 7 then none else none)) else (bif Nat.blt y 9 then (some .int) else (bif Nat.blt y 10 then (some .int) else (some .int))))) else (bif Nat.blt y 17 then (bif Nat.blt y 14 then (bif Nat.blt y 12 then (some .boolean) else (bif Nat.blt y 13 then none else (some .int))) else (bif Nat.blt y 15 then (some .int) else (bif Nat.blt y 16 then none else (some .boolean)))) else (bif Nat.blt y 20 then (bif Nat.blt y 18 then (some .boolean) else (bif Nat.blt y 19 then none else (some .int))) else (bif Nat.blt y 21 then (some .int) else (bif Nat.blt y 22 then (some .long) else (some .int)))))) else (bif Nat.blt y 35 then (bif Nat.blt y 29 then (bif Nat.blt y 26 then (bif Nat.blt y 24 then (some .long) else (bif Nat.blt y 25 then (some .long) else (some .boolean))) else (bif Nat.blt y 27 then none else (bif Nat.blt y 28 then (some .boolean) else (some .int)))) else (bif Nat.blt y 32 then (bif Nat.blt y 30 then (some .int) else (bif Nat.blt y 31 then (some .boolean) else (some .boolean))) else (bif Nat.blt y 33 then (some .boolean) else (bif Nat.blt y 34 then (some .boolean) else (some .int))))) else (bif Nat.blt y 41 then (bif Nat.blt y 38 then (bif Nat.blt y 36 then (some .int) else (bif Nat.blt y 37 then (some .int) else (some .int))) else (bif Nat.blt y 39 then (some .boolean) else (bif Nat.blt y 40 then none else (some .boolean)))) else (bif Nat.blt y 44 then (bif Nat.blt y 42 then (some .int) else (bif Nat.blt y 43 then (some .boolean) else (some .int))) else (bif Nat.blt y 45 then (some .int) else (bif Nat.blt y 46 then (some .int) else (some .boolean))))))) else (bif Nat.blt y 70 then (bif Nat.blt y 58 then (bif Nat.blt y 52 then (bif Nat.blt y 49 then (bif Nat.blt y 48 then none else none) else (bif Nat.blt y 50 then (some .int) else (bif Nat.blt y 51 then (some .int) else none))) else (bif Nat.blt y 55 then (bif Nat.blt y 53 then (some .int) else (bif Nat.blt y 54 then (some .int) else (some .int))) else (bif Nat.blt y 56 then none else (bif Nat.blt y 57 then (some .boolean) else (some .boolean))))) else (bif Nat.blt y 64 then (bif Nat.blt y 61 then (bif Nat.blt y 59 then none else (bif Nat.blt y 60 then (some .int) else (some .int))) else (bif Nat.blt y 62 then (some .int) else (bif Nat.blt y 63 then (some .int) else (some .int)))) else (bif Nat.blt y 67 then (bif Nat.blt y 65 then (some .int) else (bif Nat.blt y 66 then (some .int) else (some .int))) else (bif Nat.blt y 68 then (some .int) else (bif Nat.blt y 69 then (some .int) else (some .int)))))) else (bif Nat.blt y 82 then (bif Nat.blt y 76 then (bif Nat.blt y 73 then (bif Nat.blt y 71 then (some .int) else (bif Nat.blt y 72 then (some .int) else (some .int))) else (bif Nat.blt y 74 then (some .int) else (bif Nat.blt y 75 then (some .int) else (some .int)))) else (bif Nat.blt y 79 then (bif Nat.blt y 77 then (some .int) else (bif Nat.blt y 78 then (some .int) else (some .int))) else (bif Nat.blt y 80 then (some .int) else (bif Nat.blt y 81 then (some .int) else (some .int))))) else (bif Nat.blt y 88 then (bif Nat.blt y 85 then (bif Nat.blt y 83 then (some .int) else (bif Nat.blt y 84 then (some .boolean) else (some .boolean))) else (bif Nat.blt y 86 then (some .boolean) else (bif Nat.blt y 87 then (some .int) else (some .int)))) else (bif Nat.blt y 91 then (bif Nat.blt y 89 then none else (bif Nat.blt y 90 then (some .int) else (some .int))) else (bif Nat.blt y 92 then (some .int) else (bif Nat.blt y 93 then (some .int) else (some .boolean))))))))
def am_O (y : Nat) : Nat := (bif Nat.blt y 47 then (bif Nat.blt y 23 then (bif Nat.blt y 11 then (bif Nat.blt y 5 then (bif Nat.blt y 2 then (bif Nat.blt y 1 then 0 else 0) else (bif Nat.blt y 3 then 0 else (bif Nat.blt y 4 then 0 else 0))) else (bif Nat.blt y 8 then (bif Nat.blt y 6 then 1 else (bif Nat.blt y 7 then 1 else 1)) else (bif Nat.blt y 9 then 1 else (bif Nat.blt y 10 then 1 else 1)))) else (bif Nat.blt y 17 then (bif Nat.blt y 14 then (bif Nat.blt y 12 then 1 else (bif Nat.blt y 13 then 2 else 2)) else (bif Nat.blt y 15 then 2 else (bif Nat.blt y 16 then 3 else 3))) else (bif Nat.blt y 20 then (bif Nat.blt y 18 then 4 else (bif Nat.blt y 19 then 4 else 4)) else (bif Nat.blt y 21 then 4 else (bif Nat.blt y 22 then 4 else 4))))) else (bif Nat.blt y 35 then (bif Nat.blt y 29 then (bif Nat.blt y 26 then (bif Nat.blt y 24 then 4 else (bif Nat.blt y 25 then 4 else 4)) else (bif Nat.blt y 27 then 4 else (bif Nat.blt y 28 then 5 else 5))) else (bif Nat.blt y 32 then (bif Nat.blt y 30 then 5 else (bif Nat.blt y 31 then 5 else 5)) else (bif Nat.blt y 33 then 5 else (bif Nat.blt y 34 then 5 else 5)))) else (bif Nat.blt y 41 then (bif Nat.blt y 38 then (bif Nat.blt y 36 then 5 else (bif Nat.blt y 37 then 5 else 5)) else (bif Nat.blt y 39 then 6 else (bif Nat.blt y 40 then 6 else 6))) else (bif Nat.blt y 44 then (bif Nat.blt y 42 then 6 else (bif Nat.blt y 43 then 6 else 6)) else (bif Nat.blt y 45 then 6 else (bif Nat.blt y 46 then 6 else 7)))))) else (bif Nat.blt y 70 then (bif Nat.blt y 58 then (bif Nat.blt y 52 then (bif Nat.blt y 49 then (bif Nat.blt y 48 then 7 else 7) else (bif Nat.blt y 50 then 7 else (bif Nat.blt y 51 then 7 else 8))) else (bif Nat.blt y 55 then (bif Nat.blt y 53 then 8 else (bif Nat.blt y 54 then 8 else 8)) else (bif Nat.blt y 56 then 8 else (bif Nat.blt y 57 then 8 else 8)))) else (bif Nat.blt y 64 then (bif Nat.blt y 61 then (bif Nat.blt y 59 then 8 else (bif Nat.blt y 60 then 8 else 9)) else (bif Nat.blt y 62 then 9 else (bif Nat.blt y 63 then 9 else 9))) else (bif Nat.blt y 67 then (bif Nat.blt y 65 then 9 else (bif Nat.blt y 66 then 9 else 9)) else (bif Nat.blt y 68 then 9 else (bif Nat.blt y 69 then 9 else 9))))) else (bif Nat.blt y 82 then (bif Nat.blt y 76 then (bif Nat.blt y 73 then (bif Nat.blt y 71 then 9 else (bif Nat.blt y 72 then 9 else 9)) else (bif Nat.blt y 74 then 9 else (bif Nat.blt y 75 then 9 else 9))) else (bif Nat.blt y 79 then (bif Nat.blt y 77 then 9 else (bif Nat.blt y 78 then 9 else 9)) else (bif Nat.blt y 80 then 9 else (bif Nat.blt y 81 then 9 else 9)))) else (bif Nat.blt y 88 then (bif Nat.blt y 85 then (bif Nat.blt y 83 then 9 else (bif Nat.blt y 84 then 9 else 9)) else (bif Nat.blt y 86 then 9 else (bif Nat.blt y 87 then 9 else 11))) else (bif Nat.blt y 91 then (bif Nat.blt y 89 then 12 else (bif Nat.blt y 90 then 13 else 13)) else (bif Nat.blt y 92 then 13 else (bif Nat.blt y 93 then 13 else 13)))))))
def am_P (y : Nat) : Nat := (bif Nat.blt y 47 then (bif Nat.blt y 23 then (bif Nat.blt y 11 then (bif Nat.blt y 5 then (bif Nat.blt y 2 then (bif Nat.blt y 1 then 4 else 5) else (bif Nat.blt y 3 then 4 else (bif Nat.blt y 4 then 0 else 0))) else (bif Nat.blt y 8 then (bif Nat.blt y 6 then 2 else (bif Nat.blt y 7 then 2 else 1)) else (bif Nat.blt y 9 then 2 else (bif Nat.blt y 10 then 0 else 4)))) else (bif Nat.blt y 17 then (bif Nat.blt y 14 then (bif Nat.blt y 12 then 1 else (bif Nat.blt y 13 then 1 else 2)) else (bif Nat.blt y 15 then 1 else (bif Nat.blt y 16 then 0 else 4))) else (bif Nat.blt y 20 then (bif Nat.blt y 18 then 2 else (bif Nat.blt y 19 then 1 else 1)) else (bif Nat.blt y 21 then 1 else (bif Nat.blt y 22 then 2 else 2))))) else (bif Nat.blt y 35 then (bif Nat.blt y 29 then (bif Nat.blt y 26 then (bif Nat.blt y 24 then 1 else (bif Nat.blt y 25 then 2 else 0)) else (bif Nat.blt y 27 then 2 else (bif Nat.blt y 28 then 1 else 0))) else (bif Nat.blt y 32 then (bif Nat.blt y 30 then 1 else (bif Nat.blt y 31 then 1 else 2)) else (bif Nat.blt y 33 then 1 else (bif Nat.blt y 34 then 1 else 1)))) else (bif Nat.blt y 41 then (bif Nat.blt y 38 then (bif Nat.blt y 36 then 1 else (bif Nat.blt y 37 then 0 else 0)) else (bif Nat.blt y 39 then 4 else (bif Nat.blt y 40 then 3 else 2))) else (bif Nat.blt y 44 then (bif Nat.blt y 42 then 2 else (bif Nat.blt y 43 then 4 else 3)) else (bif Nat.blt y 45 then 2 else (bif Nat.blt y 46 then 2 else 4)))))) else (bif Nat.blt y 70 then (bif Nat.blt y 58 then (bif Nat.blt y 52 then (bif Nat.blt y 49 then (bif Nat.blt y 48 then 2 else 2) else (bif Nat.blt y 50 then 0 else (bif Nat.blt y 51 then 6 else 2))) else (bif Nat.blt y 55 then (bif Nat.blt y 53 then 1 else (bif Nat.blt y 54 then 2 else 1)) else (bif Nat.blt y 56 then 1 else (bif Nat.blt y 57 then 2 else 1)))) else (bif Nat.blt y 64 then (bif Nat.blt y 61 then (bif Nat.blt y 59 then 1 else (bif Nat.blt y 60 then 3 else 1)) else (bif Nat.blt y 62 then 0 else (bif Nat.blt y 63 then 1 else 0))) else (bif Nat.blt y 67 then (bif Nat.blt y 65 then 2 else (bif Nat.blt y 66 then 3 else 3)) else (bif Nat.blt y 68 then 2 else (bif Nat.blt y 69 then 1 else 1))))) else (bif Nat.blt y 82 then (bif Nat.blt y 76 then (bif Nat.blt y 73 then (bif Nat.blt y 71 then 2 else (bif Nat.blt y 72 then 2 else 4)) else (bif Nat.blt y 74 then 0 else (bif Nat.blt y 75 then 1 else 1))) else (bif Nat.blt y 79 then (bif Nat.blt y 77 then 2 else (bif Nat.blt y 78 then 3 else 1)) else (bif Nat.blt y 80 then 2 else (bif Nat.blt y 81 then 2 else 0)))) else (bif Nat.blt y 88 then (bif Nat.blt y 85 then (bif Nat.blt y 83 then 1 else (bif Nat.blt y 84 then 3 else 1)) else (bif Nat.blt y 86 then 2 else (bif Nat.blt y 87 then 3 else 1))) else (bif Nat.blt y 91 then (bif Nat.blt y 89 then 2 else (bif Nat.blt y 90 then 3 else 1)) else (bif Nat.blt y 92 then 5 else (bif Nat.blt y 93 then 3 else 1)))))))
def am_C (y : Nat) : String := (bif Nat.blt y 7 then (bif Nat.blt y 3 then (bif Nat.blt y 1 then RX0 else (bif Nat.blt y 2 then RX1 else RX2)) else (bif Nat.blt y 5 then (bif Nat.blt y 4 then RX3 else RX4) else (bif Nat.blt y 6 then RX5 else RX6))) else (bif Nat.blt y 10 then (bif Nat.blt y 8 then RX7 else (bif Nat.blt y 9 then RX8 else RX9)) else (bif Nat.blt y 12 then (bif Nat.blt y 11 then RX10 else RJ6) else (bif Nat.blt y 13 then RJ7 else RL))))
def am_FL : List (Nat × Nat × Nat × Nat × Nat) := [(5, 9, 5, 0, 29), (5, 15, 5, 1, 30), (2, 28, 5, 1, 31), (9, 82, 5, 1, 32), (0, 64, 5, 1, 33), (2, 9, 2, 0, 52), (1, 42, 2, 0, 53), (6, 46, 2, 0, 54), (2, 15, 2, 1, 55), (1, 45, 2, 1, 56), (6, 49, 2, 1, 57), (2, 18, 2, 2, 58), (1, 48, 2, 2, 59), (6, 52, 2, 2, 60), (2, 21, 2, 3, 61), (1, 51, 2, 3, 62), (6, 59, 2, 3, 63), (2, 24, 2, 4, 64), (1, 21, 2, 4, 65), (3, 60, 2, 4, 66), (6, 36, 2, 4, 67), (9, 112, 2, 4, 68), (3, 12, 3, 0, 80), (6, 21, 3, 0, 81), (7, 20, 3, 0, 82), (4, 43, 3, 0, 83), (8, 25, 3, 0, 84), (1, 15, 3, 0, 85), (0, 86, 3, 0, 86), (9, 96, 3, 0, 87), (3, 18, 3, 1, 88), (1, 35, 3, 1, 89), (6, 68, 3, 1, 90), (9, 130, 3, 1, 91), (3, 22, 3, 2, 92), (9, 133, 3, 2, 93), (3, 25, 3, 3, 94), (0, 34, 3, 3, 95), (9, 180, 3, 3, 96), (3, 29, 3, 4, 97), (4, 56, 3, 4, 98), (7, 36, 3, 4, 99), (3, 32, 3, 5, 100), (4, 59, 3, 5, 101), (7, 39, 3, 5, 102), (3, 35, 3, 6, 103), (4, 71, 3, 6, 104), (3, 38, 3, 7, 105), (4, 72, 3, 7, 106), (4, 34, 3, 8, 107), (3, 54, 3, 8, 108), (9, 106, 3, 8, 109), (3, 57, 3, 9, 110), (9, 216, 3, 9, 111), (3, 41, 3, 10, 112), (9, 219, 3, 10, 113), (6, 9, 6, 0, 143), (6, 15, 6, 1, 144), (7, 55, 6, 1, 145), (9, 147, 6, 1, 146), (6, 18, 6, 2, 147), (7, 64, 6, 3, 148), (6, 62, 6, 3, 149), (9, 146, 6, 3, 150), (6, 63, 6, 4, 151), (9, 144, 6, 4, 152), (8, 41, 6, 5, 153), (4, 68, 6, 5, 154), (0, 105, 6, 5, 155), (7, 67, 6, 5, 156), (6, 65, 6, 5, 157), (9, 222, 6, 5, 158), (0, 9, 0, 0, 179), (0, 15, 0, 1, 180), (0, 18, 0, 2, 181), (0, 21, 0, 3, 182), (0, 24, 0, 4, 183), (0, 27, 0, 5, 184), (0, 31, 0, 6, 185), (9, 183, 0, 6, 186), (0, 45, 0, 7, 187), (9, 168, 0, 7, 188), (0, 49, 0, 8, 189), (0, 52, 0, 9, 190), (9, 171, 0, 9, 191), (0, 55, 0, 10, 192), (9, 174, 0, 10, 193), (0, 58, 0, 11, 194), (9, 177, 0, 11, 195), (0, 61, 0, 12, 196), (9, 165, 0, 12, 197), (4, 9, 4, 0, 231), (4, 15, 4, 1, 232), (4, 18, 4, 2, 233), (4, 21, 4, 3, 234), (4, 24, 4, 4, 235), (4, 27, 4, 5, 236), (4, 30, 4, 6, 237), (4, 40, 4, 7, 238), (4, 53, 4, 8, 239), (4, 77, 4, 9, 240), (9, 198, 4, 9, 241), (4, 73, 4, 10, 242), (9, 205, 4, 10, 243), (7, 11, 7, 0, 276), (7, 16, 7, 1, 277), (7, 32, 7, 2, 278), (8, 9, 8, 0, 292), (8, 15, 8, 1, 293), (8, 81, 8, 2, 294), (8, 18, 8, 3, 295), (8, 21, 8, 4, 296), (1, 9, 1, 0, 315), (9, 12, 9, 0, 319), (9, 19, 9, 1, 320), (9, 23, 9, 2, 321), (9, 26, 9, 3, 322), (9, 29, 9, 4, 323), (9, 36, 9, 5, 324), (9, 43, 9, 6, 325), (9, 50, 9, 7, 326), (9, 57, 9, 8, 327), (9, 64, 9, 9, 328), (9, 71, 9, 10, 329), (9, 75, 9, 11, 330)]
def am_CT : List (Nat × Nat × Int × Nat) := [(6, 35, 1048576, 397), (9, 215, 1000000, 603), (11, 265, 1431655765, 611), (11, 266, 858993459, 612), (11, 267, 252645135, 613), (13, 7, 4194303, 709)]
def am_CL : List (Nat × Nat × Nat × Nat) := []
def am_SP : List (Nat × Nat × Nat × Nat) := [(0, 39, 2, 462), (0, 99, 0, 495), (4, 106, 0, 558), (4, 84, 2, 559), (7, 58, 2, 590), (8, 55, 0, 632), (8, 88, 1, 659), (1, 54, 1, 678)]
def am_PF : List (Nat × Nat × Nat) := [(0, 7, 0), (0, 8, 0), (0, 9, 0), (0, 10, 0), (0, 11, 0), (0, 12, 0), (2, 4, 0), (3, 1, 0), (3, 2, 0), (3, 8, 0), (3, 9, 0), (3, 10, 0), (4, 7, 0), (4, 8, 0), (4, 9, 0), (4, 10, 1), (5, 1, 0), (6, 3, 0), (6, 4, 0), (6, 5, 0), (7, 2, 0), (8, 2, 0)]
def am_NP : Nat := 75
def am_tr (k : Nat) : (Nat × List (Option Nat)) ⊕ (Nat × Nat) := (bif Nat.blt k 37 then (bif Nat.blt k 18 then (bif Nat.blt k 9 then (bif Nat.blt k 4 then (bif Nat.blt k 2 then (bif Nat.blt k 1 then (.inl (9, [some 1, some 3, some 14, some 25, some 36, some 37, some 41, some 49, some 57, some 65, some 70, some 72])) else (.inl (5, [some 2, none]))) else (bif Nat.blt k 3 then (.inr (0, 60)) else (.inl (3, [some 4, none, none, some 9, some 10, some 11, some 12, some 13, none, none, none])))) else (bif Nat.blt k 6 then (bif Nat.blt k 5 then (.inl (2, [some 5, some 6, some 7, some 8, none])) else (.inr (0, 12))) else (bif Nat.blt k 7 then (.inr (0, 12)) else (bif Nat.blt k 8 then (.inr (0, 12)) else (.inr (0, 12)))))) else (bif Nat.blt k 13 then (bif Nat.blt k 11 then (bif Nat.blt k 10 then (.inr (0, 8)) else (.inr (0, 5))) else (bif Nat.blt k 12 then (.inr (0, 5)) else (.inr (0, 5)))) else (bif Nat.blt k 15 then (bif Nat.blt k 14 then (.inr (0, 5)) else (.inl (3, [some 15, none, none, some 20, some 21, some 22, some 23, some 24, none, none, none]))) else (bif Nat.blt k 16 then (.inl (2, [some 16, some 17, some 18, some 19, none])) else (bif Nat.blt k 17 then (.inr (0, 12)) else (.inr (0, 12))))))) else (bif Nat.blt k 27 then (bif Nat.blt k 22 then (bif Nat.blt k 20 then (bif Nat.blt k 19 then (.inr (0, 12)) else (.inr (0, 12))) else (bif Nat.blt k 21 then (.inr (0, 8)) else (.inr (0, 5)))) else (bif Nat.blt k 24 then (bif Nat.blt k 23 then (.inr (0, 5)) else (.inr (0, 5))) else (bif Nat.blt k 25 then (.inr (0, 5)) else (bif Nat.blt k 26 then (.inl (3, [some 26, none, none, some 31, some 32, some 33, some 34, some 35, none, none, none])) else (.inl (2, [some 27, some 28, some 29, some 30, none])))))) else (bif Nat.blt k 32 then (bif Nat.blt k 29 then (bif Nat.blt k 28 then (.inr (0, 12)) else (.inr (0, 12))) else (bif Nat.blt k 30 then (.inr (0, 12)) else (bif Nat.blt k 31 then (.inr (0, 12)) else (.inr (0, 8))))) else (bif Nat.blt k 34 then (bif Nat.blt k 33 then (.inr (0, 5)) else (.inr (0, 5))) else (bif Nat.blt k 35 then (.inr (0, 5)) else (bif Nat.blt k 36 then (.inr (0, 5)) else (.inr (1, 2)))))))) else (bif Nat.blt k 56 then (bif Nat.blt k 46 then (bif Nat.blt k 41 then (bif Nat.blt k 39 then (bif Nat.blt k 38 then (.inl (6, [some 38, some 39, some 40, none, none, none])) else (.inr (0, 8))) else (bif Nat.blt k 40 then (.inr (0, 8)) else (.inr (0, 8)))) else (bif Nat.blt k 43 then (bif Nat.blt k 42 then (.inl (0, [some 42, some 43, some 44, some 45, some 46, some 47, some 48, none, none, none, none, none, none])) else (.inr (0, 20))) else (bif Nat.blt k 44 then (.inr (0, 20)) else (bif Nat.blt k 45 then (.inr (0, 20)) else (.inr (0, 20)))))) else (bif Nat.blt k 51 then (bif Nat.blt k 48 then (bif Nat.blt k 47 then (.inr (0, 20)) else (.inr (1, 20))) else (bif Nat.blt k 49 then (.inr (0, 8)) else (bif Nat.blt k 50 then (.inl (4, [some 50, some 51, some 52, some 53, some 54, some 55, some 56, none, none, none, none])) else (.inr (0, 5))))) else (bif Nat.blt k 53 then (bif Nat.blt k 52 then (.inr (0, 5)) else (.inr (0, 5))) else (bif Nat.blt k 54 then (.inr (0, 5)) else (bif Nat.blt k 55 then (.inr (0, 5)) else (.inr (0, 5))))))) else (bif Nat.blt k 65 then (bif Nat.blt k 60 then (bif Nat.blt k 58 then (bif Nat.blt k 57 then (.inr (2, 5)) else (.inl (7, [some 58, some 64, none]))) else (bif Nat.blt k 59 then (.inr (4, 5)) else (.inr (0, 8)))) else (bif Nat.blt k 62 then (bif Nat.blt k 61 then (.inr (0, 8)) else (.inr (0, 8))) else (bif Nat.blt k 63 then (.inr (0, 8)) else (bif Nat.blt k 64 then (.inr (0, 8)) else (.inr (0, 5)))))) else (bif Nat.blt k 70 then (bif Nat.blt k 67 then (bif Nat.blt k 66 then (.inl (8, [some 66, some 67, none, some 68, some 69])) else (.inr (0, 64))) else (bif Nat.blt k 68 then (.inr (0, 64)) else (bif Nat.blt k 69 then (.inr (0, 14)) else (.inr (3, 8192))))) else (bif Nat.blt k 72 then (bif Nat.blt k 71 then (.inl (1, [some 71])) else (.inr (0, 64))) else (bif Nat.blt k 73 then (.inl (1, [some 73])) else (bif Nat.blt k 74 then (.inr (0, 64)) else (.inr (0, 48)))))))))
def am_MT : List (Nat × Nat × Nat × Nat × Nat × Nat) := [(461, 1, 459, 1, 460, 6), (494, 1, 493, 2, 4, 6), (481, 1, 480, 2, 3, 6), (501, 1, 500, 2, 5, 6), (473, 1, 472, 2, 2, 6), (673, 1, 671, 1, 672, 10), (677, 1, 676, 2, 17, 10), (682, 1, 681, 2, 18, 10), (685, 0, 684, 0, 0, 10), (689, 1, 687, 1, 688, 10), (693, 1, 691, 1, 692, 10), (701, 1, 699, 1, 700, 10), (735, 1, 733, 1, 734, 4), (416, 1, 414, 1, 415, 4), (486, 1, 484, 1, 485, 4), (742, 1, 740, 1, 741, 3), (521, 1, 519, 1, 520, 3), (533, 1, 531, 1, 532, 7), (539, 1, 537, 1, 538, 7), (571, 1, 569, 1, 570, 7), (543, 1, 542, 2, 6, 7), (557, 0, 556, 0, 0, 7), (554, 0, 553, 0, 0, 7), (547, 1, 546, 2, 7, 7), (551, 1, 550, 2, 8, 7), (563, 1, 562, 2, 9, 7), (567, 1, 566, 2, 10, 7), (363, 1, 361, 1, 362, 2), (371, 1, 369, 1, 370, 2), (444, 1, 442, 1, 443, 2), (448, 1, 446, 1, 447, 2), (453, 1, 451, 1, 452, 2), (457, 1, 455, 1, 456, 2), (727, 1, 725, 1, 726, 2), (477, 1, 475, 1, 476, 2), (469, 1, 467, 1, 468, 2), (723, 1, 721, 1, 722, 2), (440, 1, 438, 1, 439, 2), (392, 1, 390, 1, 391, 5), (396, 1, 394, 1, 395, 5), (401, 1, 400, 2, 0, 5), (404, 0, 403, 0, 0, 5), (408, 1, 406, 1, 407, 5), (412, 1, 411, 2, 1, 5), (424, 1, 422, 1, 423, 5), (432, 1, 430, 1, 431, 5), (583, 1, 581, 1, 582, 8), (589, 1, 588, 2, 11, 8), (594, 1, 593, 2, 12, 8), (598, 1, 596, 1, 597, 8), (601, 0, 600, 0, 0, 8), (621, 1, 619, 1, 620, 9), (627, 1, 625, 1, 626, 9), (631, 0, 630, 0, 0, 9), (636, 1, 634, 1, 635, 9), (640, 1, 639, 2, 13, 9), (644, 1, 643, 2, 14, 9), (648, 1, 647, 2, 15, 9), (652, 1, 651, 2, 16, 9), (658, 0, 657, 0, 0, 9), (359, 1, 357, 1, 358, 1), (367, 1, 365, 1, 366, 1), (719, 1, 717, 1, 718, 1), (731, 1, 729, 1, 730, 1), (375, 1, 373, 1, 374, 1), (382, 1, 380, 1, 381, 1), (420, 1, 418, 1, 419, 1), (428, 1, 426, 1, 427, 1), (436, 1, 434, 1, 435, 1), (505, 1, 503, 1, 504, 1), (509, 1, 507, 1, 508, 1), (513, 1, 511, 1, 512, 1), (517, 1, 515, 1, 516, 1), (525, 1, 523, 1, 524, 1), (529, 1, 527, 1, 528, 1), (575, 1, 573, 1, 574, 1), (579, 1, 577, 1, 578, 1), (607, 1, 605, 1, 606, 1), (617, 1, 615, 1, 616, 1), (665, 1, 663, 1, 664, 1), (669, 1, 667, 1, 668, 1), (697, 1, 695, 1, 696, 1), (705, 1, 703, 1, 704, 1), (378, 0, 377, 0, 0, 1), (388, 0, 387, 0, 0, 1), (385, 0, 384, 0, 0, 1), (489, 0, 488, 0, 0, 1), (610, 0, 609, 0, 0, 13), (655, 0, 654, 0, 0, 14), (708, 0, 707, 0, 0, 0), (715, 0, 714, 0, 0, 0), (712, 0, 711, 0, 0, 0), (746, 0, 745, 0, 0, 0)]
def am_CS : List (Nat × Nat × Nat × Nat) := [(13, 20, 60, 356), (9, 78, 27, 360), (13, 8, 61, 364), (9, 86, 28, 368), (13, 40, 64, 372), (9, 126, 83, 376), (13, 44, 65, 379), (9, 136, 85, 383), (9, 150, 84, 386), (9, 140, 38, 389), (6, 27, 39, 393), (6, 42, 40, 398), (6, 55, 41, 402), (6, 31, 42, 405), (6, 71, 43, 409), (6, 75, 13, 413), (13, 48, 66, 417), (9, 153, 44, 421), (13, 51, 67, 425), (9, 157, 45, 429), (13, 70, 68, 433), (9, 93, 37, 437), (5, 19, 29, 441), (5, 27, 30, 445), (5, 34, 31, 450), (5, 38, 32, 454), (9, 161, 0, 458), (0, 69, 29, 465), (0, 73, 35, 466), (0, 76, 4, 470), (0, 79, 34, 474), (0, 82, 2, 478), (0, 112, 38, 482), (0, 116, 14, 483), (0, 90, 45, 490), (0, 95, 1, 491), (0, 108, 3, 498), (13, 73, 69, 502), (13, 60, 70, 506), (13, 76, 71, 510), (13, 66, 72, 514), (9, 186, 16, 518), (13, 63, 73, 522), (13, 82, 74, 526), (9, 190, 17, 530), (4, 47, 14, 534), (4, 62, 38, 535), (9, 194, 18, 536), (4, 80, 20, 540), (4, 94, 23, 544), (4, 112, 24, 548), (4, 98, 22, 552), (4, 102, 21, 555), (4, 90, 25, 560), (4, 115, 26, 564), (9, 201, 19, 568), (13, 85, 75, 572), (13, 88, 76, 576), (9, 209, 46, 580), (7, 26, 14, 584), (7, 42, 38, 585), (7, 48, 47, 586), (7, 52, 48, 591), (9, 212, 49, 595), (7, 70, 50, 599), (13, 94, 77, 604), (9, 225, 87, 608), (13, 91, 78, 614), (9, 230, 51, 618), (8, 31, 39, 622), (8, 37, 42, 623), (9, 233, 52, 624), (8, 45, 87, 628), (8, 51, 53, 629), (9, 236, 54, 633), (8, 60, 55, 637), (8, 84, 56, 641), (8, 64, 57, 645), (8, 68, 58, 649), (8, 71, 88, 653), (8, 77, 59, 656), (13, 54, 79, 662), (13, 57, 80, 666), (9, 239, 5, 670), (1, 27, 6, 674), (1, 31, 7, 679), (1, 38, 8, 683), (9, 243, 9, 686), (9, 246, 10, 690), (13, 98, 81, 694), (9, 250, 11, 698), (13, 79, 82, 702), (13, 14, 89, 706), (13, 37, 91, 710), (13, 24, 90, 713), (13, 27, 62, 716), (9, 90, 36, 720), (5, 31, 33, 724), (13, 30, 63, 728), (9, 100, 12, 732), (2, 31, 34, 736), (2, 35, 29, 737), (2, 38, 35, 738), (9, 109, 15, 739), (3, 63, 14, 743), (13, 33, 92, 744)]
theorem in_1 {w : Cond} (h : w ∈ tables_1_1) : w ∈ lw_tbl := by
  show w ∈ k2_sels lw_privs ++ tables_1
  exact List.mem_append_right _ (show w ∈ tables_1_1 ++ (tables_1_2 ++ (tables_1_3 ++ tables_1_4)) from List.mem_append_left _ h)
theorem in_2 {w : Cond} (h : w ∈ tables_1_2) : w ∈ lw_tbl := by
  show w ∈ k2_sels lw_privs ++ tables_1
  exact List.mem_append_right _ (show w ∈ tables_1_1 ++ (tables_1_2 ++ (tables_1_3 ++ tables_1_4)) from List.mem_append_right _ (List.mem_append_left _ h))
theorem in_3 {w : Cond} (h : w ∈ tables_1_3) : w ∈ lw_tbl := by
  show w ∈ k2_sels lw_privs ++ tables_1
  exact List.mem_append_right _ (show w ∈ tables_1_1 ++ (tables_1_2 ++ (tables_1_3 ++ tables_1_4)) from List.mem_append_right _ (List.mem_append_right _ (List.mem_append_left _ h)))
theorem in_4 {w : Cond} (h : w ∈ tables_1_4) : w ∈ lw_tbl := by
  show w ∈ k2_sels lw_privs ++ tables_1
  exact List.mem_append_right _ (show w ∈ tables_1_1 ++ (tables_1_2 ++ (tables_1_3 ++ tables_1_4)) from List.mem_append_right _ (List.mem_append_right _ (List.mem_append_right _ (h))))
/-! ===== the abstract machine: values at places, places at addresses ===== -/
abbrev vwCl : List vw_C := [(RX0, TX0, 13), (RX1, TX1, 1), (RX2, TX2, 5), (RX3, TX3, 11), (RX4, TX4, 11), (RX5, TX5, 2), (RX6, TX6, 6), (RX7, TX7, 3), (RX8, TX8, 5), (RX9, TX9, 12)]
abbrev Mem : Type := Nat → Nat → Int32
abbrev LMem : Type := Nat → Int64
def mput (M : Mem) (k i : Nat) (v : Int32) : Mem := fun a b => if a = k ∧ b = i then v else M a b
def mcpy (M : Mem) (ks kd sp dp n : Nat) : Mem := fun a => if a = kd then va_cpy (M ks) (M kd) sp dp n else M a
def am_sh (k : Nat) : (Nat × List (Option Nat)) ⊕ (Nat × Nat) := bif Nat.blt k am_NP then am_tr k else .inr (99, 0)
/-- the class of the object at a place (99: none), its fields' places; the type of the array at a place (99: none), its length -/
def oci (k : Nat) : Nat := match am_sh k with
  | .inl x => x.1
  | .inr _ => 99
def ofs (k : Nat) : List (Option Nat) := match am_sh k with
  | .inl x => x.2
  | .inr _ => []
def oty (k : Nat) : Nat := match am_sh k with
  | .inl _ => 99
  | .inr x => x.1
def oln (k : Nat) : Nat := match am_sh k with
  | .inl _ => 0
  | .inr x => x.2
def lopt : List (Option Nat) → Nat → Option Nat
  | [], _ => none
  | a :: _, 0 => a
  | _ :: r, n + 1 => lopt r n
def lget : List Value → Nat → Value
  | [], _ => .null
  | a :: _, 0 => a
  | _ :: r, n + 1 => lget r n
def lset : List Value → Nat → Value → List Value
  | [], _, _ => []
  | _ :: r, 0, v => v :: r
  | a :: r, n + 1, v => a :: lset r n v
def llt : List Value → Nat → Bool
  | [], _ => false
  | _ :: _, 0 => true
  | _ :: r, n + 1 => llt r n
def isC1 : Value → Bool
  | .long _ => false
  | .double _ => false
  | _ => true
/-- a place to store at: it is there, nothing of two slots stands just ahead of it -/
def lok (lo : List Value) : Nat → Bool
  | 0 => llt lo 0
  | n + 1 => isC1 (lget lo n) && llt lo (n + 1)
def fv (M : Mem) (k j : Nat) : Option Nat → Value
  | some t => .ref t
  | none => .int (M k j)
def isN : Option Nat → Bool
  | some _ => false
  | none => true
def csum : List Value → Nat
  | [] => 0
  | v :: r => v.category + csum r
def aok (k t : Nat) (i : Int32) : Prop := oty k = t ∧ vp_in i (oln k)
def isI : Value → (Int32 → Prop) → Prop
  | .int x, P => P x
  | _, _ => False
def isR : Value → (Nat → Prop) → Prop
  | .ref x, P => P x
  | _, _ => False
def isJ : Value → (Int64 → Prop) → Prop
  | .long x, P => P x
  | _, _ => False
def pI : List Value → (Int32 → List Value → Prop) → Prop
  | .int x :: r, P => P x r
  | _, _ => False
def pR : List Value → (Nat → List Value → Prop) → Prop
  | .ref x :: r, P => P x r
  | _, _ => False
def pJ : List Value → (Int64 → List Value → Prop) → Prop
  | .long x :: r, P => P x r
  | _, _ => False
theorem isI_inv {v : Value} {P : Int32 → Prop} (h : isI v P) : ∃ x, v = .int x ∧ P x := by
  cases v <;> first | exact ⟨_, rfl, h⟩ | exact False.elim h
theorem isR_inv {v : Value} {P : Nat → Prop} (h : isR v P) : ∃ x, v = .ref x ∧ P x := by
  cases v <;> first | exact ⟨_, rfl, h⟩ | exact False.elim h
theorem isJ_inv {v : Value} {P : Int64 → Prop} (h : isJ v P) : ∃ x, v = .long x ∧ P x := by
  cases v <;> first | exact ⟨_, rfl, h⟩ | exact False.elim h
theorem pI_inv {st : List Value} {P : Int32 → List Value → Prop} (h : pI st P) : ∃ x r, st = .int x :: r ∧ P x r := by
  cases st with
  | nil => exact False.elim h
  | cons v r => cases v <;> first | exact ⟨_, _, rfl, h⟩ | exact False.elim h
theorem pR_inv {st : List Value} {P : Nat → List Value → Prop} (h : pR st P) : ∃ x r, st = .ref x :: r ∧ P x r := by
  cases st with
  | nil => exact False.elim h
  | cons v r => cases v <;> first | exact ⟨_, _, rfl, h⟩ | exact False.elim h
theorem pJ_inv {st : List Value} {P : Int64 → List Value → Prop} (h : pJ st P) : ∃ x r, st = .long x :: r ∧ P x r := by
  cases st with
  | nil => exact False.elim h
  | cons v r => cases v <;> first | exact ⟨_, _, rfl, h⟩ | exact False.elim h
theorem bif_inv {b : Bool} {P : Prop} (h : (bif b then P else False)) : b = true ∧ P := by
  cases b
  · exact False.elim h
  · exact ⟨rfl, h⟩
theorem bif_inv2 {b : Bool} {P R : Prop} (h : (bif b then P else R)) : (b = true ∧ P) ∨ (b = false ∧ R) := by
  cases b
  · exact Or.inr ⟨rfl, h⟩
  · exact Or.inl ⟨rfl, h⟩
def am_find3 (L : List (Nat × Nat × Nat × Nat)) (a b : Nat) : Option Nat := (L.find? (fun q => Nat.beq q.1 a && Nat.beq q.2.1 b)).map (fun q => q.2.2.1)
def am_fl (own i : Nat) : Option (Nat × Nat) := (am_FL.find? (fun q => Nat.beq q.1 own && Nat.beq q.2.1 i)).map (fun q => (q.2.2.1, q.2.2.2.1))
def am_ct (own i : Nat) : Option Int := (am_CT.find? (fun q => Nat.beq q.1 own && Nat.beq q.2.1 i)).map (fun q => q.2.2.1)
def am_cl (own i : Nat) : Option Nat := am_find3 am_CL own i
def am_sp (own i : Nat) : Option Nat := am_find3 am_SP own i
/-- 0: an int that may be written, 1: a boolean, 2: none -/
def am_pf (ci k : Nat) : Nat := match am_PF.find? (fun q => Nat.beq q.1 ci && Nat.beq q.2.1 k) with
  | some q => q.2.2
  | none => 2
/-- an instruction as it is, its constants and places looked up; and its length -/
def am_res (own : Nat) : Instr → Option (Instr × Nat)
  | .iconst n => some (.iconst n, 1)
  | .bipush n => if (Int8.ofInt n).toInt32 = Int32.ofInt n then some (.iconst n, 2) else none
  | .sipush n => if (Int16.ofInt n).toInt32 = Int32.ofInt n then some (.iconst n, 3) else none
  | .ldc i => (am_ct own i).map fun v => (.iconst v, 2)
  | .ldc_w i => (am_ct own i).map fun v => (.iconst v, 3)
  | .ldc2_w i => (am_cl own i).map fun v => (.ldc2_w v, 3)
  | .lconst n => some (.ldc2_w n.val, 1)
  | .iload_n k => some (.iload k.val, 1)
  | .iload i => some (.iload i, 2)
  | .aload_n k => some (.aload k.val, 1)
  | .aload i => some (.aload i, 2)
  | .lload_n k => some (.lload k.val, 1)
  | .lload i => some (.lload i, 2)
  | .istore_n k => some (.istore k.val, 1)
  | .istore i => some (.istore i, 2)
  | .astore_n k => some (.astore k.val, 1)
  | .astore i => some (.astore i, 2)
  | .lstore_n k => some (.lstore k.val, 1)
  | .lstore i => some (.lstore i, 2)
  | .iinc i n => some (.iinc i n, 3)
  | .iadd => some (.iadd, 1)
  | .isub => some (.isub, 1)
  | .imul => some (.imul, 1)
  | .idiv => some (.idiv, 1)
  | .irem => some (.irem, 1)
  | .iand => some (.iand, 1)
  | .ior => some (.ior, 1)
  | .ixor => some (.ixor, 1)
  | .ishl => some (.ishl, 1)
  | .ishr => some (.ishr, 1)
  | .iushr => some (.iushr, 1)
  | .lshl => some (.lshl, 1)
  | .lor => some (.lor, 1)
  | .land => some (.land, 1)
  | .lsub => some (.lsub, 1)
  | .lcmp => some (.lcmp, 1)
  | .i2l => some (.i2l, 1)
  | .i2b => some (.i2b, 1)
  | .dup => some (.dup, 1)
  | .dup2 => some (.dup2, 1)
  | .pop => some (.pop, 1)
  | .getfield i => (am_fl own i).map fun q => (.getfield (64 * q.1 + q.2), 3)
  | .putfield i => (am_fl own i).map fun q => (.putfield (64 * q.1 + q.2), 3)
  | .iaload => some (.iaload, 1)
  | .baload => some (.baload, 1)
  | .laload => some (.laload, 1)
  | .aaload => some (.aaload, 1)
  | .iastore => some (.iastore, 1)
  | .bastore => some (.bastore, 1)
  | .lastore => some (.lastore, 1)
  | .arraylength => some (.arraylength, 1)
  | .invokestatic i => (am_sp own i).map fun w => (.invokestatic w, 3)
  | _ => none
abbrev KK : Type := List Value → List Value → Mem → LMem → Prop
/-- what an instruction asks, and where it leads -/
def ex (i : Instr) (lo st : List Value) (M : Mem) (L : LMem) (K : KK) : Prop := match i with
  | .goto _ => K lo st M L
  | .iconst n => K lo (.int (Int32.ofInt n) :: st) M L
  | .ldc2_w n => K lo (.long (Int64.ofNat n) :: st) M L
  | .iload i => isI (lget lo i) fun x => K lo (.int x :: st) M L
  | .aload i => isR (lget lo i) fun x => K lo (.ref x :: st) M L
  | .lload i => isJ (lget lo i) fun x => K lo (.long x :: st) M L
  | .istore i => pI st fun x st => bif lok lo i then K (lset lo i (.int x)) st M L else False
  | .astore i => pR st fun x st => bif lok lo i then K (lset lo i (.ref x)) st M L else False
  | .lstore i => pJ st fun x st => bif lok lo i && llt lo (i + 1) then K (lset (lset lo i (.long x)) (i + 1) .null) st M L else False
  | .iinc i n => isI (lget lo i) fun x => bif lok lo i then K (lset lo i (.int (x + Int32.ofInt n))) st M L else False
  | .iadd => pI st fun y st => pI st fun x st => K lo (.int (x + y) :: st) M L
  | .isub => pI st fun y st => pI st fun x st => K lo (.int (x - y) :: st) M L
  | .imul => pI st fun y st => pI st fun x st => K lo (.int (x * y) :: st) M L
  | .idiv => pI st fun y st => pI st fun x st => ¬ y = 0 ∧ K lo (.int (x / y) :: st) M L
  | .irem => pI st fun y st => pI st fun x st => ¬ y = 0 ∧ K lo (.int (x - x / y * y) :: st) M L
  | .iand => pI st fun y st => pI st fun x st => K lo (.int (x &&& y) :: st) M L
  | .ior => pI st fun y st => pI st fun x st => K lo (.int (x ||| y) :: st) M L
  | .ixor => pI st fun y st => pI st fun x st => K lo (.int (x ^^^ y) :: st) M L
  | .ishl => pI st fun y st => pI st fun x st => K lo (.int (x <<< (y &&& 31)) :: st) M L
  | .ishr => pI st fun y st => pI st fun x st => K lo (.int (x >>> (y &&& 31)) :: st) M L
  | .iushr => pI st fun y st => pI st fun x st => K lo (.int ((x.toUInt32 >>> (y.toUInt32 &&& Int32.toUInt32 31)).toInt32) :: st) M L
  | .lshl => pI st fun y st => pJ st fun x st => K lo (.long (x <<< (y.toInt64 &&& 63)) :: st) M L
  | .lor => pJ st fun y st => pJ st fun x st => K lo (.long (x ||| y) :: st) M L
  | .land => pJ st fun y st => pJ st fun x st => K lo (.long (x &&& y) :: st) M L
  | .lsub => pJ st fun y st => pJ st fun x st => K lo (.long (x - y) :: st) M L
  | .lcmp => pJ st fun y st => pJ st fun x st => K lo (.int (lg_cmp x y) :: st) M L
  | .i2l => pI st fun x st => K lo (.long x.toInt64 :: st) M L
  | .i2b => pI st fun x st => K lo (.int x.toInt8.toInt32 :: st) M L
  | .dup => (match st with
    | .int x :: st => K lo (.int x :: .int x :: st) M L
    | .ref x :: st => K lo (.ref x :: .ref x :: st) M L
    | _ => False)
  | .dup2 => pI st fun y st => pR st fun x st => K lo (.int y :: .ref x :: .int y :: .ref x :: st) M L
  | .pop => pI st fun _ st => K lo st M L
  | .getfield n => pR st fun k st => bif Nat.beq (oci k) (n / 64) && Nat.blt (n % 64) (ofs k).length then K lo (fv M k (n % 64) (lopt (ofs k) (n % 64)) :: st) M L else False
  | .putfield n => pI st fun x st => pR st fun k st => bif (Nat.beq (oci k) (n / 64) && Nat.blt (n % 64) (ofs k).length) && isN (lopt (ofs k) (n % 64)) then
      (bif Nat.beq (am_pf (n / 64) (n % 64)) 0 then K lo st (mput M k (n % 64) x) L else (bif Nat.beq (am_pf (n / 64) (n % 64)) 1 then (x = 0 ∨ x = 1) ∧ K lo st (mput M k (n % 64) x) L else False)) else False
  | .iaload => pI st fun i st => pR st fun k st => aok k 0 i ∧ K lo (.int (M k i.toNatClampNeg) :: st) M L
  | .baload => pI st fun i st => pR st fun k st => (aok k 1 i ∨ aok k 3 i) ∧ K lo (.int (M k i.toNatClampNeg) :: st) M L
  | .laload => pI st fun i st => pR st fun k st => aok k 2 i ∧ K lo (.long (L i.toNatClampNeg) :: st) M L
  | .aaload => pI st fun i st => pR st fun k st => aok k 4 i ∧ K lo (.ref (k + 1 + i.toNatClampNeg) :: st) M L
  | .iastore => pI st fun x st => pI st fun i st => pR st fun k st => aok k 0 i ∧ K lo st (mput M k i.toNatClampNeg x) L
  | .bastore => pI st fun x st => pI st fun i st => pR st fun k st => (aok k 1 i ∧ K lo st (mput M k i.toNatClampNeg (vp_nar .boolean x)) L) ∨ (aok k 3 i ∧ K lo st (mput M k i.toNatClampNeg (vp_nar .byte x)) L)
  | .lastore => pJ st fun x st => pI st fun i st => pR st fun k st => aok k 2 i ∧ K lo st M (vp_updL L i.toNatClampNeg x)
  | .arraylength => pR st fun k st => bif Nat.blt (oty k) 5 then K lo (.int (Int32.ofNat (oln k)) :: st) M L else False
  | .invokestatic w => (match w with
    | 0 => pI st fun y st => pI st fun x st => bif Nat.ble (csum st) 8 then K lo (.int (if x < y then y else x) :: st) M L else False
    | 1 => pI st fun y st => pI st fun x st => bif Nat.ble (csum st) 8 then K lo (.int (if y < x then y else x) :: st) M L else False
    | 2 => pI st fun n st => pI st fun dp st => pR st fun kd st => pI st fun sp st => pR st fun ks st => bif Nat.ble (csum st) 8 then (oty ks = 0 ∧ oty kd = 0 ∧ ¬ sp < 0 ∧ ¬ dp < 0 ∧ ¬ n < 0 ∧ sp.toNatClampNeg + n.toNatClampNeg ≤ oln ks ∧ dp.toNatClampNeg + n.toNatClampNeg ≤ oln kd) ∧ K lo st (mcpy M ks kd sp.toNatClampNeg dp.toNatClampNeg n.toNatClampNeg) L else False
    | _ => False)
  | _ => False
def exs : List Instr → List Value → List Value → Mem → LMem → KK → Prop
  | [], lo, st, M, L, K => K lo st M L
  | i :: is, lo, st, M, L, K => ex i lo st M L (fun lo st M L => exs is lo st M L K)
/-- these instructions stand from pc on (gotos are followed: .goto 0); where they end -/
def segc (b : ByteArray) (own : Nat) : List Instr → Nat → Option Nat
  | [], pc => some pc
  | i :: is, pc => (match decode b pc with
    | .ok (.goto off, 3) => if i = .goto 0 ∧ 0 ≤ (pc : Int) + off then segc b own is ((pc : Int) + off).toNat else none
    | .ok (j, len) => if am_res own j = some (i, len) then segc b own is (pc + len) else none
    | _ => none)
/-! ===== the real machine beneath ===== -/
def cvl (ad : Nat → Nat) : Value → Value
  | .ref k => .ref (ad k)
  | v => v
def am_tys (cA : Nat → ClassId) : List (ClassId × FieldType) := [(cA 0, .int), (cA 1, .boolean), (cA 2, .long), (cA 3, .byte), (cA 4, .array .int)]
def cel (ad : Nat → Nat) (cA : Nat → ClassId) (M : Mem) (L : LMem) (k : Nat) : va_E := match am_sh k with
  | .inl x => .inr (x.1, (List.range x.2.length).map fun j => cvl ad (fv M k j (lopt x.2 j)))
  | .inr x => .inl (cA x.1, x.2, if x.1 = 2 then .inr (.inl L) else if x.1 = 4 then .inr (.inr (.inr (.inr fun i => if i < x.2 then some (ad (k + 1 + i)) else none))) else .inl (M k))
def wd (ad : Nat → Nat) (cA : Nat → ClassId) (M : Mem) (L : LMem) : va_W := (List.range am_NP).map fun k => (ad k, cel ad cA M L k)
abbrev VE : Type := Launch × va_G × (Nat → Nat) × (Nat → ClassId) × Nat × (Nat → Int32)
def am_rm (d : Nat) : Room := { frames := d + 1, cells := 0, slots := 0, locals := 64 * (d + 1) }
def am_WG : List Cond := lw_tbl.filter goodWord
def am_nest : List Cond := [.methodLinkNest RX5 23 yX9_within "SpeakTubes", .methodLinkNest RX0 121 yX9_takenOf "SpeakTubes", .methodLinkNest RX7 74 yX9_takenOf "SpeakTubes"]
def am_AD (ad : Nat → Nat) : Nat → Prop := fun q => ∃ k, k < am_NP ∧ q = ad k
def LOK (ad : Nat → Nat) (n : Nat) (ls : Array Slot) (lo : List Value) : Prop := ls.size = n ∧ lo.length = n ∧ lv_wf ls ∧ ∀ (i : Nat) (v : Value), lo[i]? = some v → v ≠ Value.null → ls[i]? = some (Slot.val (cvl ad v))
abbrev QQ : Type := Option Value → Mem → LMem → Prop
def QcOf (E : VE) (Q : QQ) : Array Value → State → Outcome → State → Prop := fun _ st o t => (∃ r M L, o = .returned (r.map (cvl E.2.2.1)) ∧ Q r M L ∧ va_P E.2.1 vwCl (wd E.2.2.1 E.2.2.2.1 M L) t.heap) ∧ va_F (am_AD E.2.2.1) st t
/-- the script's place -/
def SCU (E : VE) (U : State) : Prop := (∀ i, i < am_NP → E.2.2.1 i ≠ E.2.2.1 75) ∧ E.2.2.1 75 < U.heap.size ∧ va_X (E.2.2.1 75) E.2.2.2.2.1 E.2.2.2.2.2 U U.heap
/-- the law's own method -/
def LAW : Nat := 93
def Ctx (E : VE) (y : Nat) (p : Program) (s : State) (m : MethodId) (args : Array Value) (meth : Method) (c : Code) : Prop :=
  p.tables.exec = Jvm.exec ∧ c.code = am_B y ∧ meth.sig.returnType = am_R y ∧ c.maxLocals = am_X y ∧ s.vm.findClass (am_C (am_O y)) = some m.cls ∧ (∀ w ∈ am_WG, w.before args s = true) ∧ (∀ w ∈ am_nest, va_Nw w s) ∧ va_K E.2.1 vwCl (am_tys E.2.2.2.1) s ∧ meth.locks = false ∧ (∀ i j, i < am_NP → j < am_NP → E.2.2.1 i = E.2.2.1 j → i = j) ∧ SCU E s ∧ (y = LAW → args = #[.ref (E.2.2.1 75)] ∧ ∀ k, k < am_NP → s.heap.size ≤ E.2.2.1 k)
/-- how a method runs: its room, cells and slots made, its end -/
abbrev MD : Type := Room × Nat × Nat × (VE → QQ → List Frame → Array Value → State → State → Prop)
/-- a method that is called, d calls may stand upon it -/
def nm (d : Nat) : MD := (am_rm d, 0, 0, fun E Q below args s => MQ below (QcOf E Q) args s 0 0 (am_AD E.2.2.1))
/-- the law -/
def rt : MD := (room_1, 600000, 7302250, fun _ _ below args s => lw_Z below args s)
def GG (E : VE) (μ : MD) (y : Nat) (Q : QQ) (p : Program) (e : Env) (s : State) (m : MethodId) (args : Array Value) (below : List Frame) (meth : Method) (c : Code) (pc : Nat) (lo st : List Value) (M : Mem) (L : LMem) : Prop :=
  ∀ (ls : Array Slot) (H : Heap) (locs : List Loc), LOK E.2.2.1 (am_X y) ls lo → va_P E.2.1 vwCl (wd E.2.2.1 E.2.2.2.1 M L) H → va_S (am_AD E.2.2.1) s.heap H locs →
    W p E.1 e μ.1 s m args below meth c H locs μ.2.1 μ.2.2.1 (μ.2.2.2 E Q below args s) (F0 m pc ls (st.map (cvl E.2.2.1)))
/-- FROM HERE THE METHOD COMES TO ITS END, AND Q HOLDS THEN: y's code at pc, locals lo, stack st, memory M, longs L -/
def Wm (E : VE) (μ : MD) (y pc : Nat) (lo st : List Value) (M : Mem) (L : LMem) (Q : QQ) : Prop :=
  ∀ (p : Program) (e : Env) (s : State) (m : MethodId) (args : Array Value) (below : List Frame) (meth : Method) (c : Code), Ctx E y p s m args meth c → GG E μ y Q p e s m args below meth c pc lo st M L
abbrev Wp (E : VE) (d y pc : Nat) (lo st : List Value) (M : Mem) (L : LMem) (Q : QQ) : Prop := Wm E (nm d) y pc lo st M L Q
/-- of the law's own body; what it answers is told by its end -/
def QT : QQ := fun _ _ _ => True
abbrev Wr (E : VE) (pc : Nat) (lo st : List Value) (M : Mem) (L : LMem) : Prop := Wm E rt LAW pc lo st M L QT
/-- a method's first locals -/
def lex : List Value → List Value
  | [] => []
  | .long x :: r => .long x :: .null :: lex r
  | v :: r => v :: lex r
def lpad : Nat → List Value → List Value
  | 0, _ => []
  | n + 1, [] => .null :: lpad n []
  | n + 1, a :: r => a :: lpad n r
end
section
/-! ===== the places and the world ===== -/
theorem am_sh_lt {k : Nat} {x : Nat × List (Option Nat)} (h : am_sh k = .inl x) : k < am_NP := by
  unfold am_sh at h
  cases hb : Nat.blt k am_NP with
  | true => exact Nat.blt_eq.mp hb
  | false => rw [hb] at h; cases h
theorem oci_spec {k ci : Nat} (h : oci k = ci) (hc : ci < 99) : am_sh k = .inl (ci, ofs k) ∧ k < am_NP := by
  unfold oci at h
  unfold ofs
  cases hs : am_sh k with
  | inl x =>
    rw [hs] at h
    exact ⟨by rw [← h], am_sh_lt hs⟩
  | inr x =>
    rw [hs] at h
    have h : 99 = ci := h
    omega
theorem oty_spec {k t : Nat} (h : oty k = t) (hc : t < 5) : am_sh k = .inr (t, oln k) ∧ k < am_NP := by
  unfold oty at h
  unfold oln
  cases hs : am_sh k with
  | inl x =>
    rw [hs] at h
    have h : 99 = t := h
    omega
  | inr x =>
    rw [hs] at h
    refine ⟨by rw [← h], ?_⟩
    unfold am_sh at hs
    cases hb : Nat.blt k am_NP with
    | true => exact Nat.blt_eq.mp hb
    | false =>
      rw [hb] at hs
      have hs : (Sum.inr (99, 0) : (Nat × List (Option Nat)) ⊕ (Nat × Nat)) = .inr x := hs
      cases hs
      have h : 99 = t := h
      omega
theorem wd_get {ad : Nat → Nat} {cA : Nat → ClassId} {M : Mem} {L : LMem} {k : Nat} (h : k < am_NP) : (wd ad cA M L)[k]? = some (ad k, cel ad cA M L k) := by
  simp [wd, h]
theorem wd_len {ad : Nat → Nat} {cA : Nat → ClassId} {M : Mem} {L : LMem} : (wd ad cA M L).length = am_NP := by simp [wd]
theorem wd_none {ad : Nat → Nat} {cA : Nat → ClassId} {M : Mem} {L : LMem} {k : Nat} (h : am_NP ≤ k) : (wd ad cA M L)[k]? = none := by
  rw [List.getElem?_eq_none_iff, wd_len]; exact h
theorem wd_set {ad : Nat → Nat} {cA : Nat → ClassId} {M M' : Mem} {L L' : LMem} {k : Nat} (h : k < am_NP) {e : va_E} (he : e = cel ad cA M' L' k) (hn : ∀ j, j < am_NP → j ≠ k → cel ad cA M' L' j = cel ad cA M L j) : (wd ad cA M L).set k (ad k, e) = wd ad cA M' L' := by
  apply List.ext_getElem?
  intro j
  by_cases hj : j < am_NP
  · by_cases hjk : j = k
    · subst hjk
      rw [List.getElem?_set_self (by rw [wd_len]; exact hj), wd_get hj, he]
    · rw [List.getElem?_set_ne (fun q => hjk q.symm), wd_get hj, wd_get hj, hn j hj hjk]
  · have hj : am_NP ≤ j := Nat.le_of_not_lt hj
    rw [wd_none hj, List.getElem?_eq_none_iff, List.length_set, wd_len]
    exact hj
theorem cel_inl {ad : Nat → Nat} {cA : Nat → ClassId} {M : Mem} {L : LMem} {k : Nat} {x : Nat × List (Option Nat)} (h : am_sh k = .inl x) : cel ad cA M L k = .inr (x.1, (List.range x.2.length).map fun j => cvl ad (fv M k j (lopt x.2 j))) := by
  unfold cel; rw [h]
theorem cel_inr {ad : Nat → Nat} {cA : Nat → ClassId} {M : Mem} {L : LMem} {k : Nat} {x : Nat × Nat} (h : am_sh k = .inr x) : cel ad cA M L k = .inl (cA x.1, x.2, if x.1 = 2 then .inr (.inl L) else if x.1 = 4 then .inr (.inr (.inr (.inr fun i => if i < x.2 then some (ad (k + 1 + i)) else none))) else .inl (M k)) := by
  unfold cel; rw [h]
theorem cel_congr {ad : Nat → Nat} {cA : Nat → ClassId} {M M' : Mem} {L : LMem} {k : Nat} (h : M' k = M k) : cel ad cA M' L k = cel ad cA M L k := by
  cases hs : am_sh k with
  | inl x =>
    rw [cel_inl hs, cel_inl hs]
    have hf : ∀ j o, fv M' k j o = fv M k j o := fun j o => by
      cases o with
      | some t => rfl
      | none => show Value.int _ = Value.int _; rw [h]
    simp only [hf]
  | inr x => rw [cel_inr hs, cel_inr hs, h]
theorem mput_ne {M : Mem} {k i j : Nat} {v : Int32} (h : j ≠ k) : mput M k i v j = M j := by
  funext b
  simp [mput, h]
theorem mput_at {M : Mem} {k i : Nat} {v : Int32} : mput M k i v k = upd (M k) i v := by
  funext b
  simp [mput, upd]
theorem mcpy_ne {M : Mem} {ks kd sp dp n j : Nat} (h : j ≠ kd) : mcpy M ks kd sp dp n j = M j := by
  simp [mcpy, h]
theorem mcpy_at {M : Mem} {ks kd sp dp n : Nat} : mcpy M ks kd sp dp n kd = va_cpy (M ks) (M kd) sp dp n := by
  simp [mcpy]
theorem only_long : ∀ k, k < am_NP → ∀ n, am_sh k = .inr (2, n) → k = 56 := by
  have h : (List.range am_NP).all (fun k => match am_sh k with
    | .inr x => !(Nat.beq x.1 2) || Nat.beq k 56
    | .inl _ => true) = true := by decide +kernel
  intro k hk n hs
  have h1 := List.all_eq_true.mp h k (List.mem_range.mpr hk)
  rw [hs] at h1
  simpa using h1
/-! ===== the locals ===== -/
theorem lset_eq : ∀ (lo : List Value) (i : Nat) (v : Value), lset lo i v = lo.set i v
  | [], _, _ => rfl
  | _ :: _, 0, _ => rfl
  | a :: r, n + 1, v => by
    show a :: lset r n v = a :: r.set n v
    rw [lset_eq r n v]
theorem llt_spec : ∀ (lo : List Value) (i : Nat), llt lo i = true → i < lo.length
  | [], _, h => by cases h
  | _ :: _, 0, _ => Nat.succ_pos _
  | _ :: r, n + 1, h => Nat.succ_lt_succ (llt_spec r n h)
theorem lget_some : ∀ (lo : List Value) (i : Nat) (v : Value), lget lo i = v → v ≠ Value.null → lo[i]? = some v
  | [], _, _, h, hn => absurd h.symm hn
  | _ :: _, 0, _, h, _ => by rw [← h]; rfl
  | _ :: r, n + 1, v, h, hn => by
    rw [List.getElem?_cons_succ]
    exact lget_some r n v h hn
theorem lget_of : ∀ (lo : List Value) (i : Nat) (v : Value), lo[i]? = some v → lget lo i = v
  | [], _, _, h => by simp at h
  | _ :: _, 0, _, h => by cases h; rfl
  | _ :: r, n + 1, v, h => by
    rw [List.getElem?_cons_succ] at h
    exact lget_of r n v h
theorem cvl_cat (ad : Nat → Nat) (v : Value) : (cvl ad v).category = v.category := by cases v <;> rfl
theorem lok_spec {lo : List Value} {i : Nat} (h : lok lo i = true) : i < lo.length ∧ ∀ (j : Nat) (v : Value), j + 1 = i → lo[j]? = some v → ¬ v.category = 2 := by
  cases i with
  | zero => exact ⟨llt_spec _ _ h, fun j v q => by omega⟩
  | succ n =>
    have h : (isC1 (lget lo n) && llt lo (n + 1)) = true := h
    rw [Bool.and_eq_true] at h
    refine ⟨llt_spec _ _ h.2, fun j v q hv => ?_⟩
    have : j = n := by omega
    subst this
    have h1 := h.1
    rw [lget_of _ _ _ hv] at h1
    cases v <;> first | (intro q; cases q; done) | (cases h1)
def aso (ad : Nat → Nat) (lo : List Value) : List (Nat × Value) := (List.range lo.length).filterMap fun i => if lget lo i = Value.null then none else some (i, cvl ad (lget lo i))
theorem aso_mem {ad : Nat → Nat} {lo : List Value} {q : Nat × Value} (h : q ∈ aso ad lo) : ∃ v, lo[q.1]? = some v ∧ v ≠ Value.null ∧ q.2 = cvl ad v := by
  obtain ⟨i, -, hi⟩ := List.mem_filterMap.mp h
  by_cases hn : lget lo i = Value.null
  · rw [if_pos hn] at hi; cases hi
  · rw [if_neg hn] at hi
    cases hi
    exact ⟨_, lget_some _ _ _ rfl hn, hn, rfl⟩
theorem aso_in {ad : Nat → Nat} {lo : List Value} {i : Nat} {v : Value} (h : lo[i]? = some v) (hn : v ≠ Value.null) : (i, cvl ad v) ∈ aso ad lo := by
  refine List.mem_filterMap.mpr ⟨i, List.mem_range.mpr (List.getElem?_eq_some_iff.mp h).1, ?_⟩
  rw [lget_of _ _ _ h, if_neg hn]
theorem LOK.has {ad : Nat → Nat} {n : Nat} {ls : Array Slot} {lo : List Value} (h : LOK ad n ls lo) : lv_has ls n (aso ad lo) := by
  refine ⟨h.1, h.2.2.1, fun q hq => ?_⟩
  obtain ⟨v, h1, h2, h3⟩ := aso_mem hq
  rw [h3]
  exact h.2.2.2 _ _ h1 h2
theorem LOK.at {ad : Nat → Nat} {n : Nat} {ls : Array Slot} {lo : List Value} (h : LOK ad n ls lo) {i : Nat} {v : Value} (hv : lget lo i = v) (hn : v ≠ Value.null) : ls[i]? = some (Slot.val (cvl ad v)) := h.2.2.2 _ _ (lget_some _ _ _ hv hn) hn
theorem LOK.set1 {ad : Nat → Nat} {n : Nat} {ls ls' : Array Slot} {lo : List Value} (h : LOK ad n ls lo) {i : Nat} {v : Value} (hk : lok lo i = true) (h' : lv_has ls' n ((i, cvl ad v) :: (aso ad lo).filter (fun q => !(q.1 == i) && !(q.1 + 1 == i && q.2.category == 2)))) : LOK ad n ls' (lset lo i v) := by
  obtain ⟨hi, hc⟩ := lok_spec hk
  rw [lset_eq]
  refine ⟨h'.1, by rw [List.length_set]; exact h.2.1, h'.2.1, fun j w hw hn => ?_⟩
  by_cases hj : j = i
  · subst hj
    rw [List.getElem?_set_self hi] at hw
    cases hw
    exact h'.2.2 (j, cvl ad v) List.mem_cons_self
  · rw [List.getElem?_set_ne (fun q => hj q.symm)] at hw
    refine h'.2.2 (j, cvl ad w) (List.mem_cons_of_mem _ (List.mem_filter.mpr ⟨aso_in hw hn, ?_⟩))
    have h1 : ¬ (j + 1 = i ∧ (cvl ad w).category = 2) := fun q => hc j w q.1 hw (by rw [← cvl_cat ad w]; exact q.2)
    by_cases h2 : j + 1 = i
    · have h3 : ¬ (cvl ad w).category = 2 := fun q => h1 ⟨h2, q⟩
      simp [hj, h3]
    · simp [hj, h2]
theorem LOK.set2 {ad : Nat → Nat} {n : Nat} {ls ls' : Array Slot} {lo : List Value} (h : LOK ad n ls lo) {i : Nat} {v : Value} (hk : lok lo i = true) (hk2 : llt lo (i + 1) = true) (h' : lv_has ls' n ((i, cvl ad v) :: (aso ad lo).filter (fun q => !(q.1 == i) && (!(q.1 == i + 1) && !(q.1 + 1 == i && q.2.category == 2))))) : LOK ad n ls' (lset (lset lo i v) (i + 1) .null) := by
  obtain ⟨hi, hc⟩ := lok_spec hk
  have hi2 := llt_spec _ _ hk2
  rw [lset_eq, lset_eq]
  refine ⟨h'.1, by rw [List.length_set, List.length_set]; exact h.2.1, h'.2.1, fun j w hw hn => ?_⟩
  by_cases hj2 : j = i + 1
  · subst hj2
    rw [List.getElem?_set_self (by rw [List.length_set]; exact hi2)] at hw
    cases hw
    exact absurd rfl hn
  rw [List.getElem?_set_ne (fun q => hj2 q.symm)] at hw
  by_cases hj : j = i
  · subst hj
    rw [List.getElem?_set_self hi] at hw
    cases hw
    exact h'.2.2 (j, cvl ad v) List.mem_cons_self
  · rw [List.getElem?_set_ne (fun q => hj q.symm)] at hw
    refine h'.2.2 (j, cvl ad w) (List.mem_cons_of_mem _ (List.mem_filter.mpr ⟨aso_in hw hn, ?_⟩))
    have h1 : ¬ (j + 1 = i ∧ (cvl ad w).category = 2) := fun q => hc j w q.1 hw (by rw [← cvl_cat ad w]; exact q.2)
    by_cases h2 : j + 1 = i
    · have h3 : ¬ (cvl ad w).category = 2 := fun q => h1 ⟨h2, q⟩
      simp [hj, hj2, h3]
    · simp [hj, hj2, h2]
theorem csum_eq (ad : Nat → Nat) : ∀ st : List Value, ((st.map (cvl ad)).map fun v => v.category).sum = csum st
  | [] => rfl
  | v :: r => by
    rw [List.map_cons, List.map_cons, List.sum_cons, csum_eq ad r, cvl_cat]
    rfl
/-! ===== the tables ===== -/
theorem am_in {w : Cond} (h : w ∈ lw_tbl) (hg : goodWord w = true) : w ∈ am_WG := List.mem_filter.mpr ⟨h, hg⟩
theorem am_t1 {w : Cond} (h : w ∈ tables_1) : w ∈ lw_tbl := List.mem_append_right (k2_sels lw_privs) h
def am_flok (q : Nat × Nat × Nat × Nat × Nat) : Bool := match vwCl[q.2.2.1]? with
  | some r => decide (tables_1[q.2.2.2.2]? = some (.fieldLink (am_C q.1) q.2.1 (r.2.1 q.2.2.2.1).1 (r.2.1 q.2.2.2.1).2.1 (r.2.1 q.2.2.2.1).2.2.1)) && Nat.blt q.2.2.2.1 r.2.2 && Nat.blt q.2.2.1 11 && Nat.blt q.2.2.2.1 64
  | none => false
set_option maxRecDepth 100000 in
theorem am_FL_ok : am_FL.all am_flok = true := by decide +kernel
set_option maxRecDepth 100000 in
theorem am_CT_ok : am_CT.all (fun q => decide (tables_1[q.2.2.2]? = some (.constant (am_C q.1) q.2.1 (Int32.ofInt q.2.2.1)))) = true := by decide +kernel
set_option maxRecDepth 100000 in
theorem am_CL_ok : am_CL.all (fun q => decide (tables_1[q.2.2.2]? = some (.constantLong (am_C q.1) q.2.1 (Int64.ofNat q.2.2.1)))) = true := by decide +kernel
def am_spN : Nat → MethodName
  | 0 => Lib.Math.max.name
  | 1 => Lib.Math.min.name
  | _ => arraycopyName
set_option maxRecDepth 100000 in
theorem am_SP_ok : am_SP.all (fun q => decide (tables_1[q.2.2.2]? = some (.methodLink (am_C q.1) q.2.1 (am_spN q.2.2.1)) ∧ q.2.2.1 < 3)) = true := by decide +kernel
set_option maxRecDepth 100000 in
theorem am_PF_ok : am_PF.all (fun q => match vwCl[q.1]? with
  | some r => decide ((r.2.1 q.2.1).2.2.2 = false) && decide (parseFieldDescriptor (r.2.1 q.2.1).2.2.1 = some (if q.2.2 = 0 then .int else .boolean))
  | none => false) = true := by decide +kernel
/-! ===== one instruction ===== -/
theorem find_ok {α : Type} {l : List α} {p f : α → Bool} (h : l.all f = true) {x : α} (hx : l.find? p = some x) : f x = true ∧ p x = true := ⟨List.all_eq_true.mp h x (List.mem_of_find?_eq_some hx), List.find?_some hx⟩
theorem am_fl_spec {own i ci k : Nat} (h : am_fl own i = some (ci, k)) : ∃ r : vw_C, vwCl[ci]? = some r ∧ Cond.fieldLink (am_C own) i (r.2.1 k).1 (r.2.1 k).2.1 (r.2.1 k).2.2.1 ∈ am_WG ∧ k < r.2.2 ∧ ci < 11 ∧ k < 64 := by
  unfold am_fl at h
  obtain ⟨q, hq, he⟩ := Option.map_eq_some_iff.mp h
  obtain ⟨h1, h2⟩ := find_ok am_FL_ok hq
  cases he
  simp only [Bool.and_eq_true] at h2
  have e1 := Nat.eq_of_beq_eq_true h2.1
  have e2 := Nat.eq_of_beq_eq_true h2.2
  unfold am_flok at h1
  split at h1
  · rename_i r hr
    simp only [Bool.and_eq_true, decide_eq_true_eq] at h1
    refine ⟨r, hr, ?_, Nat.blt_eq.mp h1.1.1.2, Nat.blt_eq.mp h1.1.2, Nat.blt_eq.mp h1.2⟩
    rw [← e1, ← e2]
    exact am_in (am_t1 (List.mem_of_getElem? h1.1.1.1)) rfl
  · cases h1
theorem am_ct_spec {own i : Nat} {v : Int} (h : am_ct own i = some v) : Cond.constant (am_C own) i (Int32.ofInt v) ∈ am_WG := by
  unfold am_ct at h
  obtain ⟨q, hq, he⟩ := Option.map_eq_some_iff.mp h
  obtain ⟨h1, h2⟩ := find_ok am_CT_ok hq
  cases he
  simp only [Bool.and_eq_true] at h2
  have e1 := Nat.eq_of_beq_eq_true h2.1
  have e2 := Nat.eq_of_beq_eq_true h2.2
  simp only [decide_eq_true_eq] at h1
  rw [← e1, ← e2]
  exact am_in (am_t1 (List.mem_of_getElem? h1)) rfl
theorem am_cl_spec {own i v : Nat} (h : am_cl own i = some v) : Cond.constantLong (am_C own) i (Int64.ofNat v) ∈ am_WG := by
  unfold am_cl am_find3 at h
  obtain ⟨q, hq, he⟩ := Option.map_eq_some_iff.mp h
  obtain ⟨h1, h2⟩ := find_ok am_CL_ok hq
  cases he
  simp only [Bool.and_eq_true] at h2
  have e1 := Nat.eq_of_beq_eq_true h2.1
  have e2 := Nat.eq_of_beq_eq_true h2.2
  simp only [decide_eq_true_eq] at h1
  rw [← e1, ← e2]
  exact am_in (am_t1 (List.mem_of_getElem? h1)) rfl
theorem am_sp_spec {own i w : Nat} (h : am_sp own i = some w) : w < 3 ∧ Cond.methodLink (am_C own) i (am_spN w) ∈ am_WG := by
  unfold am_sp am_find3 at h
  obtain ⟨q, hq, he⟩ := Option.map_eq_some_iff.mp h
  obtain ⟨h1, h2⟩ := find_ok am_SP_ok hq
  cases he
  simp only [Bool.and_eq_true] at h2
  have e1 := Nat.eq_of_beq_eq_true h2.1
  have e2 := Nat.eq_of_beq_eq_true h2.2
  simp only [decide_eq_true_eq] at h1
  refine ⟨h1.2, ?_⟩
  rw [← e1, ← e2]
  exact am_in (am_t1 (List.mem_of_getElem? h1.1)) rfl
theorem am_pf_spec {ci k b : Nat} (h : am_pf ci k = b) (hb : b < 2) {r : vw_C} (hr : vwCl[ci]? = some r) : (r.2.1 k).2.2.2 = false ∧ parseFieldDescriptor (r.2.1 k).2.2.1 = some (if b = 0 then .int else .boolean) := by
  unfold am_pf at h
  split at h
  · rename_i q hq
    obtain ⟨h1, h2⟩ := find_ok am_PF_ok hq
    simp only [Bool.and_eq_true] at h2
    have e1 := Nat.eq_of_beq_eq_true h2.1
    have e2 := Nat.eq_of_beq_eq_true h2.2
    simp only [e1, hr, Bool.and_eq_true, decide_eq_true_eq, e2, h] at h1
    exact h1
  · omega
set_option maxRecDepth 100000 in
theorem am_words : vwCl.all (fun r => (u_ws r.1 r.2.1 r.2.2).all (fun w => decide (w ∈ tables_1) && goodWord w)) = true := by decide +kernel
theorem am_ws {ci : Nat} {r : vw_C} (hr : vwCl[ci]? = some r) : ∀ w ∈ u_ws r.1 r.2.1 r.2.2, w ∈ am_WG := by
  intro w hw
  have h1 := List.all_eq_true.mp (List.all_eq_true.mp am_words r (List.mem_of_getElem? hr)) w hw
  simp only [Bool.and_eq_true, decide_eq_true_eq] at h1
  exact am_in (am_t1 h1.1) h1.2
theorem am_desc : ∀ r ∈ vwCl, (∃ ty0 : Nat → FieldType, ∀ k, k < r.2.2 → parseFieldDescriptor (r.2.1 k).2.2.1 = some (ty0 k)) ∧ ∀ a, a < r.2.2 → ∀ b, b < r.2.2 → a ≠ b → (r.2.1 a).2.1 ≠ (r.2.1 b).2.1 :=
  List.forall_mem_cons.mpr ⟨⟨⟨_, tyX0_ok⟩, nmX0⟩, List.forall_mem_cons.mpr ⟨⟨⟨_, tyX1_ok⟩, nmX1⟩, List.forall_mem_cons.mpr ⟨⟨⟨_, tyX2_ok⟩, nmX2⟩, List.forall_mem_cons.mpr ⟨⟨⟨_, tyX3_ok⟩, nmX3⟩, List.forall_mem_cons.mpr ⟨⟨⟨_, tyX4_ok⟩, nmX4⟩, List.forall_mem_cons.mpr ⟨⟨⟨_, tyX5_ok⟩, nmX5⟩, List.forall_mem_cons.mpr ⟨⟨⟨_, tyX6_ok⟩, nmX6⟩, List.forall_mem_cons.mpr ⟨⟨⟨_, tyX7_ok⟩, nmX7⟩, List.forall_mem_cons.mpr ⟨⟨⟨_, tyX8_ok⟩, nmX8⟩, List.forall_mem_cons.mpr ⟨⟨⟨_, tyX9_ok⟩, nmX9⟩, fun _ h => absurd h List.not_mem_nil⟩⟩⟩⟩⟩⟩⟩⟩⟩⟩
set_option maxRecDepth 100000 in
theorem am_sys : ∀ w ∈ ([.static Lib.Math.max.name, .initialized "java/lang/Math", .code Lib.Math.max.name Lib.Math.max.code 2 (some .int), .static Lib.Math.min.name, .code Lib.Math.min.name Lib.Math.min.code 2 (some .int), .native arraycopyName, .static arraycopyName, .initialized "java/lang/System"] : List Jvm.Cond), w ∈ am_WG := by
  have h : ([.static Lib.Math.max.name, .initialized "java/lang/Math", .code Lib.Math.max.name Lib.Math.max.code 2 (some .int), .static Lib.Math.min.name, .code Lib.Math.min.name Lib.Math.min.code 2 (some .int), .native arraycopyName, .static arraycopyName, .initialized "java/lang/System"] : List Jvm.Cond).all (fun w => decide (w ∈ tables_1) && goodWord w) = true := by decide +kernel
  intro w hw
  have h1 := List.all_eq_true.mp h w hw
  simp only [Bool.and_eq_true, decide_eq_true_eq] at h1
  exact am_in (am_t1 h1.1) h1.2
theorem am_D {ad : Nat → Nat} {cA : Nat → ClassId} {M : Mem} {L : LMem} (hinj : ∀ i j, i < am_NP → j < am_NP → ad i = ad j → i = j) : va_D (am_AD ad) (wd ad cA M L) := by
  have key : ∀ (k : Nat) (q : Nat × va_E), (wd ad cA M L)[k]? = some q → k < am_NP ∧ q.1 = ad k := by
    intro k q hk
    have hl : k < am_NP := by
      have := (List.getElem?_eq_some_iff.mp hk).1
      rwa [wd_len] at this
    rw [wd_get hl] at hk
    cases hk
    exact ⟨hl, rfl⟩
  refine ⟨fun i j x z hi hj hxz => ?_, fun k q hk => ?_⟩
  · obtain ⟨h1, h2⟩ := key i x hi
    obtain ⟨h3, h4⟩ := key j z hj
    exact hinj i j h1 h3 (h2.symm.trans (hxz.trans h4))
  · obtain ⟨h1, h2⟩ := key k q hk
    exact ⟨k, h1, h2⟩
end
section
/-! ===== an instruction of the abstract machine is one of the real one ===== -/
section STEP
variable {E : VE} {μ : MD} {y pc : Nat} {Q : QQ} {p : Program} {e : Env} {s : State} {m : MethodId} {args : Array Value} {below : List Frame} {meth : Method} {c : Code} {lo st : List Value} {M : Mem} {L : LMem}
theorem am_cl_lt {ci : Nat} {r : vw_C} (h : vwCl[ci]? = some r) : r ∈ vwCl := List.mem_of_getElem? h
theorem gx_get (C : Ctx E y p s m args meth c) {i n : Nat} (hd : decode (am_B y) pc = .ok (.getfield i, 3)) (hr : am_fl (am_O y) i = some (n / 64, n % 64)) {k : Nat} (h1 : oci k = n / 64) (h2 : n % 64 < (ofs k).length)
    (hk : GG E μ y Q p e s m args below meth c (pc + 3) lo (fv M k (n % 64) (lopt (ofs k) (n % 64)) :: st) M L) : GG E μ y Q p e s m args below meth c pc lo (.ref k :: st) M L := by
  intro ls H locs hl hP hS
  obtain ⟨hx, hb, -, -, hown, hts, -, hK, -, -, -⟩ := C
  obtain ⟨r, hr1, hw, hlt, hci, -⟩ := am_fl_spec hr
  obtain ⟨hs, hkN⟩ := oci_spec h1 (by omega)
  refine va_get (D := E.2.1) (ci := n / 64) (a := E.2.2.1 k) (ws := wd E.2.2.1 E.2.2.2.1 M L) (cl := vwCl) (tys := am_tys E.2.2.2.1) (C := r.1) (T := r.2.1) (N := r.2.2) hx hb hts (am_ws hr1) hown hK hP k (by rw [wd_get hkN, cel_inl hs]) hr1 (n % 64) hlt (hts _ hw) (fun _ h9 => h9) (v := cvl E.2.2.1 (fv M k (n % 64) (lopt (ofs k) (n % 64)))) ?_ hd (hk ls H locs hl hP hS)
  rw [List.getElem?_map, List.getElem?_range h2]
  rfl
theorem gx_put (C : Ctx E y p s m args meth c) {i n b : Nat} (hd : decode (am_B y) pc = .ok (.putfield i, 3)) (hr : am_fl (am_O y) i = some (n / 64, n % 64)) {k : Nat} {x : Int32} (h1 : oci k = n / 64) (h2 : n % 64 < (ofs k).length) (h3 : lopt (ofs k) (n % 64) = none) (h4 : am_pf (n / 64) (n % 64) = b) (hb2 : b < 2) (hx01 : b = 1 → x = 0 ∨ x = 1)
    (hk : GG E μ y Q p e s m args below meth c (pc + 3) lo st (mput M k (n % 64) x) L) : GG E μ y Q p e s m args below meth c pc lo (.int x :: .ref k :: st) M L := by
  intro ls H locs hl hP hS
  obtain ⟨hx, hb, -, -, hown, hts, -, hK, -, hinj, -⟩ := C
  obtain ⟨r, hr1, hw, hlt, hci, -⟩ := am_fl_spec hr
  obtain ⟨hs, hkN⟩ := oci_spec h1 (by omega)
  obtain ⟨hfin, hty⟩ := am_pf_spec h4 hb2 hr1
  obtain ⟨⟨ty0, hty0⟩, hnm⟩ := am_desc r (am_cl_lt hr1)
  have hD : va_D (am_AD E.2.2.1) (wd E.2.2.1 E.2.2.2.1 M L) := am_D hinj
  have hv : narrow (if b = 0 then .int else .boolean) (.int x) = .int x ∧ fits (if b = 0 then .int else .boolean) (.int x) = true := by
    by_cases hb0 : b = 0
    · rw [if_pos hb0]; exact ⟨rfl, rfl⟩
    · rw [if_neg hb0]
      rcases hx01 (by omega) with rfl | rfl <;> exact ⟨by decide, by decide⟩
  refine va_put (D := E.2.1) (ci := n / 64) (a := E.2.2.1 k) (ws := wd E.2.2.1 E.2.2.2.1 M L) (cl := vwCl) (tys := am_tys E.2.2.2.1) (C := r.1) (T := r.2.1) (N := r.2.2) (v := .int x) hx hb hts (am_ws hr1) ty0 hty0 hnm hown hK hP hD hS k (by rw [wd_get hkN, cel_inl hs]) hr1 (n % 64) hlt (hts _ hw) (fun _ h9 => h9) hfin hty hv.1 hv.2 (by rw [List.length_map, List.length_range]; exact h2) hd (fun H1 locs1 hP1 hD1 hS1 => ?_)
  have he : (wd E.2.2.1 E.2.2.2.1 M L).set k (E.2.2.1 k, .inr (n / 64, ((List.range (ofs k).length).map fun j => cvl E.2.2.1 (fv M k j (lopt (ofs k) j))).set (n % 64) (.int x))) = wd E.2.2.1 E.2.2.2.1 (mput M k (n % 64) x) L := by
    refine wd_set hkN ?_ (fun j _ hj => cel_congr (mput_ne hj))
    rw [cel_inl hs]
    refine congrArg Sum.inr (congrArg (Prod.mk (n / 64)) (List.ext_getElem? fun j => ?_))
    by_cases hj : j < (ofs k).length
    · by_cases hjn : j = n % 64
      · subst hjn
        rw [List.getElem?_set_self (by rw [List.length_map, List.length_range]; exact hj), List.getElem?_map]
        show some (Value.int x) = ((List.range (ofs k).length)[n % 64]?).map (fun j => cvl E.2.2.1 (fv (mput M k (n % 64) x) k j (lopt (ofs k) j)))
        rw [List.getElem?_range hj]
        show some (Value.int x) = some (cvl E.2.2.1 (fv (mput M k (n % 64) x) k (n % 64) (lopt (ofs k) (n % 64))))
        rw [h3]
        simp [fv, mput, cvl]
      · rw [List.getElem?_set_ne (fun q => hjn q.symm), List.getElem?_map, List.getElem?_map]
        show ((List.range (ofs k).length)[j]?).map _ = ((List.range (ofs k).length)[j]?).map (fun j => cvl E.2.2.1 (fv (mput M k (n % 64) x) k j (lopt (ofs k) j)))
        rw [List.getElem?_range hj]
        have hf : fv (mput M k (n % 64) x) k j (lopt (ofs k) j) = fv M k j (lopt (ofs k) j) := by
          cases lopt (ofs k) j with
          | some t => rfl
          | none => show Value.int _ = Value.int _; simp [mput, hjn]
        simp only [Option.map_some, hf]
    · have hj : (ofs k).length ≤ j := Nat.le_of_not_lt hj
      rw [List.getElem?_eq_none_iff.mpr (by simpa using hj), List.getElem?_eq_none_iff.mpr (by simpa using hj)]
  have hP2 : va_P E.2.1 vwCl ((wd E.2.2.1 E.2.2.2.1 M L).set k (E.2.2.1 k, .inr (n / 64, ((List.range (ofs k).length).map fun j => cvl E.2.2.1 (fv M k j (lopt (ofs k) j))).set (n % 64) (.int x)))) H1 := hP1
  rw [he] at hP2
  exact hk ls H1 locs1 hl hP2 hS1
theorem am_int {k : Nat} {t : Nat} (h : oty k = t) (ht : t < 5) (h2 : ¬ t = 2) (h4 : ¬ t = 4) {ad : Nat → Nat} {cA : Nat → ClassId} {M : Mem} {L : LMem} : cel ad cA M L k = .inl (cA t, oln k, .inl (M k)) := by
  rw [cel_inr (oty_spec h ht).1]
  simp only [h2, h4, if_false]
theorem am_get_int {k t : Nat} (h : oty k = t) (ht : t < 5) (h2 : ¬ t = 2) (h4 : ¬ t = 4) {ad : Nat → Nat} {cA : Nat → ClassId} {M : Mem} {L : LMem} : (wd ad cA M L)[k]? = some (ad k, .inl (cA t, oln k, .inl (M k))) := by
  rw [wd_get (oty_spec h ht).2, am_int h ht h2 h4]
theorem gx_iald (C : Ctx E y p s m args meth c) (hd : decode (am_B y) pc = .ok (.iaload, 1)) {k : Nat} {i : Int32} (ha : aok k 0 i)
    (hk : GG E μ y Q p e s m args below meth c (pc + 1) lo (.int (M k i.toNatClampNeg) :: st) M L) : GG E μ y Q p e s m args below meth c pc lo (.int i :: .ref k :: st) M L := by
  intro ls H locs hl hP hS
  obtain ⟨hx, hb, -, -, hown, hts, -, hK, -, -, -⟩ := C
  exact va_iald (D := E.2.1) (a := E.2.2.1 k) (cl := vwCl) (tys := am_tys E.2.2.2.1) hx hb hK hP k 0 (am_get_int ha.1 (by decide) (by decide) (by decide)) rfl ha.2 hd (hk ls H locs hl hP hS)
theorem gx_bald (C : Ctx E y p s m args meth c) (hd : decode (am_B y) pc = .ok (.baload, 1)) {k : Nat} {i : Int32} (ha : aok k 1 i ∨ aok k 3 i)
    (hk : GG E μ y Q p e s m args below meth c (pc + 1) lo (.int (M k i.toNatClampNeg) :: st) M L) : GG E μ y Q p e s m args below meth c pc lo (.int i :: .ref k :: st) M L := by
  intro ls H locs hl hP hS
  obtain ⟨hx, hb, -, -, hown, hts, -, hK, -, -, -⟩ := C
  rcases ha with ha | ha
  · exact va_zald (D := E.2.1) (a := E.2.2.1 k) (cl := vwCl) (tys := am_tys E.2.2.2.1) hx hb hK hP k 1 (am_get_int ha.1 (by decide) (by decide) (by decide)) rfl ha.2 hd (hk ls H locs hl hP hS)
  · exact va_bald (D := E.2.1) (a := E.2.2.1 k) (cl := vwCl) (tys := am_tys E.2.2.2.1) hx hb hK hP k 3 (am_get_int ha.1 (by decide) (by decide) (by decide)) rfl ha.2 hd (hk ls H locs hl hP hS)
theorem gx_lald (C : Ctx E y p s m args meth c) (hd : decode (am_B y) pc = .ok (.laload, 1)) {k : Nat} {i : Int32} (ha : aok k 2 i)
    (hk : GG E μ y Q p e s m args below meth c (pc + 1) lo (.long (L i.toNatClampNeg) :: st) M L) : GG E μ y Q p e s m args below meth c pc lo (.int i :: .ref k :: st) M L := by
  intro ls H locs hl hP hS
  obtain ⟨hx, hb, -, -, hown, hts, -, hK, -, -, -⟩ := C
  exact va_lald (D := E.2.1) (a := E.2.2.1 k) (cl := vwCl) (tys := am_tys E.2.2.2.1) (f := L) hx hb hK hP k 2 (by rw [wd_get (oty_spec ha.1 (by decide)).2, cel_inr (oty_spec ha.1 (by decide)).1]; rfl) rfl ha.2 hd (hk ls H locs hl hP hS)
theorem gx_aald (C : Ctx E y p s m args meth c) (hd : decode (am_B y) pc = .ok (.aaload, 1)) {k : Nat} {i : Int32} (ha : aok k 4 i)
    (hk : GG E μ y Q p e s m args below meth c (pc + 1) lo (.ref (k + 1 + i.toNatClampNeg) :: st) M L) : GG E μ y Q p e s m args below meth c pc lo (.int i :: .ref k :: st) M L := by
  intro ls H locs hl hP hS
  obtain ⟨hx, hb, -, -, hown, hts, -, hK, -, -, -⟩ := C
  obtain ⟨hs, hkN⟩ := oty_spec ha.1 (by decide)
  have hlt : i.toNatClampNeg < oln k := Nat.not_le.mp fun q => ha.2 (Or.inr q)
  have hcell := hP k _ (wd_get hkN)
  rw [cel_inr hs] at hcell
  have hcell : H[E.2.2.1 k]? = some (vp_cell (E.2.2.2.1 4) (oln k, .inr (.inr (.inr (.inr fun i => if i < oln k then some (E.2.2.1 (k + 1 + i)) else none))))) := hcell
  exact W.aald (v := .ref (E.2.2.1 (k + 1 + i.toNatClampNeg))) (ty := .array .int) hx hb hcell ((hK.2 4 _ rfl).1 (oln k) (fun j => va_rf (if j < oln k then some (E.2.2.1 (k + 1 + j)) else none))) rfl (fun q => by cases q) (by show ¬ (i < 0 ∨ (arrV _ _ _).slots.size ≤ _); rw [arrV_size]; exact ha.2) (by show (arrV _ _ _).slots[_]? = _; rw [arrV_read _ _ hlt]; show some (va_rf (if i.toNatClampNeg < oln k then _ else none)) = _; rw [if_pos hlt]; rfl) rfl rfl hd (hk ls H locs hl hP hS)
theorem set_int {k t : Nat} (h : oty k = t) (ht : t < 5) (h2 : ¬ t = 2) (h4 : ¬ t = 4) {ad : Nat → Nat} {cA : Nat → ClassId} {M M' : Mem} {L : LMem} {f : Nat → Int32} (hf : M' k = f) (hn : ∀ j, j ≠ k → M' j = M j) : (wd ad cA M L).set k (ad k, .inl (cA t, oln k, .inl f)) = wd ad cA M' L :=
  wd_set (oty_spec h ht).2 (by rw [am_int h ht h2 h4, hf]) (fun j _ hj => cel_congr (hn j hj))
theorem gx_iast (C : Ctx E y p s m args meth c) (hd : decode (am_B y) pc = .ok (.iastore, 1)) {k : Nat} {i x : Int32} (ha : aok k 0 i)
    (hk : GG E μ y Q p e s m args below meth c (pc + 1) lo st (mput M k i.toNatClampNeg x) L) : GG E μ y Q p e s m args below meth c pc lo (.int x :: .int i :: .ref k :: st) M L := by
  intro ls H locs hl hP hS
  obtain ⟨hx, hb, -, -, hown, hts, -, hK, -, hinj, -⟩ := C
  refine va_iast (D := E.2.1) (a := E.2.2.1 k) (cl := vwCl) (tys := am_tys E.2.2.2.1) hx hb hK hP (am_D hinj) hS k 0 (am_get_int ha.1 (by decide) (by decide) (by decide)) rfl ha.2 hd (fun H1 locs1 hP1 hD1 hS1 => ?_)
  have h7 := hP1
  rw [set_int (M' := mput M k i.toNatClampNeg x) ha.1 (by decide) (by decide) (by decide) mput_at (fun j hj => mput_ne hj)] at h7
  exact hk ls H1 locs1 hl h7 hS1
theorem gx_zast (C : Ctx E y p s m args meth c) (hd : decode (am_B y) pc = .ok (.bastore, 1)) {k : Nat} {i x : Int32} (ha : aok k 1 i)
    (hk : GG E μ y Q p e s m args below meth c (pc + 1) lo st (mput M k i.toNatClampNeg (vp_nar .boolean x)) L) : GG E μ y Q p e s m args below meth c pc lo (.int x :: .int i :: .ref k :: st) M L := by
  intro ls H locs hl hP hS
  obtain ⟨hx, hb, -, -, hown, hts, -, hK, -, hinj, -⟩ := C
  refine va_zast (D := E.2.1) (a := E.2.2.1 k) (cl := vwCl) (tys := am_tys E.2.2.2.1) hx hb hK hP (am_D hinj) hS k 1 (am_get_int ha.1 (by decide) (by decide) (by decide)) rfl ha.2 hd (fun H1 locs1 hP1 hD1 hS1 => ?_)
  have h7 := hP1
  rw [set_int (M' := mput M k i.toNatClampNeg (vp_nar .boolean x)) ha.1 (by decide) (by decide) (by decide) mput_at (fun j hj => mput_ne hj)] at h7
  exact hk ls H1 locs1 hl h7 hS1
theorem gx_bast (C : Ctx E y p s m args meth c) (hd : decode (am_B y) pc = .ok (.bastore, 1)) {k : Nat} {i x : Int32} (ha : aok k 3 i)
    (hk : GG E μ y Q p e s m args below meth c (pc + 1) lo st (mput M k i.toNatClampNeg (vp_nar .byte x)) L) : GG E μ y Q p e s m args below meth c pc lo (.int x :: .int i :: .ref k :: st) M L := by
  intro ls H locs hl hP hS
  obtain ⟨hx, hb, -, -, hown, hts, -, hK, -, hinj, -⟩ := C
  refine va_bast (D := E.2.1) (a := E.2.2.1 k) (cl := vwCl) (tys := am_tys E.2.2.2.1) hx hb hK hP (am_D hinj) hS k 3 (am_get_int ha.1 (by decide) (by decide) (by decide)) rfl ha.2 hd (fun H1 locs1 hP1 hD1 hS1 => ?_)
  have h7 := hP1
  rw [set_int (M' := mput M k i.toNatClampNeg (vp_nar .byte x)) ha.1 (by decide) (by decide) (by decide) mput_at (fun j hj => mput_ne hj)] at h7
  exact hk ls H1 locs1 hl h7 hS1
theorem gx_last (C : Ctx E y p s m args meth c) (hd : decode (am_B y) pc = .ok (.lastore, 1)) {k : Nat} {i : Int32} {x : Int64} (ha : aok k 2 i)
    (hk : GG E μ y Q p e s m args below meth c (pc + 1) lo st M (vp_updL L i.toNatClampNeg x)) : GG E μ y Q p e s m args below meth c pc lo (.long x :: .int i :: .ref k :: st) M L := by
  intro ls H locs hl hP hS
  obtain ⟨hx, hb, -, -, hown, hts, -, hK, -, hinj, -⟩ := C
  obtain ⟨hs, hkN⟩ := oty_spec ha.1 (by decide)
  refine va_last (D := E.2.1) (a := E.2.2.1 k) (cl := vwCl) (tys := am_tys E.2.2.2.1) (f := L) hx hb hK hP (am_D hinj) hS k 2 (by rw [wd_get hkN, cel_inr hs]; rfl) rfl ha.2 hd (fun H1 locs1 hP1 hD1 hS1 => ?_)
  have h7 := hP1
  rw [wd_set (M' := M) (L' := vp_updL L i.toNatClampNeg x) hkN (by rw [cel_inr hs]; rfl) (fun j hjN hj => ?_)] at h7
  · exact hk ls H1 locs1 hl h7 hS1
  · have hk56 := only_long k hkN _ hs
    cases hq : am_sh j with
    | inl z => rw [cel_inl hq, cel_inl hq]
    | inr z =>
      rw [cel_inr hq, cel_inr hq]
      have : ¬ z.1 = 2 := fun h => hj (by
        obtain ⟨z1, z2⟩ := z
        have h : z1 = 2 := h
        subst h
        rw [only_long j hjN _ hq, hk56])
      simp only [this, if_false]
theorem gx_alen (C : Ctx E y p s m args meth c) (hd : decode (am_B y) pc = .ok (.arraylength, 1)) {k : Nat} (ha : oty k < 5)
    (hk : GG E μ y Q p e s m args below meth c (pc + 1) lo (.int (Int32.ofNat (oln k)) :: st) M L) : GG E μ y Q p e s m args below meth c pc lo (.ref k :: st) M L := by
  intro ls H locs hl hP hS
  obtain ⟨hx, hb, -, -, hown, hts, -, hK, -, -, -⟩ := C
  obtain ⟨hs, hkN⟩ := oty_spec rfl ha
  have ht : (am_tys E.2.2.2.1)[oty k]? = some (E.2.2.2.1 (oty k), ([.int, .boolean, .long, .byte, .array .int] : List FieldType).getD (oty k) .int) := by
    revert ha
    generalize oty k = t
    intro ha
    match t, ha with
    | 0, _ => rfl
    | 1, _ => rfl
    | 2, _ => rfl
    | 3, _ => rfl
    | 4, _ => rfl
  exact va_alen (D := E.2.1) (a := E.2.2.1 k) (cl := vwCl) (tys := am_tys E.2.2.2.1) (x := (oln k, if oty k = 2 then .inr (.inl L) else if oty k = 4 then .inr (.inr (.inr (.inr fun i => if i < oln k then some (E.2.2.1 (k + 1 + i)) else none))) else .inl (M k))) hx hb hK hP k (oty k) (by rw [wd_get hkN, cel_inr hs]) ht rfl hd (hk ls H locs hl hP hS)
theorem gx_copy {d : Nat} (C : Ctx E y p s m args meth c) {i : Nat} (hd : decode (am_B y) pc = .ok (.invokestatic i, 3)) (hr : am_sp (am_O y) i = some 2) {ks kd : Nat} {sp dp n : Int32} (h1 : oty ks = 0) (h2 : oty kd = 0) (h3 : ¬ sp < 0) (h4 : ¬ dp < 0) (h5 : ¬ n < 0) (h6 : sp.toNatClampNeg + n.toNatClampNeg ≤ oln ks) (h7 : dp.toNatClampNeg + n.toNatClampNeg ≤ oln kd) (hc8 : csum st ≤ 8)
    (hk : GG E (nm d) y Q p e s m args below meth c (pc + 3) lo st (mcpy M ks kd sp.toNatClampNeg dp.toNatClampNeg n.toNatClampNeg) L) : GG E (nm d) y Q p e s m args below meth c pc lo (.int n :: .int dp :: .ref kd :: .int sp :: .ref ks :: st) M L := by
  intro ls H locs hl hP hS
  obtain ⟨hx, hb, -, hml, hown, hts, -, hK, -, hinj, -⟩ := C
  refine va_copyi (D := E.2.1) (cl := vwCl) (tys := am_tys E.2.2.2.1) (ty := .int) hx hb (by rw [hml, hl.1]) hown (hts _ (am_sp_spec hr).2) (hts _ (am_sys _ (by simp))) (hts _ (am_sys _ (by simp))) (hts _ (am_sys _ (by simp))) hK hP (am_D hinj) hS ks kd 0 0 (am_get_int h1 (by decide) (by decide) (by decide)) (am_get_int h2 (by decide) (by decide) (by decide)) rfl rfl rfl h3 h4 h5 h6 h7 (fun _ _ => rfl) (Nat.succ_pos _) ?_ hd (fun H1 locs1 hP1 hD1 hS1 => ?_)
  · rw [csum_eq]
    show csum st + (nativeFrameWords "java/lang/System" "arraycopy" 5 + 11) ≤ 64 * (d + 1)
    have : nativeFrameWords "java/lang/System" "arraycopy" 5 = 7 := by decide +kernel
    omega
  · have h8 := hP1
    rw [set_int (M' := mcpy M ks kd sp.toNatClampNeg dp.toNatClampNeg n.toNatClampNeg) h2 (by decide) (by decide) (by decide) mcpy_at (fun j hj => mcpy_ne hj)] at h8
    exact hk ls H1 locs1 hl h8 hS1
end STEP
end
section
/-! ===== straight stretches ===== -/
section SEG
variable {E : VE} {μ : MD} {y pc : Nat} {Q : QQ} {p : Program} {e : Env} {s : State} {m : MethodId} {args : Array Value} {below : List Frame} {meth : Method} {c : Code} {lo st : List Value} {M : Mem} {L : LMem}
/-- no method of the library's own -/
def nosp : Instr → Bool
  | .invokestatic _ => false
  | _ => true
set_option maxHeartbeats 4000000 in
theorem ex_sound (C : Ctx E y p s m args meth c) {j i : Instr} {len : Nat} (hd : decode (am_B y) pc = .ok (j, len)) (hr : am_res (am_O y) j = some (i, len)) {K : KK} (h : ex i lo st M L K) (hm : (∃ d, μ = nm d) ∨ nosp i = true)
    (hk : ∀ lo st M L, K lo st M L → GG E μ y Q p e s m args below meth c (pc + len) lo st M L) : GG E μ y Q p e s m args below meth c pc lo st M L := by
  have hx := C.1
  have hb := C.2.1
  have hml := C.2.2.2.1
  have hown := C.2.2.2.2.1
  have hts := C.2.2.2.2.2.1
  cases j with
  | iconst n =>
    cases hr
    intro ls H locs hl hP hS
    exact lv_iconst hx hb hd rfl (hk _ _ _ _ h ls H locs hl hP hS)
  | bipush n =>
    simp only [am_res] at hr
    split at hr
    · rename_i hq
      cases hr
      intro ls H locs hl hP hS
      exact lv_bipush hx hb hd hq (hk _ _ _ _ h ls H locs hl hP hS)
    · cases hr
  | sipush n =>
    simp only [am_res] at hr
    split at hr
    · rename_i hq
      cases hr
      intro ls H locs hl hP hS
      exact lv_sipush hx hb hd hq (hk _ _ _ _ h ls H locs hl hP hS)
    · cases hr
  | ldc i =>
    obtain ⟨v, hv, he⟩ := Option.map_eq_some_iff.mp hr
    cases he
    intro ls H locs hl hP hS
    exact lv_ldc hx hb hown (hts _ (am_ct_spec hv)) hd (hk _ _ _ _ h ls H locs hl hP hS)
  | ldc_w i =>
    obtain ⟨v, hv, he⟩ := Option.map_eq_some_iff.mp hr
    cases he
    intro ls H locs hl hP hS
    exact lv_ldcw hx hb hown (hts _ (am_ct_spec hv)) hd (hk _ _ _ _ h ls H locs hl hP hS)
  | ldc2_w i => exact absurd hr (by simp [am_res, am_cl, am_find3, am_CL])
  | lconst n =>
    cases hr
    intro ls H locs hl hP hS
    exact lv_lconst hx hb hd rfl (hk _ _ _ _ h ls H locs hl hP hS)
  | iload_n k =>
    cases hr
    obtain ⟨x, hx1, h⟩ := isI_inv h
    intro ls H locs hl hP hS
    exact lv_iload_n hx hb hd rfl (hl.at hx1 (by intro q; cases q)) (hk _ _ _ _ h ls H locs hl hP hS)
  | iload k =>
    cases hr
    obtain ⟨x, hx1, h⟩ := isI_inv h
    intro ls H locs hl hP hS
    exact lv_iload hx hb hd (hl.at hx1 (by intro q; cases q)) (hk _ _ _ _ h ls H locs hl hP hS)
  | aload_n k =>
    cases hr
    obtain ⟨x, hx1, h⟩ := isR_inv h
    intro ls H locs hl hP hS
    exact lv_aload_n hx hb hd rfl (hl.at hx1 (by intro q; cases q)) (hk _ _ _ _ h ls H locs hl hP hS)
  | aload k =>
    cases hr
    obtain ⟨x, hx1, h⟩ := isR_inv h
    intro ls H locs hl hP hS
    exact lv_aload hx hb hd (hl.at hx1 (by intro q; cases q)) (hk _ _ _ _ h ls H locs hl hP hS)
  | lload_n k =>
    cases hr
    obtain ⟨x, hx1, h⟩ := isJ_inv h
    intro ls H locs hl hP hS
    exact lv_lload_n hx hb hd rfl (hl.at hx1 (by intro q; cases q)) (hk _ _ _ _ h ls H locs hl hP hS)
  | lload k =>
    cases hr
    obtain ⟨x, hx1, h⟩ := isJ_inv h
    intro ls H locs hl hP hS
    exact lv_lload hx hb hd (hl.at hx1 (by intro q; cases q)) (hk _ _ _ _ h ls H locs hl hP hS)
  | istore_n k =>
    cases hr
    obtain ⟨x, st, rfl, h⟩ := pI_inv h
    obtain ⟨hq, h⟩ := bif_inv h
    intro ls H locs hl hP hS
    exact lv_istore_n hx hb hd rfl hl.has (by rw [← hl.2.1]; exact (lok_spec hq).1) rfl (fun ls' hl' => hk _ _ _ _ h ls' H locs (hl.set1 hq hl') hP hS)
  | istore k =>
    cases hr
    obtain ⟨x, st, rfl, h⟩ := pI_inv h
    obtain ⟨hq, h⟩ := bif_inv h
    intro ls H locs hl hP hS
    exact lv_istore hx hb hd hl.has (by rw [← hl.2.1]; exact (lok_spec hq).1) rfl (fun ls' hl' => hk _ _ _ _ h ls' H locs (hl.set1 hq hl') hP hS)
  | astore_n k =>
    cases hr
    obtain ⟨x, st, rfl, h⟩ := pR_inv h
    obtain ⟨hq, h⟩ := bif_inv h
    intro ls H locs hl hP hS
    exact lv_astore_n hx hb hd rfl hl.has (by rw [← hl.2.1]; exact (lok_spec hq).1) rfl (fun ls' hl' => hk _ _ _ _ h ls' H locs (hl.set1 hq hl') hP hS)
  | astore k =>
    cases hr
    obtain ⟨x, st, rfl, h⟩ := pR_inv h
    obtain ⟨hq, h⟩ := bif_inv h
    intro ls H locs hl hP hS
    exact lv_astore hx hb hd hl.has (by rw [← hl.2.1]; exact (lok_spec hq).1) rfl (fun ls' hl' => hk _ _ _ _ h ls' H locs (hl.set1 hq hl') hP hS)
  | lstore_n k =>
    cases hr
    obtain ⟨x, st, rfl, h⟩ := pJ_inv h
    obtain ⟨hq, h⟩ := bif_inv h
    rw [Bool.and_eq_true] at hq
    intro ls H locs hl hP hS
    exact lv_lstore_n hx hb hd rfl hl.has (by rw [← hl.2.1]; exact llt_spec _ _ hq.2) rfl (fun ls' hl' => hk _ _ _ _ h ls' H locs (hl.set2 hq.1 hq.2 hl') hP hS)
  | lstore k =>
    cases hr
    obtain ⟨x, st, rfl, h⟩ := pJ_inv h
    obtain ⟨hq, h⟩ := bif_inv h
    rw [Bool.and_eq_true] at hq
    intro ls H locs hl hP hS
    exact lv_lstore hx hb hd hl.has (by rw [← hl.2.1]; exact llt_spec _ _ hq.2) rfl (fun ls' hl' => hk _ _ _ _ h ls' H locs (hl.set2 hq.1 hq.2 hl') hP hS)
  | iinc i n =>
    cases hr
    obtain ⟨x, hx1, h⟩ := isI_inv h
    obtain ⟨hq, h⟩ := bif_inv h
    intro ls H locs hl hP hS
    obtain ⟨k, hk1⟩ := List.getElem?_of_mem (aso_in (ad := E.2.2.1) (lget_some _ _ _ hx1 (by intro q; cases q)) (by intro q; cases q))
    exact lv_iinc hx hb hd hl.has hk1 rfl (by rw [← hl.2.1]; exact (lok_spec hq).1) rfl (fun ls' hl' => hk _ _ _ _ h ls' H locs (hl.set1 hq hl') hP hS)
  | iadd =>
    cases hr
    obtain ⟨v1, st, rfl, h⟩ := pI_inv h
    obtain ⟨v2, st, rfl, h⟩ := pI_inv h
    intro ls H locs hl hP hS
    exact lv_iadd hx hb hd (hk _ _ _ _ h ls H locs hl hP hS)
  | isub =>
    cases hr
    obtain ⟨v1, st, rfl, h⟩ := pI_inv h
    obtain ⟨v2, st, rfl, h⟩ := pI_inv h
    intro ls H locs hl hP hS
    exact lv_isub hx hb hd (hk _ _ _ _ h ls H locs hl hP hS)
  | imul =>
    cases hr
    obtain ⟨v1, st, rfl, h⟩ := pI_inv h
    obtain ⟨v2, st, rfl, h⟩ := pI_inv h
    intro ls H locs hl hP hS
    exact lv_imul hx hb hd (hk _ _ _ _ h ls H locs hl hP hS)
  | iand =>
    cases hr
    obtain ⟨v1, st, rfl, h⟩ := pI_inv h
    obtain ⟨v2, st, rfl, h⟩ := pI_inv h
    intro ls H locs hl hP hS
    exact lv_iand hx hb hd (hk _ _ _ _ h ls H locs hl hP hS)
  | ior =>
    cases hr
    obtain ⟨v1, st, rfl, h⟩ := pI_inv h
    obtain ⟨v2, st, rfl, h⟩ := pI_inv h
    intro ls H locs hl hP hS
    exact lv_ior hx hb hd (hk _ _ _ _ h ls H locs hl hP hS)
  | ixor =>
    cases hr
    obtain ⟨v1, st, rfl, h⟩ := pI_inv h
    obtain ⟨v2, st, rfl, h⟩ := pI_inv h
    intro ls H locs hl hP hS
    exact lv_ixor hx hb hd (hk _ _ _ _ h ls H locs hl hP hS)
  | ishl =>
    cases hr
    obtain ⟨v1, st, rfl, h⟩ := pI_inv h
    obtain ⟨v2, st, rfl, h⟩ := pI_inv h
    intro ls H locs hl hP hS
    exact lv_ishl hx hb hd (hk _ _ _ _ h ls H locs hl hP hS)
  | ishr =>
    cases hr
    obtain ⟨v1, st, rfl, h⟩ := pI_inv h
    obtain ⟨v2, st, rfl, h⟩ := pI_inv h
    intro ls H locs hl hP hS
    exact lv_ishr hx hb hd (hk _ _ _ _ h ls H locs hl hP hS)
  | idiv =>
    cases hr
    obtain ⟨v1, st, rfl, h⟩ := pI_inv h
    obtain ⟨v2, st, rfl, h⟩ := pI_inv h
    intro ls H locs hl hP hS
    exact lv_idiv hx hb hd h.1 (hk _ _ _ _ h.2 ls H locs hl hP hS)
  | irem =>
    cases hr
    obtain ⟨v1, st, rfl, h⟩ := pI_inv h
    obtain ⟨v2, st, rfl, h⟩ := pI_inv h
    intro ls H locs hl hP hS
    exact lv_irem hx hb hd h.1 (hk _ _ _ _ h.2 ls H locs hl hP hS)
  | iushr =>
    cases hr
    obtain ⟨v1, st, rfl, h⟩ := pI_inv h
    obtain ⟨v2, st, rfl, h⟩ := pI_inv h
    intro ls H locs hl hP hS
    exact lv_iushr hx hb hd rfl (hk _ _ _ _ h ls H locs hl hP hS)
  | lshl =>
    cases hr
    obtain ⟨v1, st, rfl, h⟩ := pI_inv h
    obtain ⟨v2, st, rfl, h⟩ := pJ_inv h
    intro ls H locs hl hP hS
    exact lv_lshl hx hb hd rfl (hk _ _ _ _ h ls H locs hl hP hS)
  | lor =>
    cases hr
    obtain ⟨v1, st, rfl, h⟩ := pJ_inv h
    obtain ⟨v2, st, rfl, h⟩ := pJ_inv h
    intro ls H locs hl hP hS
    exact lv_lor hx hb hd (hk _ _ _ _ h ls H locs hl hP hS)
  | land =>
    cases hr
    obtain ⟨v1, st, rfl, h⟩ := pJ_inv h
    obtain ⟨v2, st, rfl, h⟩ := pJ_inv h
    intro ls H locs hl hP hS
    exact lv_land hx hb hd (hk _ _ _ _ h ls H locs hl hP hS)
  | lsub =>
    cases hr
    obtain ⟨v1, st, rfl, h⟩ := pJ_inv h
    obtain ⟨v2, st, rfl, h⟩ := pJ_inv h
    intro ls H locs hl hP hS
    exact lv_lsub hx hb hd (hk _ _ _ _ h ls H locs hl hP hS)
  | lcmp =>
    cases hr
    obtain ⟨v1, st, rfl, h⟩ := pJ_inv h
    obtain ⟨v2, st, rfl, h⟩ := pJ_inv h
    intro ls H locs hl hP hS
    exact W.lcmp hx hb hd (hk _ _ _ _ h ls H locs hl hP hS)
  | i2l =>
    cases hr
    obtain ⟨v1, st, rfl, h⟩ := pI_inv h
    intro ls H locs hl hP hS
    exact lv_i2l hx hb hd rfl (hk _ _ _ _ h ls H locs hl hP hS)
  | i2b =>
    cases hr
    obtain ⟨v1, st, rfl, h⟩ := pI_inv h
    intro ls H locs hl hP hS
    exact lv_i2b hx hb hd rfl (hk _ _ _ _ h ls H locs hl hP hS)
  | dup =>
    cases hr
    intro ls H locs hl hP hS
    cases st with
    | nil => exact False.elim h
    | cons v st => cases v <;> first | exact False.elim h | exact lv_dup hx hb hd rfl (hk _ _ _ _ h ls H locs hl hP hS)
  | dup2 =>
    cases hr
    obtain ⟨v1, st, rfl, h⟩ := pI_inv h
    obtain ⟨v2, st, rfl, h⟩ := pR_inv h
    intro ls H locs hl hP hS
    exact lv_dup2_11 hx hb hd rfl rfl (hk _ _ _ _ h ls H locs hl hP hS)
  | pop =>
    cases hr
    obtain ⟨v1, st, rfl, h⟩ := pI_inv h
    intro ls H locs hl hP hS
    exact lv_pop hx hb hd rfl (hk _ _ _ _ h ls H locs hl hP hS)
  | getfield i =>
    obtain ⟨⟨ci, k⟩, hv, he⟩ := Option.map_eq_some_iff.mp hr
    cases he
    obtain ⟨-, -, -, hci, hk64⟩ := am_fl_spec hv
    have e1 : (64 * ci + k) / 64 = ci := by omega
    have e2 : (64 * ci + k) % 64 = k := by omega
    obtain ⟨k1, st, rfl, h⟩ := pR_inv h
    obtain ⟨hq, h⟩ := bif_inv h
    rw [Bool.and_eq_true] at hq
    exact gx_get (n := 64 * ci + k) C hd (by rw [e1, e2]; exact hv) (Nat.eq_of_beq_eq_true hq.1) (Nat.blt_eq.mp hq.2) (hk _ _ _ _ h)
  | putfield i =>
    obtain ⟨⟨ci, k⟩, hv, he⟩ := Option.map_eq_some_iff.mp hr
    cases he
    obtain ⟨-, -, -, hci, hk64⟩ := am_fl_spec hv
    have e1 : (64 * ci + k) / 64 = ci := by omega
    have e2 : (64 * ci + k) % 64 = k := by omega
    obtain ⟨x, st, rfl, h⟩ := pI_inv h
    obtain ⟨k1, st, rfl, h⟩ := pR_inv h
    obtain ⟨hq, h⟩ := bif_inv h
    rw [Bool.and_eq_true, Bool.and_eq_true] at hq
    have hn : lopt (ofs k1) ((64 * ci + k) % 64) = none := by
      cases hz : lopt (ofs k1) ((64 * ci + k) % 64) with
      | none => rfl
      | some t => rw [hz] at hq; cases hq.2
    rcases bif_inv2 h with ⟨h4, h⟩ | ⟨-, h⟩
    · exact gx_put (n := 64 * ci + k) (b := 0) C hd (by rw [e1, e2]; exact hv) (Nat.eq_of_beq_eq_true hq.1.1) (Nat.blt_eq.mp hq.1.2) hn (Nat.eq_of_beq_eq_true h4) (by decide) (fun q => by cases q) (hk _ _ _ _ h)
    · obtain ⟨h4, h⟩ := bif_inv h
      exact gx_put (n := 64 * ci + k) (b := 1) C hd (by rw [e1, e2]; exact hv) (Nat.eq_of_beq_eq_true hq.1.1) (Nat.blt_eq.mp hq.1.2) hn (Nat.eq_of_beq_eq_true h4) (by decide) (fun _ => h.1) (hk _ _ _ _ h.2)
  | iaload =>
    cases hr
    obtain ⟨i, st, rfl, h⟩ := pI_inv h
    obtain ⟨k, st, rfl, h⟩ := pR_inv h
    exact gx_iald C hd h.1 (hk _ _ _ _ h.2)
  | baload =>
    cases hr
    obtain ⟨i, st, rfl, h⟩ := pI_inv h
    obtain ⟨k, st, rfl, h⟩ := pR_inv h
    exact gx_bald C hd h.1 (hk _ _ _ _ h.2)
  | laload =>
    cases hr
    obtain ⟨i, st, rfl, h⟩ := pI_inv h
    obtain ⟨k, st, rfl, h⟩ := pR_inv h
    exact gx_lald C hd h.1 (hk _ _ _ _ h.2)
  | aaload =>
    cases hr
    obtain ⟨i, st, rfl, h⟩ := pI_inv h
    obtain ⟨k, st, rfl, h⟩ := pR_inv h
    exact gx_aald C hd h.1 (hk _ _ _ _ h.2)
  | iastore =>
    cases hr
    obtain ⟨x, st, rfl, h⟩ := pI_inv h
    obtain ⟨i, st, rfl, h⟩ := pI_inv h
    obtain ⟨k, st, rfl, h⟩ := pR_inv h
    exact gx_iast C hd h.1 (hk _ _ _ _ h.2)
  | lastore =>
    cases hr
    obtain ⟨x, st, rfl, h⟩ := pJ_inv h
    obtain ⟨i, st, rfl, h⟩ := pI_inv h
    obtain ⟨k, st, rfl, h⟩ := pR_inv h
    exact gx_last C hd h.1 (hk _ _ _ _ h.2)
  | bastore =>
    cases hr
    obtain ⟨x, st, rfl, h⟩ := pI_inv h
    obtain ⟨i, st, rfl, h⟩ := pI_inv h
    obtain ⟨k, st, rfl, h⟩ := pR_inv h
    rcases h with h | h
    · exact gx_zast C hd h.1 (hk _ _ _ _ h.2)
    · exact gx_bast C hd h.1 (hk _ _ _ _ h.2)
  | arraylength =>
    cases hr
    obtain ⟨k, st, rfl, h⟩ := pR_inv h
    obtain ⟨hq, h⟩ := bif_inv h
    exact gx_alen C hd (Nat.blt_eq.mp hq) (hk _ _ _ _ h)
  | invokestatic i =>
    obtain ⟨w, hv, he⟩ := Option.map_eq_some_iff.mp hr
    cases he
    obtain ⟨hw3, hlink⟩ := am_sp_spec hv
    obtain ⟨d, rfl⟩ : ∃ d, μ = nm d := by
      rcases hm with hm | hm
      · exact hm
      · cases hm
    match w, hw3, h, hv, hlink with
    | 0, _, h, hv, hlink =>
      obtain ⟨v1, st, rfl, h⟩ := pI_inv h
      obtain ⟨v2, st, rfl, h⟩ := pI_inv h
      obtain ⟨hq, h⟩ := bif_inv h
      intro ls H locs hl hP hS
      refine va_mmax hx hb (by rw [hml, hl.1]) hown (hts _ hlink) (hts _ (am_sys _ (by simp))) (hts _ (am_sys _ (by simp))) (hts _ (am_sys _ (by simp))) (show 1 ≤ (am_rm d).frames from Nat.succ_pos _) ?_ (Nat.zero_le _) (Nat.zero_le _) hd (hk _ _ _ _ h ls H locs hl hP hS)
      rw [csum_eq]
      have := Nat.le_of_ble_eq_true hq
      show csum st + 13 ≤ 64 * (d + 1)
      omega
    | 1, _, h, hv, hlink =>
      obtain ⟨v1, st, rfl, h⟩ := pI_inv h
      obtain ⟨v2, st, rfl, h⟩ := pI_inv h
      obtain ⟨hq, h⟩ := bif_inv h
      intro ls H locs hl hP hS
      refine va_mmin hx hb (by rw [hml, hl.1]) hown (hts _ hlink) (hts _ (am_sys _ (by simp))) (hts _ (am_sys _ (by simp))) (hts _ (am_sys _ (by simp))) (show 1 ≤ (am_rm d).frames from Nat.succ_pos _) ?_ (Nat.zero_le _) (Nat.zero_le _) hd (hk _ _ _ _ h ls H locs hl hP hS)
      rw [csum_eq]
      have := Nat.le_of_ble_eq_true hq
      show csum st + 13 ≤ 64 * (d + 1)
      omega
    | 2, _, h, hv, hlink =>
      obtain ⟨n, st, rfl, h⟩ := pI_inv h
      obtain ⟨dp, st, rfl, h⟩ := pI_inv h
      obtain ⟨kd, st, rfl, h⟩ := pR_inv h
      obtain ⟨sp, st, rfl, h⟩ := pI_inv h
      obtain ⟨ks, st, rfl, h⟩ := pR_inv h
      obtain ⟨hq, h⟩ := bif_inv h
      obtain ⟨⟨h1, h2, h3, h4, h5, h6, h7⟩, h⟩ := h
      exact gx_copy C hd hv h1 h2 h3 h4 h5 h6 h7 (Nat.le_of_ble_eq_true hq) (hk _ _ _ _ h)
  | _ => exact absurd hr (by simp [am_res])
theorem seg_sound (C : Ctx E y p s m args meth c) {K : KK} {pc' : Nat} : ∀ (is : List Instr) (pc : Nat) (lo st : List Value) (M : Mem) (L : LMem), ((∃ d, μ = nm d) ∨ is.all nosp = true) → segc (am_B y) (am_O y) is pc = some pc' → exs is lo st M L K →
    (∀ lo st M L, K lo st M L → GG E μ y Q p e s m args below meth c pc' lo st M L) → GG E μ y Q p e s m args below meth c pc lo st M L := by
  intro is
  induction is with
  | nil =>
    intro pc lo st M L _ hs h hk
    cases hs
    exact hk _ _ _ _ h
  | cons i is ih =>
    intro pc lo st M L hm hs h hk
    have hm1 : (∃ d, μ = nm d) ∨ nosp i = true := hm.imp id (fun h => by
      rw [List.all_cons, Bool.and_eq_true] at h
      exact h.1)
    have hm2 : (∃ d, μ = nm d) ∨ is.all nosp = true := hm.imp id (fun h => by
      rw [List.all_cons, Bool.and_eq_true] at h
      exact h.2)
    unfold segc at hs
    split at hs
    · rename_i off hd
      split at hs
      · rename_i hq
        obtain ⟨rfl, hge⟩ := hq
        have hG := ih _ lo st M L hm2 hs (show exs is lo st M L K from h) hk
        intro ls H locs hl hP hS
        exact lv_goto C.1 C.2.1 (off := off) hd (by omega) (hG ls H locs hl hP hS)
      · cases hs
    · rename_i j len hne hd
      split at hs
      · rename_i hq
        exact ex_sound C hd hq (show ex i lo st M L (fun lo st M L => exs is lo st M L K) from h) hm1 (fun lo st M L h1 => ih _ lo st M L hm2 hs h1 hk)
      · cases hs
    · cases hs
theorem wp_seg {d : Nat} (is : List Instr) {pc' : Nat} (hs : segc (am_B y) (am_O y) is pc = some pc') (h : exs is lo st M L (fun lo st M L => Wp E d y pc' lo st M L Q)) : Wp E d y pc lo st M L Q :=
  fun p e s m args below meth c C => seg_sound C is pc lo st M L (Or.inl ⟨d, rfl⟩) hs h (fun lo st M L h1 => h1 p e s m args below meth c C)
theorem wr_seg (is : List Instr) {pc' : Nat} (hs : segc (am_B LAW) (am_O LAW) is pc = some pc') (hn : is.all nosp = true) (h : exs is lo st M L (fun lo st M L => Wr E pc' lo st M L)) : Wr E pc lo st M L :=
  fun p e s m args below meth c C => seg_sound C is pc lo st M L (Or.inr hn) hs h (fun lo st M L h1 => h1 p e s m args below meth c C)
end SEG
end
section
/-! ===== branches, ends, calls ===== -/
section RULES
variable {E : VE} {μ : MD} {d y pc : Nat} {Q : QQ} {lo st : List Value} {M : Mem} {L : LMem}
theorem wp_ifeq {x : Int32} {off : Int} (tgt : Nat) (hd : decode (am_B y) pc = .ok (.ifCond .eq off, 3)) (ht : (pc : Int) + off = (tgt : Int)) (kt : x = 0 → Wm E μ y tgt lo st M L Q) (kf : ¬ x = 0 → Wm E μ y (pc + 3) lo st M L Q) : Wm E μ y pc lo (.int x :: st) M L Q :=
  fun p e s m args below meth c C ls H locs hl hP hS => lv_if_eq C.1 C.2.1 hd ht (fun h => kt h p e s m args below meth c C ls H locs hl hP hS) (fun h => kf h p e s m args below meth c C ls H locs hl hP hS)
theorem wp_ifne {x : Int32} {off : Int} (tgt : Nat) (hd : decode (am_B y) pc = .ok (.ifCond .ne off, 3)) (ht : (pc : Int) + off = (tgt : Int)) (kt : ¬ x = 0 → Wm E μ y tgt lo st M L Q) (kf : x = 0 → Wm E μ y (pc + 3) lo st M L Q) : Wm E μ y pc lo (.int x :: st) M L Q :=
  fun p e s m args below meth c C ls H locs hl hP hS => lv_if_ne C.1 C.2.1 hd ht (fun h => kt h p e s m args below meth c C ls H locs hl hP hS) (fun h => kf h p e s m args below meth c C ls H locs hl hP hS)
theorem wp_iflt {x : Int32} {off : Int} (tgt : Nat) (hd : decode (am_B y) pc = .ok (.ifCond .lt off, 3)) (ht : (pc : Int) + off = (tgt : Int)) (kt : x < 0 → Wm E μ y tgt lo st M L Q) (kf : ¬ x < 0 → Wm E μ y (pc + 3) lo st M L Q) : Wm E μ y pc lo (.int x :: st) M L Q :=
  fun p e s m args below meth c C ls H locs hl hP hS => lv_if_lt C.1 C.2.1 hd ht (fun h => kt h p e s m args below meth c C ls H locs hl hP hS) (fun h => kf h p e s m args below meth c C ls H locs hl hP hS)
theorem wp_ifge {x : Int32} {off : Int} (tgt : Nat) (hd : decode (am_B y) pc = .ok (.ifCond .ge off, 3)) (ht : (pc : Int) + off = (tgt : Int)) (kt : 0 ≤ x → Wm E μ y tgt lo st M L Q) (kf : ¬ 0 ≤ x → Wm E μ y (pc + 3) lo st M L Q) : Wm E μ y pc lo (.int x :: st) M L Q :=
  fun p e s m args below meth c C ls H locs hl hP hS => lv_if_ge C.1 C.2.1 hd ht (fun h => kt h p e s m args below meth c C ls H locs hl hP hS) (fun h => kf h p e s m args below meth c C ls H locs hl hP hS)
theorem wp_ifgt {x : Int32} {off : Int} (tgt : Nat) (hd : decode (am_B y) pc = .ok (.ifCond .gt off, 3)) (ht : (pc : Int) + off = (tgt : Int)) (kt : 0 < x → Wm E μ y tgt lo st M L Q) (kf : ¬ 0 < x → Wm E μ y (pc + 3) lo st M L Q) : Wm E μ y pc lo (.int x :: st) M L Q :=
  fun p e s m args below meth c C ls H locs hl hP hS => lv_if_gt C.1 C.2.1 hd ht (fun h => kt h p e s m args below meth c C ls H locs hl hP hS) (fun h => kf h p e s m args below meth c C ls H locs hl hP hS)
theorem wp_ifle {x : Int32} {off : Int} (tgt : Nat) (hd : decode (am_B y) pc = .ok (.ifCond .le off, 3)) (ht : (pc : Int) + off = (tgt : Int)) (kt : x ≤ 0 → Wm E μ y tgt lo st M L Q) (kf : ¬ x ≤ 0 → Wm E μ y (pc + 3) lo st M L Q) : Wm E μ y pc lo (.int x :: st) M L Q :=
  fun p e s m args below meth c C ls H locs hl hP hS => lv_if_le C.1 C.2.1 hd ht (fun h => kt h p e s m args below meth c C ls H locs hl hP hS) (fun h => kf h p e s m args below meth c C ls H locs hl hP hS)
theorem wp_icmpeq {x y2 : Int32} {off : Int} (tgt : Nat) (hd : decode (am_B y) pc = .ok (.if_icmp .eq off, 3)) (ht : (pc : Int) + off = (tgt : Int)) (kt : x = y2 → Wm E μ y tgt lo st M L Q) (kf : ¬ x = y2 → Wm E μ y (pc + 3) lo st M L Q) : Wm E μ y pc lo (.int y2 :: .int x :: st) M L Q :=
  fun p e s m args below meth c C ls H locs hl hP hS => lv_icmp_eq C.1 C.2.1 hd ht (fun h => kt h p e s m args below meth c C ls H locs hl hP hS) (fun h => kf h p e s m args below meth c C ls H locs hl hP hS)
theorem wp_icmpne {x y2 : Int32} {off : Int} (tgt : Nat) (hd : decode (am_B y) pc = .ok (.if_icmp .ne off, 3)) (ht : (pc : Int) + off = (tgt : Int)) (kt : ¬ x = y2 → Wm E μ y tgt lo st M L Q) (kf : x = y2 → Wm E μ y (pc + 3) lo st M L Q) : Wm E μ y pc lo (.int y2 :: .int x :: st) M L Q :=
  fun p e s m args below meth c C ls H locs hl hP hS => lv_icmp_ne C.1 C.2.1 hd ht (fun h => kt h p e s m args below meth c C ls H locs hl hP hS) (fun h => kf h p e s m args below meth c C ls H locs hl hP hS)
theorem wp_icmplt {x y2 : Int32} {off : Int} (tgt : Nat) (hd : decode (am_B y) pc = .ok (.if_icmp .lt off, 3)) (ht : (pc : Int) + off = (tgt : Int)) (kt : x < y2 → Wm E μ y tgt lo st M L Q) (kf : ¬ x < y2 → Wm E μ y (pc + 3) lo st M L Q) : Wm E μ y pc lo (.int y2 :: .int x :: st) M L Q :=
  fun p e s m args below meth c C ls H locs hl hP hS => lv_icmp_lt C.1 C.2.1 hd ht (fun h => kt h p e s m args below meth c C ls H locs hl hP hS) (fun h => kf h p e s m args below meth c C ls H locs hl hP hS)
theorem wp_icmpge {x y2 : Int32} {off : Int} (tgt : Nat) (hd : decode (am_B y) pc = .ok (.if_icmp .ge off, 3)) (ht : (pc : Int) + off = (tgt : Int)) (kt : y2 ≤ x → Wm E μ y tgt lo st M L Q) (kf : ¬ y2 ≤ x → Wm E μ y (pc + 3) lo st M L Q) : Wm E μ y pc lo (.int y2 :: .int x :: st) M L Q :=
  fun p e s m args below meth c C ls H locs hl hP hS => lv_icmp_ge C.1 C.2.1 hd ht (fun h => kt h p e s m args below meth c C ls H locs hl hP hS) (fun h => kf h p e s m args below meth c C ls H locs hl hP hS)
theorem wp_icmpgt {x y2 : Int32} {off : Int} (tgt : Nat) (hd : decode (am_B y) pc = .ok (.if_icmp .gt off, 3)) (ht : (pc : Int) + off = (tgt : Int)) (kt : y2 < x → Wm E μ y tgt lo st M L Q) (kf : ¬ y2 < x → Wm E μ y (pc + 3) lo st M L Q) : Wm E μ y pc lo (.int y2 :: .int x :: st) M L Q :=
  fun p e s m args below meth c C ls H locs hl hP hS => lv_icmp_gt C.1 C.2.1 hd ht (fun h => kt h p e s m args below meth c C ls H locs hl hP hS) (fun h => kf h p e s m args below meth c C ls H locs hl hP hS)
theorem wp_icmple {x y2 : Int32} {off : Int} (tgt : Nat) (hd : decode (am_B y) pc = .ok (.if_icmp .le off, 3)) (ht : (pc : Int) + off = (tgt : Int)) (kt : x ≤ y2 → Wm E μ y tgt lo st M L Q) (kf : ¬ x ≤ y2 → Wm E μ y (pc + 3) lo st M L Q) : Wm E μ y pc lo (.int y2 :: .int x :: st) M L Q :=
  fun p e s m args below meth c C ls H locs hl hP hS => lv_icmp_le C.1 C.2.1 hd ht (fun h => kt h p e s m args below meth c C ls H locs hl hP hS) (fun h => kf h p e s m args below meth c C ls H locs hl hP hS)
theorem wp_tabIn {dflt lo2 hi : Int} {offs : Array Int} {len : Nat} {x : Int32} {off : Int} (tgt : Nat) (hd : decode (am_B y) pc = .ok (.tableswitch dflt lo2 hi offs, len)) (h1 : ¬ x.toInt < lo2) (h2 : ¬ hi < x.toInt) (ho : offs[(x.toInt - lo2).toNat]? = some off) (ht : (pc : Int) + off = (tgt : Int)) (kt : Wm E μ y tgt lo st M L Q) : Wm E μ y pc lo (.int x :: st) M L Q :=
  fun p e s m args below meth c C ls H locs hl hP hS => lv_tableIn C.1 C.2.1 hd h1 h2 ho ht (kt p e s m args below meth c C ls H locs hl hP hS)
theorem wp_tabOut {dflt lo2 hi : Int} {offs : Array Int} {len : Nat} {x : Int32} (tgt : Nat) (hd : decode (am_B y) pc = .ok (.tableswitch dflt lo2 hi offs, len)) (h : x.toInt < lo2 ∨ hi < x.toInt) (ht : (pc : Int) + dflt = (tgt : Int)) (kt : Wm E μ y tgt lo st M L Q) : Wm E μ y pc lo (.int x :: st) M L Q :=
  fun p e s m args below meth c C ls H locs hl hP hS => lv_tableOut C.1 C.2.1 hd h ht (kt p e s m args below meth c C ls H locs hl hP hS)
theorem wp_iret {v : Int32} (hd : decode (am_B y) pc = .ok (.ireturn, 1)) (hr : am_R y = some .int) (h : Q (some (.int v)) M L) : Wp E d y pc lo [.int v] M L Q :=
  fun p e s m args below meth c C ls H locs hl hP hS => by
    have hlocks : meth.locks = false := C.2.2.2.2.2.2.2.2.1
    exact W.iret (v := v) C.1 C.2.1 (C.2.2.1.trans hr) (fun t ht _ => ⟨⟨some (.int v), M, L, rfl, h, by rw [ht]; exact hP⟩, hS.F ht⟩) hS.2.2 hd hlocks
theorem wp_zret {v : Int32} (hd : decode (am_B y) pc = .ok (.ireturn, 1)) (hr : am_R y = some .boolean) (h01 : v = 0 ∨ v = 1) (h : Q (some (.int v)) M L) : Wp E d y pc lo [.int v] M L Q :=
  fun p e s m args below meth c C ls H locs hl hP hS => by
    have hlocks : meth.locks = false := C.2.2.2.2.2.2.2.2.1
    exact W.zret (v := v) C.1 C.2.1 (C.2.2.1.trans hr) (by rcases h01 with rfl | rfl <;> decide) (fun t ht _ => ⟨⟨some (.int v), M, L, rfl, h, by rw [ht]; exact hP⟩, hS.F ht⟩) hS.2.2 hd hlocks
theorem wp_lret {v : Int64} (hd : decode (am_B y) pc = .ok (.lreturn, 1)) (hr : am_R y = some .long) (h : Q (some (.long v)) M L) : Wp E d y pc lo [.long v] M L Q :=
  fun p e s m args below meth c C ls H locs hl hP hS => by
    have hlocks : meth.locks = false := C.2.2.2.2.2.2.2.2.1
    exact W.lret (v := v) C.1 C.2.1 (C.2.2.1.trans hr) (fun t ht _ => ⟨⟨some (.long v), M, L, rfl, h, by rw [ht]; exact hP⟩, hS.F ht⟩) hS.2.2 hd hlocks
theorem wp_aret {k : Nat} (hd : decode (am_B y) pc = .ok (.areturn, 1)) {nm : String} (hr : am_R y = some (.object nm)) (h : Q (some (.ref k)) M L) : Wp E d y pc lo [.ref k] M L Q :=
  fun p e s m args below meth c C ls H locs hl hP hS => by
    have hlocks : meth.locks = false := C.2.2.2.2.2.2.2.2.1
    exact W.aret (v := .ref (E.2.2.1 k)) C.1 C.2.1 (C.2.2.1.trans hr) (Or.inl ⟨_, rfl⟩) (Or.inr ⟨_, rfl⟩) (fun t ht _ => ⟨⟨some (.ref k), M, L, rfl, h, by rw [ht]; exact hP⟩, hS.F ht⟩) hS.2.2 hd hlocks
theorem wp_vret (hd : decode (am_B y) pc = .ok (.return_, 1)) (hr : am_R y = none) (h : Q none M L) : Wp E d y pc lo [] M L Q :=
  fun p e s m args below meth c C ls H locs hl hP hS => by
    have hlocks : meth.locks = false := C.2.2.2.2.2.2.2.2.1
    exact W.vret C.1 C.2.1 (C.2.2.1.trans hr) (fun t ht _ => ⟨⟨none, M, L, rfl, h, by rw [ht]; exact hP⟩, hS.F ht⟩) hS.2.2 hd hlocks
theorem Wp.mono {Q' : QQ} (h : Wp E d y pc lo st M L Q') (hq : ∀ r M L, Q' r M L → Q r M L) : Wp E d y pc lo st M L Q := by
  intro p e s m args below meth c C ls H locs hl hP hS T hT X
  obtain ⟨t, a, o, b1, b2, ⟨⟨r, M1, L1, c1, c2, c3⟩, c4⟩, b4⟩ := h p e s m args below meth c C ls H locs hl hP hS T hT X
  exact ⟨t, a, o, b1, b2, ⟨⟨r, M1, L1, c1, hq _ _ _ c2, c3⟩, c4⟩, b4⟩
end RULES
/-! the methods' words -/
def am_mt (y : Nat) : Nat × Nat × Nat × Nat × Nat × Nat := am_MT.getD y (0, 0, 0, 0, 0, 0)
/-- what the tables say of a method -/
def am_mok (y : Nat) : Bool :=
  decide (tables_1[(am_mt y).2.2.2.2.2]? = some (.initialized (am_N y).cls)) &&
  (plainName (am_N y).cls && decide ((am_N y).cls ≠ "java/lang/invoke/MethodHandle" ∧ (am_N y).cls ≠ "java/lang/invoke/VarHandle") && decide ((parseMethodDescriptor (am_N y).desc).map (fun d => d.parameters.length) = some (am_P y)) && Nat.ble (am_X y) 45 && decide (am_C (am_O y) = (am_N y).cls))
def am_l0 : List Nat := [0, 1, 2, 3, 4, 5, 6, 7, 8, 9, 10, 11, 12, 13, 14, 15, 16, 17, 18, 19, 20, 21, 22, 23]
set_option maxRecDepth 100000 in
theorem am_c0 : ∀ y ∈ am_l0, Cond.code (am_N y) (am_B y) (am_X y) (am_R y) ∈ lw_tbl :=
  List.forall_mem_cons.mpr ⟨in_2 (List.mem_of_getElem? (i := 221) rfl), List.forall_mem_cons.mpr ⟨in_3 (List.mem_of_getElem? (i := 14) rfl), List.forall_mem_cons.mpr ⟨in_3 (List.mem_of_getElem? (i := 1) rfl), List.forall_mem_cons.mpr ⟨in_3 (List.mem_of_getElem? (i := 21) rfl), List.forall_mem_cons.mpr ⟨in_2 (List.mem_of_getElem? (i := 233) rfl), List.forall_mem_cons.mpr ⟨in_3 (List.mem_of_getElem? (i := 193) rfl), List.forall_mem_cons.mpr ⟨in_3 (List.mem_of_getElem? (i := 197) rfl), List.forall_mem_cons.mpr ⟨in_3 (List.mem_of_getElem? (i := 202) rfl), List.forall_mem_cons.mpr ⟨in_3 (List.mem_of_getElem? (i := 205) rfl), List.forall_mem_cons.mpr ⟨in_3 (List.mem_of_getElem? (i := 209) rfl), List.forall_mem_cons.mpr ⟨in_3 (List.mem_of_getElem? (i := 213) rfl), List.forall_mem_cons.mpr ⟨in_3 (List.mem_of_getElem? (i := 221) rfl), List.forall_mem_cons.mpr ⟨in_4 (List.mem_of_getElem? (i := 15) rfl), List.forall_mem_cons.mpr ⟨in_2 (List.mem_of_getElem? (i := 176) rfl), List.forall_mem_cons.mpr ⟨in_3 (List.mem_of_getElem? (i := 6) rfl), List.forall_mem_cons.mpr ⟨in_4 (List.mem_of_getElem? (i := 22) rfl), List.forall_mem_cons.mpr ⟨in_3 (List.mem_of_getElem? (i := 41) rfl), List.forall_mem_cons.mpr ⟨in_3 (List.mem_of_getElem? (i := 53) rfl), List.forall_mem_cons.mpr ⟨in_3 (List.mem_of_getElem? (i := 59) rfl), List.forall_mem_cons.mpr ⟨in_3 (List.mem_of_getElem? (i := 91) rfl), List.forall_mem_cons.mpr ⟨in_3 (List.mem_of_getElem? (i := 63) rfl), List.forall_mem_cons.mpr ⟨in_3 (List.mem_of_getElem? (i := 77) rfl), List.forall_mem_cons.mpr ⟨in_3 (List.mem_of_getElem? (i := 74) rfl), List.forall_mem_cons.mpr ⟨in_3 (List.mem_of_getElem? (i := 67) rfl), fun _ h => absurd h List.not_mem_nil⟩⟩⟩⟩⟩⟩⟩⟩⟩⟩⟩⟩⟩⟩⟩⟩⟩⟩⟩⟩⟩⟩⟩⟩
def am_l24 : List Nat := [24, 25, 26, 27, 28, 29, 30, 31, 32, 33, 34, 35, 36, 37, 38, 39, 40, 41, 42, 43, 44, 45, 46, 47]
set_option maxRecDepth 100000 in
theorem am_c24 : ∀ y ∈ am_l24, Cond.code (am_N y) (am_B y) (am_X y) (am_R y) ∈ lw_tbl :=
  List.forall_mem_cons.mpr ⟨in_3 (List.mem_of_getElem? (i := 71) rfl), List.forall_mem_cons.mpr ⟨in_3 (List.mem_of_getElem? (i := 83) rfl), List.forall_mem_cons.mpr ⟨in_3 (List.mem_of_getElem? (i := 87) rfl), List.forall_mem_cons.mpr ⟨in_2 (List.mem_of_getElem? (i := 123) rfl), List.forall_mem_cons.mpr ⟨in_2 (List.mem_of_getElem? (i := 131) rfl), List.forall_mem_cons.mpr ⟨in_2 (List.mem_of_getElem? (i := 204) rfl), List.forall_mem_cons.mpr ⟨in_2 (List.mem_of_getElem? (i := 208) rfl), List.forall_mem_cons.mpr ⟨in_2 (List.mem_of_getElem? (i := 213) rfl), List.forall_mem_cons.mpr ⟨in_2 (List.mem_of_getElem? (i := 217) rfl), List.forall_mem_cons.mpr ⟨in_4 (List.mem_of_getElem? (i := 7) rfl), List.forall_mem_cons.mpr ⟨in_2 (List.mem_of_getElem? (i := 237) rfl), List.forall_mem_cons.mpr ⟨in_2 (List.mem_of_getElem? (i := 229) rfl), List.forall_mem_cons.mpr ⟨in_4 (List.mem_of_getElem? (i := 3) rfl), List.forall_mem_cons.mpr ⟨in_2 (List.mem_of_getElem? (i := 200) rfl), List.forall_mem_cons.mpr ⟨in_2 (List.mem_of_getElem? (i := 152) rfl), List.forall_mem_cons.mpr ⟨in_2 (List.mem_of_getElem? (i := 156) rfl), List.forall_mem_cons.mpr ⟨in_2 (List.mem_of_getElem? (i := 161) rfl), List.forall_mem_cons.mpr ⟨in_2 (List.mem_of_getElem? (i := 164) rfl), List.forall_mem_cons.mpr ⟨in_2 (List.mem_of_getElem? (i := 168) rfl), List.forall_mem_cons.mpr ⟨in_2 (List.mem_of_getElem? (i := 172) rfl), List.forall_mem_cons.mpr ⟨in_2 (List.mem_of_getElem? (i := 184) rfl), List.forall_mem_cons.mpr ⟨in_2 (List.mem_of_getElem? (i := 192) rfl), List.forall_mem_cons.mpr ⟨in_3 (List.mem_of_getElem? (i := 103) rfl), List.forall_mem_cons.mpr ⟨in_3 (List.mem_of_getElem? (i := 109) rfl), fun _ h => absurd h List.not_mem_nil⟩⟩⟩⟩⟩⟩⟩⟩⟩⟩⟩⟩⟩⟩⟩⟩⟩⟩⟩⟩⟩⟩⟩⟩
def am_l48 : List Nat := [48, 49, 50, 51, 52, 53, 54, 55, 56, 57, 58, 59, 60, 61, 62, 63, 64, 65, 66, 67, 68, 69, 70, 71]
set_option maxRecDepth 100000 in
theorem am_c48 : ∀ y ∈ am_l48, Cond.code (am_N y) (am_B y) (am_X y) (am_R y) ∈ lw_tbl :=
  List.forall_mem_cons.mpr ⟨in_3 (List.mem_of_getElem? (i := 114) rfl), List.forall_mem_cons.mpr ⟨in_3 (List.mem_of_getElem? (i := 118) rfl), List.forall_mem_cons.mpr ⟨in_3 (List.mem_of_getElem? (i := 121) rfl), List.forall_mem_cons.mpr ⟨in_3 (List.mem_of_getElem? (i := 141) rfl), List.forall_mem_cons.mpr ⟨in_3 (List.mem_of_getElem? (i := 147) rfl), List.forall_mem_cons.mpr ⟨in_3 (List.mem_of_getElem? (i := 151) rfl), List.forall_mem_cons.mpr ⟨in_3 (List.mem_of_getElem? (i := 156) rfl), List.forall_mem_cons.mpr ⟨in_3 (List.mem_of_getElem? (i := 160) rfl), List.forall_mem_cons.mpr ⟨in_3 (List.mem_of_getElem? (i := 164) rfl), List.forall_mem_cons.mpr ⟨in_3 (List.mem_of_getElem? (i := 168) rfl), List.forall_mem_cons.mpr ⟨in_3 (List.mem_of_getElem? (i := 172) rfl), List.forall_mem_cons.mpr ⟨in_3 (List.mem_of_getElem? (i := 178) rfl), List.forall_mem_cons.mpr ⟨in_2 (List.mem_of_getElem? (i := 119) rfl), List.forall_mem_cons.mpr ⟨in_2 (List.mem_of_getElem? (i := 127) rfl), List.forall_mem_cons.mpr ⟨in_3 (List.mem_of_getElem? (i := 239) rfl), List.forall_mem_cons.mpr ⟨in_4 (List.mem_of_getElem? (i := 11) rfl), List.forall_mem_cons.mpr ⟨in_2 (List.mem_of_getElem? (i := 135) rfl), List.forall_mem_cons.mpr ⟨in_2 (List.mem_of_getElem? (i := 142) rfl), List.forall_mem_cons.mpr ⟨in_2 (List.mem_of_getElem? (i := 180) rfl), List.forall_mem_cons.mpr ⟨in_2 (List.mem_of_getElem? (i := 188) rfl), List.forall_mem_cons.mpr ⟨in_2 (List.mem_of_getElem? (i := 196) rfl), List.forall_mem_cons.mpr ⟨in_3 (List.mem_of_getElem? (i := 25) rfl), List.forall_mem_cons.mpr ⟨in_3 (List.mem_of_getElem? (i := 29) rfl), List.forall_mem_cons.mpr ⟨in_3 (List.mem_of_getElem? (i := 33) rfl), fun _ h => absurd h List.not_mem_nil⟩⟩⟩⟩⟩⟩⟩⟩⟩⟩⟩⟩⟩⟩⟩⟩⟩⟩⟩⟩⟩⟩⟩⟩
def am_l72 : List Nat := [72, 73, 74, 75, 76, 77, 78, 79, 80, 81, 82, 83, 84, 85, 86, 87, 88, 89, 90, 91, 92]
set_option maxRecDepth 100000 in
theorem am_c72 : ∀ y ∈ am_l72, Cond.code (am_N y) (am_B y) (am_X y) (am_R y) ∈ lw_tbl :=
  List.forall_mem_cons.mpr ⟨in_3 (List.mem_of_getElem? (i := 37) rfl), List.forall_mem_cons.mpr ⟨in_3 (List.mem_of_getElem? (i := 45) rfl), List.forall_mem_cons.mpr ⟨in_3 (List.mem_of_getElem? (i := 49) rfl), List.forall_mem_cons.mpr ⟨in_3 (List.mem_of_getElem? (i := 95) rfl), List.forall_mem_cons.mpr ⟨in_3 (List.mem_of_getElem? (i := 99) rfl), List.forall_mem_cons.mpr ⟨in_3 (List.mem_of_getElem? (i := 127) rfl), List.forall_mem_cons.mpr ⟨in_3 (List.mem_of_getElem? (i := 137) rfl), List.forall_mem_cons.mpr ⟨in_3 (List.mem_of_getElem? (i := 185) rfl), List.forall_mem_cons.mpr ⟨in_3 (List.mem_of_getElem? (i := 189) rfl), List.forall_mem_cons.mpr ⟨in_3 (List.mem_of_getElem? (i := 217) rfl), List.forall_mem_cons.mpr ⟨in_3 (List.mem_of_getElem? (i := 225) rfl), List.forall_mem_cons.mpr ⟨in_2 (List.mem_of_getElem? (i := 138) rfl), List.forall_mem_cons.mpr ⟨in_2 (List.mem_of_getElem? (i := 148) rfl), List.forall_mem_cons.mpr ⟨in_2 (List.mem_of_getElem? (i := 145) rfl), List.forall_mem_cons.mpr ⟨in_3 (List.mem_of_getElem? (i := 9) rfl), List.forall_mem_cons.mpr ⟨in_3 (List.mem_of_getElem? (i := 130) rfl), List.forall_mem_cons.mpr ⟨in_3 (List.mem_of_getElem? (i := 175) rfl), List.forall_mem_cons.mpr ⟨in_3 (List.mem_of_getElem? (i := 228) rfl), List.forall_mem_cons.mpr ⟨in_3 (List.mem_of_getElem? (i := 235) rfl), List.forall_mem_cons.mpr ⟨in_3 (List.mem_of_getElem? (i := 232) rfl), List.forall_mem_cons.mpr ⟨in_4 (List.mem_of_getElem? (i := 26) rfl), fun _ h => absurd h List.not_mem_nil⟩⟩⟩⟩⟩⟩⟩⟩⟩⟩⟩⟩⟩⟩⟩⟩⟩⟩⟩⟩⟩
theorem am_codes : ∀ y, y < 93 → Cond.code (am_N y) (am_B y) (am_X y) (am_R y) ∈ lw_tbl := by
  intro y hy
  by_cases h0 : y < 24
  · exact am_c0 y (by simp only [am_l0, List.mem_cons, List.not_mem_nil, or_false]; omega)
  by_cases h24 : y < 48
  · exact am_c24 y (by simp only [am_l24, List.mem_cons, List.not_mem_nil, or_false]; omega)
  by_cases h48 : y < 72
  · exact am_c48 y (by simp only [am_l48, List.mem_cons, List.not_mem_nil, or_false]; omega)
  by_cases h72 : y < 93
  · exact am_c72 y (by simp only [am_l72, List.mem_cons, List.not_mem_nil, or_false]; omega)
  omega
def am_sok (y : Nat) : Bool := decide (tables_1[(am_mt y).2.2.1]? = some (.static (am_N y)))
def am_iok (y : Nat) : Bool := decide (tables_1[(am_mt y).2.2.1]? = some (.instanceMethod (am_N y))) && (if (am_mt y).2.2.2.1 = 1 then decide (tables_1[(am_mt y).2.2.2.2.1]? = some (.selects (am_N y).cls (am_N y) (am_N y))) else decide ((k2_sels lw_privs)[(am_mt y).2.2.2.2.1]? = some (.selects (am_N y).cls (am_N y) (am_N y)))) && Nat.blt (am_O y) 10
set_option maxRecDepth 1000000 in
theorem am_mok_all : (List.range 93).all am_mok = true := by decide +kernel
set_option maxRecDepth 1000000 in
theorem am_CS_ok : am_CS.all (fun q => decide (tables_1[q.2.2.2]? = some (.methodLink (am_C q.1) q.2.1 (am_N q.2.2.1))) && Nat.blt q.2.2.1 93) = true := by decide +kernel
theorem am_mokW {y : Nat} (h : y < 93) : Cond.code (am_N y) (am_B y) (am_X y) (am_R y) ∈ am_WG ∧ Cond.initialized (am_N y).cls ∈ am_WG ∧ plainName (am_N y).cls = true ∧ ((am_N y).cls ≠ "java/lang/invoke/MethodHandle" ∧ (am_N y).cls ≠ "java/lang/invoke/VarHandle" ∧ (parseMethodDescriptor (am_N y).desc).map (fun d => d.parameters.length) = some (am_P y)) ∧ am_X y ≤ 45 ∧ am_C (am_O y) = (am_N y).cls := by
  have h1 := List.all_eq_true.mp am_mok_all y (List.mem_range.mpr h)
  unfold am_mok at h1
  simp only [Bool.and_eq_true, decide_eq_true_eq] at h1
  obtain ⟨a2, ⟨⟨⟨a3, a4⟩, a5⟩, a6⟩, a7⟩ := h1
  exact ⟨am_in (am_codes y h) rfl, am_in (am_t1 (List.mem_of_getElem? a2)) rfl, a3, ⟨a4.1, a4.2, a5⟩, Nat.le_of_ble_eq_true a6, a7⟩
/-- a call's site: the method that it calls -/
def am_cs (own i : Nat) : Option Nat := am_find3 am_CS own i
theorem am_cs_spec {own i y : Nat} (h : am_cs own i = some y) : Cond.methodLink (am_C own) i (am_N y) ∈ am_WG ∧ y < 93 := by
  unfold am_cs am_find3 at h
  obtain ⟨q, hq, he⟩ := Option.map_eq_some_iff.mp h
  obtain ⟨h1, h2⟩ := find_ok am_CS_ok hq
  cases he
  simp only [Bool.and_eq_true] at h2
  have e1 := Nat.eq_of_beq_eq_true h2.1
  have e2 := Nat.eq_of_beq_eq_true h2.2
  simp only [Bool.and_eq_true, decide_eq_true_eq] at h1
  rw [← e1, ← e2]
  exact ⟨am_in (am_t1 (List.mem_of_getElem? h1.1)) rfl, Nat.blt_eq.mp h1.2⟩
def am_wsy (y : Nat) : List Cond := Cond.code (am_N y) (am_B y) (am_X y) (am_R y) :: am_WG
theorem am_good {y : Nat} (h : y < 93) : GoodIn am_WG (am_wsy y) := by
  intro w hw
  have hm : w ∈ am_WG := by
    rcases List.mem_cons.mp hw with rfl | h2
    · exact (am_mokW h).1
    · exact h2
  exact ⟨hm, good_of_word (List.mem_filter.mp hm).2⟩
def PcOf (E : VE) (av : List Value) (M : Mem) (L : LMem) : Array Value → State → Prop := va_Pc (av.map (cvl E.2.2.1)) fun U => va_P E.2.1 vwCl (wd E.2.2.1 E.2.2.2.1 M L) U.heap ∧ va_K E.2.1 vwCl (am_tys E.2.2.2.1) U ∧ (∀ w ∈ am_nest, va_Nw w U) ∧ (∀ i j, i < am_NP → j < am_NP → E.2.2.1 i = E.2.2.1 j → i = j) ∧ SCU E U
theorem am_nestT : ∀ w ∈ am_nest, w.onTables = true := by decide
theorem PcOf.blind {E : VE} {av : List Value} {M : Mem} {L : LMem} : FrameBlind (PcOf E av M L) := by
  intro a U g mk h
  obtain ⟨h1, h2, h3, h4, h5, h6⟩ := h
  exact ⟨h1, h2, va_K.moved (u := U) (U := U.calling g mk a) (Vm.Alike.refl U.vm) h3, fun w hw => va_Nw.same (u := U) (U := U.calling g mk a) (am_nestT w hw) rfl (h4 w hw), h5, h6.1, h6.2.1, va_X.moved (u := U) (U := U.calling g mk a) (Vm.Alike.refl U.vm) h6.2.2⟩
theorem SCU.at {E : VE} {s U : State} {H : Heap} {locs : List Loc} (h : SCU E s) (hS : va_S (am_AD E.2.2.1) s.heap H locs) (hU : U.heap = H) (hW : s.WarmedH U.vm) : SCU E U := by
  obtain ⟨h1, h2, h3⟩ := h
  refine ⟨h1, by rw [hU]; exact Nat.lt_of_lt_of_le h2 hS.1, va_X.moved hW.alike (va_X.kept h3 (by rw [hU]; exact hS.2.1 _ h2 (fun ⟨k, hk, e⟩ => h1 k hk e.symm)))⟩
theorem PcOf.at {E : VE} {av : List Value} {M : Mem} {L : LMem} {s U : State} (hW : s.WarmedH U.vm) (hP : va_P E.2.1 vwCl (wd E.2.2.1 E.2.2.2.1 M L) U.heap) (hK : va_K E.2.1 vwCl (am_tys E.2.2.2.1) s) (hN : ∀ w ∈ am_nest, va_Nw w s) (hi : ∀ i j, i < am_NP → j < am_NP → E.2.2.1 i = E.2.2.1 j → i = j) (hsc : SCU E U) : PcOf E av M L (av.map (cvl E.2.2.1)).toArray U := by
  refine ⟨rfl, hP, va_K.moved hW.alike hK, fun w hw => ?_, hi, hsc⟩
  have h := hN w hw
  simp only [am_nest, List.mem_cons, List.not_mem_nil, or_false] at hw
  rcases hw with rfl | rfl | rfl <;> exact va_Nw.warmM hW h
theorem lpad_get : ∀ (n : Nat) (l : List Value) (i : Nat) (v : Value), (lpad n l)[i]? = some v → v ≠ Value.null → l[i]? = some v
  | 0, _, _, _, h, _ => by simp [lpad] at h
  | n + 1, [], 0, v, h, hn => by
    have h : some Value.null = some v := h
    cases h
    exact absurd rfl hn
  | n + 1, [], i + 1, v, h, hn => by
    have h2 := lpad_get n [] i v h hn
    simp at h2
  | n + 1, a :: r, 0, v, h, _ => h
  | n + 1, a :: r, i + 1, v, h, hn => lpad_get n r i v h hn
theorem lpad_len : ∀ (n : Nat) (l : List Value), (lpad n l).length = n
  | 0, _ => rfl
  | n + 1, [] => congrArg Nat.succ (lpad_len n [])
  | n + 1, _ :: r => congrArg Nat.succ (lpad_len n r)
/-- no doubles among the arguments -/
def lnd : List Value → Bool
  | [] => true
  | .double _ :: _ => false
  | _ :: r => lnd r
theorem lex_get (ad : Nat → Nat) : ∀ (av : List Value) (b i : Nat) (v : Value), lnd av = true → (lex av)[i]? = some v → v ≠ Value.null → (b + i, cvl ad v) ∈ lv_args b (av.map (cvl ad))
  | [], _, _, _, _, h, _ => by simp [lex] at h
  | a :: r, b, i, v, hd, h, hn => by
    have key : ∀ (h1 : a.category = 1), lnd r = true → (lex (a :: r) = a :: lex r) → (b + i, cvl ad v) ∈ lv_args b ((a :: r).map (cvl ad)) := by
      intro h1 hd' he
      rw [he] at h
      rw [List.map_cons]
      unfold lv_args
      cases i with
      | zero =>
        have h : some a = some v := h
        cases h
        exact List.mem_cons_self
      | succ i =>
        have h2 := lex_get ad r (b + 1) i v hd' h hn
        rw [if_neg (by rw [cvl_cat, h1]; decide)]
        have e : b + 1 + i = b + (i + 1) := by omega
        rw [e] at h2
        exact List.mem_cons_of_mem _ h2
    cases a with
    | long x =>
      rw [List.map_cons]
      unfold lv_args
      cases i with
      | zero =>
        have h : some (Value.long x) = some v := h
        cases h
        exact List.mem_cons_self
      | succ i =>
        cases i with
        | zero =>
          have h : some Value.null = some v := h
          cases h
          exact absurd rfl hn
        | succ i =>
          have h2 := lex_get ad r (b + 2) i v hd h hn
          rw [if_pos (by rfl)]
          have e : b + 2 + i = b + (i + 1 + 1) := by omega
          rw [e] at h2
          exact List.mem_cons_of_mem _ h2
    | double x => cases hd
    | int x => exact key rfl hd rfl
    | float x => exact key rfl hd rfl
    | null => exact key rfl hd rfl
    | ref x => exact key rfl hd rfl
    | retAddr x => exact key rfl hd rfl
theorem lg1 {v : Value} {vs : List Value} (h : v.category = 1) : lg_sl (v :: vs) = .val v :: lg_sl vs := by simp [lg_sl, h]
theorem lg2 {v : Value} {vs : List Value} (h : v.category = 2) : lg_sl (v :: vs) = .val v :: .second :: lg_sl vs := by simp [lg_sl, h]
theorem lex_len (ad : Nat → Nat) : ∀ (av : List Value), lnd av = true → (lg_sl (av.map (cvl ad))).length = (lex av).length
  | [], _ => rfl
  | .double x :: r, hd => by cases hd
  | .long x :: r, hd => by
    rw [List.map_cons, lg2 (by rfl)]
    show _ + 1 + 1 = _ + 1 + 1
    rw [lex_len ad r hd]
  | .int x :: r, hd => by
    rw [List.map_cons, lg1 (by rfl)]
    show _ + 1 = _ + 1
    rw [lex_len ad r hd]
  | .float x :: r, hd => by
    rw [List.map_cons, lg1 (by rfl)]
    show _ + 1 = _ + 1
    rw [lex_len ad r hd]
  | .null :: r, hd => by
    rw [List.map_cons, lg1 (by rfl)]
    show _ + 1 = _ + 1
    rw [lex_len ad r hd]
  | .ref x :: r, hd => by
    rw [List.map_cons, lg1 (by rfl)]
    show _ + 1 = _ + 1
    rw [lex_len ad r hd]
  | .retAddr x :: r, hd => by
    rw [List.map_cons, lg1 (by rfl)]
    show _ + 1 = _ + 1
    rw [lex_len ad r hd]
/-- THE CONTRACT OUT OF THE ABSTRACT WALK -/
theorem met_of_wp {E : VE} {d y : Nat} (hy : y < 93) {av : List Value} {M : Mem} {L : LMem} {Q : QQ} (hd : lnd av = true) (hl : Nat.ble (lex av).length (am_X y) = true) (hw : Wp E d y 0 (lpad (am_X y) (lex av)) [] M L Q) : Met E.1 (am_N y) (am_wsy y) (am_rm d) (PcOf E av M L) (QcOf E Q) 0 0 (am_AD E.2.2.1) := by
  obtain ⟨-, -, hpn, -, -, hcl⟩ := am_mokW hy
  refine Met.ofW (cc := am_B y) (maxL := am_X y) (ret := am_R y) hpn rfl ?_
  intro p e s m args below meth c s₁ B hml hv
  obtain ⟨rfl, hP, hK, hN, hi, hsc⟩ := hv
  have hts : ∀ w ∈ am_wsy y, w.before (av.map (cvl E.2.2.1)).toArray s = true := atoms_spec (ws := am_wsy y) B.pre
  have hown : s.vm.findClass (am_C (am_O y)) = some m.cls := by rw [hcl]; exact findClass_of_methodNamed B.named
  have hle : (lg_sl (av.map (cvl E.2.2.1))).length ≤ am_X y := by rw [lex_len _ _ hd]; exact Nat.le_of_ble_eq_true hl
  have hlv := lv_entry (av.map (cvl E.2.2.1)) hle
  rw [lg_entry_eq]
  generalize (lg_sl (av.map (cvl E.2.2.1)) ++ List.replicate (am_X y - (lg_sl (av.map (cvl E.2.2.1))).length) Slot.unset).toArray = ls at hlv ⊢
  exact hw p e s m _ below meth c ⟨B.exec, B.bytes, B.returns, hml, hown, fun w h => hts w (List.mem_cons_of_mem _ h), hN, hK, B.notSynchronized, hi, hsc, fun q => absurd hy (by rw [q]; decide)⟩ ls s.heap [] ⟨hlv.1, lpad_len _ _, hlv.2.1, fun i v h1 h2 => hlv.2.2 (i, cvl E.2.2.1 v) (by
    have h3 := lex_get E.2.2.1 av 0 i v hd (lpad_get _ _ _ _ h1 h2) h2
    rw [Nat.zero_add] at h3
    exact h3)⟩ hP va_S.rf
theorem am_clsN : ∀ ci, ci < 10 → ∃ r : vw_C, vwCl[ci]? = some r ∧ r.1 = am_C ci := by
  intro ci h
  match ci, h with
  | 0, _ => exact ⟨_, rfl, rfl⟩
  | 1, _ => exact ⟨_, rfl, rfl⟩
  | 2, _ => exact ⟨_, rfl, rfl⟩
  | 3, _ => exact ⟨_, rfl, rfl⟩
  | 4, _ => exact ⟨_, rfl, rfl⟩
  | 5, _ => exact ⟨_, rfl, rfl⟩
  | 6, _ => exact ⟨_, rfl, rfl⟩
  | 7, _ => exact ⟨_, rfl, rfl⟩
  | 8, _ => exact ⟨_, rfl, rfl⟩
  | 9, _ => exact ⟨_, rfl, rfl⟩
theorem am_recv {D : va_G} {ad : Nat → Nat} {cA : Nat → ClassId} {M : Mem} {L : LMem} {H : Heap} {s : State} {k ci : Nat} {fs : List (Option Nat)} {nm : String} (hcl : am_C ci = nm) (hci : ci < 10) (hK : va_K D vwCl (am_tys cA) s) (hP : va_P D vwCl (wd ad cA M L) H) (hkN : k < am_NP) (hsh : am_sh k = .inl (ci, fs)) : ∃ cell : Cell, H[ad k]? = some cell ∧ cell.vm.isStatics = false ∧ s.vm.findClass nm = some cell.cls := by
  obtain ⟨r, h1, h2⟩ := am_clsN ci hci
  have h := va_recv (q := r) hK hP h1 (q0 := k) (a := ad k) (by rw [wd_get hkN, cel_inl hsh])
  rw [← hcl, ← h2]
  exact h
section CALLS
variable {E : VE} {d y pc : Nat} {Q : QQ} {lo st : List Value} {M : Mem} {L : LMem}
theorem go_call {p : Program} {e : Env} {R : Room} {s : State} {m : MethodId} {args : Array Value} {below : List Frame} {meth : Method} {c : Code} {H : Heap} {locs : List Loc} {QF : State → Prop} {ls : Array Slot} {st0 rest : List Value} {a : Array Value} {Q' : QQ} {D : va_G} {ad : Nat → Nat} {cA : Nat → ClassId} {l : Launch} {sc : Nat × (Nat → Int32)} {cells slots : Nat}
    (hr : va_Run p l e R s m args below meth c H locs cells slots 0 0 (F0 m pc ls st0) rest (QcOf (l, D, ad, cA, sc) Q' a) (am_AD ad)) (hS : va_S (am_AD ad) s.heap H locs)
    (kk : ∀ (r : Option Value) (M : Mem) (L : LMem) (H1 : Heap) (locs1 : List Loc), Q' r M L → va_P D vwCl (wd ad cA M L) H1 → va_S (am_AD ad) s.heap H1 locs1 → W p l e R s m args below meth c H1 locs1 cells slots QF (F0 m (pc + 3) ls ((r.map (cvl ad)).toList ++ rest))) : W p l e R s m args below meth c H locs cells slots QF (F0 m pc ls st0) := by
  intro T hT X
  obtain ⟨v, st₀, t, T', L, h0, X', hL, e1, e2, ⟨⟨r, M1, L1, hv, hq, hp⟩, hz, hk⟩, st⟩ := hr T hT X
  cases hv
  rw [h0] at hz hk
  obtain ⟨t2, a1, b1⟩ := kk r M1 L1 T'.heap (locs ++ L) hq (by rw [e1]; exact hp)
    ⟨Nat.le_trans hS.1 (by rw [e1]; exact hz), fun q h1 h2 => by rw [e1, hk q (Nat.lt_of_lt_of_le h1 hS.1) h2]; exact hS.2.1 q h1 h2, fun q hq => by
      rcases List.mem_append.mp hq with h | h
      · exact hS.2.2 q h
      · exact hL q h⟩ T' rfl X'
  exact ⟨t2, st t2 a1, b1⟩
theorem cvl_rev (ad : Nat → Nat) (av st : List Value) : (av.reverse ++ st).map (cvl ad) = (av.map (cvl ad)).reverse ++ st.map (cvl ad) := by simp
theorem tol_map (ad : Nat → Nat) (r : Option Value) (st : List Value) : (r.toList ++ st).map (cvl ad) = (r.map (cvl ad)).toList ++ st.map (cvl ad) := by cases r <;> simp
/-- a method of depth d may be called from this mode -/
def Ovr (μ : MD) (d : Nat) : Prop := (d + 1 + 1 ≤ μ.1.frames ∧ 64 * (d + 1 + 1) ≤ μ.1.locals) ∧ μ.2.1 + 0 ≤ μ.1.cells ∧ μ.2.2.1 + 0 ≤ μ.1.slots
theorem Ovr.nm {d : Nat} : Ovr (nm (d + 1)) d := ⟨⟨Nat.le_refl _, Nat.le_refl _⟩, Nat.le_refl _, Nat.le_refl _⟩
theorem Ovr.rt {d : Nat} (h : Nat.ble d 60 = true) : Ovr rt d := by
  have h := Nat.le_of_ble_eq_true h
  exact ⟨⟨show d + 1 + 1 ≤ 2048 by omega, show 64 * (d + 1 + 1) ≤ 84000 by omega⟩, Nat.le_refl _, Nat.le_refl _⟩
theorem am_site {y i y' : Nat} {μ : MD} (ho : Ovr μ d) (hs : am_cs (am_O y) i = some y') {s : State} {args : Array Value} (hts : ∀ w ∈ am_WG, w.before args s = true) : CallB μ.1 s args (am_C (am_O y)) i (am_N y') (am_B y') (am_X y') (am_R y') (am_wsy y') (am_rm d) 0 0 (am_P y') := by
  obtain ⟨hl, hy⟩ := am_cs_spec hs
  obtain ⟨-, hini, -, hdd, hX, -⟩ := am_mokW hy
  exact callB_of (am_P y') hts (am_good hy) rfl rfl rfl (hts _ hini) (hts _ hl) hdd ⟨ho.1.1, by have := ho.1.2; show 8 + (am_X y' + 11) + 64 * (d + 1) ≤ μ.1.locals; omega⟩
theorem wm_callS {μ : MD} (hov : Ovr μ d) (y' : Nat) (av : List Value) {i : Nat} (hd : decode (am_B y) pc = .ok (.invokestatic i, 3)) (hs : am_cs (am_O y) i = some y') (hso : am_sok y' = true) (hn : Nat.beq av.length (am_P y') = true) (hd2 : lnd av = true) (hlx : Nat.ble (lex av).length (am_X y') = true) {rest : List Value} (hst : st = av.reverse ++ rest) (hc8 : Nat.ble (csum rest) 8 = true)
    (h : Wp E d y' 0 (lpad (am_X y') (lex av)) [] M L (fun r M L => Wm E μ y (pc + 3) lo (r.toList ++ rest) M L Q)) : Wm E μ y pc lo st M L Q := by
  subst hst
  intro p e s m args below meth c C ls H locs hl hP hS
  obtain ⟨hx, hb, hret, hml, hown, hts, hN, hK, hlk, hi, hsc, -⟩ := id C
  have hy := (am_cs_spec hs).2
  have hsm : Cond.static (am_N y') ∈ am_WG := am_in (am_t1 (List.mem_of_getElem? (of_decide_eq_true hso))) rfl
  rw [cvl_rev]
  refine go_call (D := E.2.1) (cA := E.2.2.2.1) (sc := E.2.2.2.2) (va_runS (As := av.map (cvl E.2.2.1)) (rest := rest.map (cvl E.2.2.1)) (Ts := am_WG) ⟨hx, hb, hml, hown, hts⟩ (met_of_wp hy hd2 hlx h) ⟨am_site hov hs hts, hts _ hsm⟩ ⟨PcOf.blind, fun U hU hW => PcOf.at hW (by rw [hU]; exact hP) hK hN hi (hsc.at hS hU hW)⟩ rfl (by rw [List.length_map]; exact Nat.eq_of_beq_eq_true hn) hl.1 rfl ?_ hd hov.2) hS (fun r M1 L1 H1 locs1 hq hP1 hS1 => ?_)
  · exact lv_room (by rw [csum_eq]; exact Nat.le_of_ble_eq_true hc8)
  · rw [← tol_map]
    exact hq p e s m args below meth c C ls H1 locs1 hl hP1 hS1
theorem wm_callV {μ : MD} (hov : Ovr μ d) (y' : Nat) (k : Nat) (av : List Value) {i : Nat} (hd : decode (am_B y) pc = .ok (.invokevirtual i, 3)) (hs : am_cs (am_O y) i = some y') (hso : am_iok y' = true) (hk : Nat.beq (oci k) (am_O y') = true) (hn : Nat.beq av.length (am_P y') = true) (hd2 : lnd (.ref k :: av) = true) (hlx : Nat.ble (lex (.ref k :: av)).length (am_X y') = true) {rest : List Value} (hst : st = av.reverse ++ .ref k :: rest) (hc8 : Nat.ble (csum rest) 8 = true)
    (h : Wp E d y' 0 (lpad (am_X y') (lex (.ref k :: av))) [] M L (fun r M L => Wm E μ y (pc + 3) lo (r.toList ++ rest) M L Q)) : Wm E μ y pc lo st M L Q := by
  subst hst
  intro p e s m args below meth c C ls H locs hl hP hS
  obtain ⟨hx, hb, hret, hml, hown, hts, hN, hK, hlk, hi, hsc, -⟩ := id C
  have hy := (am_cs_spec hs).2
  unfold am_iok at hso
  simp only [Bool.and_eq_true, decide_eq_true_eq] at hso
  obtain ⟨⟨hi1, hi2⟩, hi3⟩ := hso
  have him : Cond.instanceMethod (am_N y') ∈ am_WG := am_in (am_t1 (List.mem_of_getElem? hi1)) rfl
  have hsel : Cond.selects (am_N y').cls (am_N y') (am_N y') ∈ am_WG := by
    split at hi2
    · exact am_in (am_t1 (List.mem_of_getElem? (of_decide_eq_true hi2))) rfl
    · exact am_in (List.mem_append_left _ (List.mem_of_getElem? (of_decide_eq_true hi2))) rfl
  have ho := Nat.eq_of_beq_eq_true hk
  have ho10 : am_O y' < 10 := Nat.blt_eq.mp hi3
  obtain ⟨hsh, hkN⟩ := oci_spec ho (by omega)
  have hcell := am_recv (hcl := (am_mokW hy).2.2.2.2.2) ho10 hK hP hkN hsh
  rw [cvl_rev]
  refine go_call (D := E.2.1) (cA := E.2.2.2.1) (sc := E.2.2.2.2) (va_runV (b := E.2.2.1 k) (C := (am_N y').cls) (As := av.map (cvl E.2.2.1)) (rest := rest.map (cvl E.2.2.1)) (Ts := am_WG) ⟨hx, hb, hml, hown, hts⟩ (met_of_wp hy hd2 hlx h) ⟨am_site hov hs hts, hts _ him, hts _ hsel⟩ ⟨PcOf.blind, hcell, fun U hU hW => PcOf.at (av := .ref k :: av) hW (by rw [hU]; exact hP) hK hN hi (hsc.at hS hU hW)⟩ rfl (by rw [List.length_map]; exact Nat.eq_of_beq_eq_true hn) hl.1 rfl ?_ hd hov.2) hS (fun r M1 L1 H1 locs1 hq hP1 hS1 => ?_)
  · exact lv_room (by rw [csum_eq]; exact Nat.le_of_ble_eq_true hc8)
  · rw [← tol_map]
    exact hq p e s m args below meth c C ls H1 locs1 hl hP1 hS1
theorem wp_callS (y' : Nat) (av : List Value) {i : Nat} (hd : decode (am_B y) pc = .ok (.invokestatic i, 3)) (hs : am_cs (am_O y) i = some y') (hso : am_sok y' = true) (hn : Nat.beq av.length (am_P y') = true) (hd2 : lnd av = true) (hlx : Nat.ble (lex av).length (am_X y') = true) {rest : List Value} (hst : st = av.reverse ++ rest) (hc8 : Nat.ble (csum rest) 8 = true)
    (h : Wp E d y' 0 (lpad (am_X y') (lex av)) [] M L (fun r M L => Wp E (d + 1) y (pc + 3) lo (r.toList ++ rest) M L Q)) : Wp E (d + 1) y pc lo st M L Q :=
  wm_callS Ovr.nm y' av hd hs hso hn hd2 hlx hst hc8 h
theorem wp_callV (y' : Nat) (k : Nat) (av : List Value) {i : Nat} (hd : decode (am_B y) pc = .ok (.invokevirtual i, 3)) (hs : am_cs (am_O y) i = some y') (hso : am_iok y' = true) (hk : Nat.beq (oci k) (am_O y') = true) (hn : Nat.beq av.length (am_P y') = true) (hd2 : lnd (.ref k :: av) = true) (hlx : Nat.ble (lex (.ref k :: av)).length (am_X y') = true) {rest : List Value} (hst : st = av.reverse ++ .ref k :: rest) (hc8 : Nat.ble (csum rest) 8 = true)
    (h : Wp E d y' 0 (lpad (am_X y') (lex (.ref k :: av))) [] M L (fun r M L => Wp E (d + 1) y (pc + 3) lo (r.toList ++ rest) M L Q)) : Wp E (d + 1) y pc lo st M L Q :=
  wm_callV Ovr.nm y' k av hd hs hso hk hn hd2 hlx hst hc8 h
theorem wr_callS {pc : Nat} (y' : Nat) (av : List Value) {i : Nat} (hd : decode (am_B LAW) pc = .ok (.invokestatic i, 3)) (hs : am_cs (am_O LAW) i = some y') (hso : am_sok y' = true) (hn : Nat.beq av.length (am_P y') = true) (hd2 : lnd av = true) (hlx : Nat.ble (lex av).length (am_X y') = true) {rest : List Value} (hst : st = av.reverse ++ rest) (hc8 : Nat.ble (csum rest) 8 = true)
    (h : Wp E 60 y' 0 (lpad (am_X y') (lex av)) [] M L (fun r M L => Wr E (pc + 3) lo (r.toList ++ rest) M L)) : Wr E pc lo st M L :=
  wm_callS (Ovr.rt (d := 60) rfl) y' av hd hs hso hn hd2 hlx hst hc8 h
theorem wr_callV {pc : Nat} (y' : Nat) (k : Nat) (av : List Value) {i : Nat} (hd : decode (am_B LAW) pc = .ok (.invokevirtual i, 3)) (hs : am_cs (am_O LAW) i = some y') (hso : am_iok y' = true) (hk : Nat.beq (oci k) (am_O y') = true) (hn : Nat.beq av.length (am_P y') = true) (hd2 : lnd (.ref k :: av) = true) (hlx : Nat.ble (lex (.ref k :: av)).length (am_X y') = true) {rest : List Value} (hst : st = av.reverse ++ .ref k :: rest) (hc8 : Nat.ble (csum rest) 8 = true)
    (h : Wp E 60 y' 0 (lpad (am_X y') (lex (.ref k :: av))) [] M L (fun r M L => Wr E (pc + 3) lo (r.toList ++ rest) M L)) : Wr E pc lo st M L :=
  wm_callV (Ovr.rt (d := 60) rfl) y' k av hd hs hso hk hn hd2 hlx hst hc8 h
/-- a static method of the nest's host -/
theorem wp_callN (y' : Nat) (av : List Value) {i : Nat} (hd : decode (am_B y) pc = .ok (.invokestatic i, 3)) (hs : decide (Cond.methodLinkNest (am_C (am_O y)) i (am_N y') "SpeakTubes" ∈ am_nest) = true) (hy : Nat.blt y' 93 = true) (hso : am_sok y' = true) (hn : Nat.beq av.length (am_P y') = true) (hd2 : lnd av = true) (hlx : Nat.ble (lex av).length (am_X y') = true) {rest : List Value} (hst : st = av.reverse ++ rest) (hc8 : Nat.ble (csum rest) 8 = true)
    (h : Wp E d y' 0 (lpad (am_X y') (lex av)) [] M L (fun r M L => Wp E (d + 1) y (pc + 3) lo (r.toList ++ rest) M L Q)) : Wp E (d + 1) y pc lo st M L Q := by
  subst hst
  intro p e s m args below meth c C ls H locs hl hP hS
  obtain ⟨hx, hb, hret, hml, hown, hts, hN, hK, hlk, hi, hsc, -⟩ := id C
  have hy := Nat.blt_eq.mp hy
  have hsm : Cond.static (am_N y') ∈ am_WG := am_in (am_t1 (List.mem_of_getElem? (of_decide_eq_true hso))) rfl
  obtain ⟨-, hini, -, hdd, hX, -⟩ := am_mokW hy
  rw [cvl_rev]
  refine go_call (D := E.2.1) (cA := E.2.2.2.1) (sc := E.2.2.2.2) (va_runSN (As := av.map (cvl E.2.2.1)) (rest := rest.map (cvl E.2.2.1)) (Ts := am_WG) ⟨hx, hb, hml, hown, hts⟩ (met_of_wp hy hd2 hlx h) ⟨va_cnB (am_P y') hts (am_good hy) rfl rfl rfl (hN _ (of_decide_eq_true hs)) (hts _ hini) hdd ⟨Nat.le_refl _, by show 8 + (am_X y' + 11) + 64 * (d + 1) ≤ 64 * (d + 1 + 1); omega⟩, hts _ hsm, trivial⟩ ⟨PcOf.blind, fun U hU hW => PcOf.at hW (by rw [hU]; exact hP) hK hN hi (hsc.at hS hU hW)⟩ rfl (by rw [List.length_map]; exact Nat.eq_of_beq_eq_true hn) hl.1 rfl ?_ hd ⟨Nat.le_refl _, Nat.le_refl _⟩) hS (fun r M1 L1 H1 locs1 hq hP1 hS1 => ?_)
  · exact lv_room (by rw [csum_eq]; exact Nat.le_of_ble_eq_true hc8)
  · rw [← tol_map]
    exact hq p e s m args below meth c C ls H1 locs1 hl hP1 hS1
end CALLS
/-! ===== the script; the law's end ===== -/
section SCRIPT
variable {E : VE} {μ : MD} {y pc : Nat} {Q : QQ} {lo st : List Value} {M : Mem} {L : LMem}
theorem sc_not {E : VE} (h : ∀ i, i < am_NP → E.2.2.1 i ≠ E.2.2.1 75) : ¬ am_AD E.2.2.1 (E.2.2.1 75) := fun ⟨k, hk, e⟩ => h k hk e.symm
theorem wm_slen (hd : decode (am_B y) pc = .ok (.arraylength, 1)) (h : Wm E μ y (pc + 1) lo (.int (nI E.2.2.2.2.1) :: st) M L Q) : Wm E μ y pc lo (.ref 75 :: st) M L Q := by
  intro p e s m args below meth c C ls H locs hl hP hS
  obtain ⟨hx, hb, -, -, -, -, -, -, -, -, hsc, -⟩ := id C
  exact va_slen hx hb hsc.2.2 hsc.2.1 (sc_not hsc.1) hS hd (h p e s m args below meth c C ls H locs hl hP hS)
theorem wm_sld {i : Int32} (hi : vp_in i E.2.2.2.2.1) (hd : decode (am_B y) pc = .ok (.iaload, 1)) (h : Wm E μ y (pc + 1) lo (.int (E.2.2.2.2.2 i.toNatClampNeg) :: st) M L Q) : Wm E μ y pc lo (.int i :: .ref 75 :: st) M L Q := by
  intro p e s m args below meth c C ls H locs hl hP hS
  obtain ⟨hx, hb, -, -, -, -, -, -, -, -, hsc, -⟩ := id C
  exact va_sld hx hb hsc.2.2 hsc.2.1 (sc_not hsc.1) hS hi hd (h p e s m args below meth c C ls H locs hl hP hS)
theorem wr_ret {pc : Nat} (hd : decode code pc = .ok (.ireturn, 1)) : Wr E pc lo [.int 1] M L := by
  intro p e s m args below meth c C ls H locs hl hP hS
  obtain ⟨hx, hb, hr, -, -, -, -, -, hlk, -, -, hr2⟩ := id C
  obtain ⟨rfl, had⟩ := hr2 rfl
  refine va_forget (fun q hq => ?_) (lw_ret hx hb hr hlk hd)
  obtain ⟨k, hk, e⟩ := hS.2.2 q hq
  rw [e]
  exact had k hk
end SCRIPT
end
section
/-! ===== loop-free leaves, by program ===== -/
theorem vp_lit (n N : Nat) (h : n < N ∧ N < 2 ^ 31) : vp_in (Int32.ofInt (n : Int)) N := by
  rw [vp_in_iff, Int32.toInt_ofInt_of_le (by omega) (by omega)]
  omega
def lsub : List Value → List Value → Prop
  | [], [] => True
  | a :: r, b :: s => (a = Value.null ∨ a = b) ∧ lsub r s
  | _, _ => False
theorem lsub_spec : ∀ (a b : List Value), lsub a b → a.length = b.length ∧ ∀ (i : Nat) (v : Value), a[i]? = some v → v ≠ Value.null → b[i]? = some v
  | [], [], _ => ⟨rfl, fun _ _ h _ => by simp at h⟩
  | [], _ :: _, h => False.elim h
  | _ :: _, [], h => False.elim h
  | a :: r, b :: s, h => by
    obtain ⟨h1, h2⟩ := lsub_spec r s h.2
    refine ⟨congrArg Nat.succ h1, fun i v hi hn => ?_⟩
    cases i with
    | zero =>
      have hi : some a = some v := hi
      cases hi
      rcases h.1 with h3 | h3
      · exact absurd h3 hn
      · rw [h3]; rfl
    | succ i => exact h2 i v hi hn
/-- what stands in a local that is not asked for any more is no matter -/
theorem wp_drop {E : VE} {d y pc : Nat} {lo lo' st : List Value} {M : Mem} {L : LMem} {Q : QQ} (h : lsub lo lo') (k : Wp E d y pc lo st M L Q) : Wp E d y pc lo' st M L Q :=
  fun p e s m args below meth c C ls H locs hl hP hS => k p e s m args below meth c C ls H locs ⟨hl.1, (lsub_spec _ _ h).1.trans hl.2.1, hl.2.2.1, fun i v h1 h2 => hl.2.2.2 i v ((lsub_spec _ _ h).2 i v h1 h2) h2⟩ hP hS
theorem sw_ne {x : Int32} {v : Nat} (hv : v < 2 ^ 31) (h : ¬ x = Int32.ofInt (v : Int)) : x.toInt ≠ (v : Int) := by
  intro q
  apply h
  apply Int32.toInt_inj.mp
  rw [q, Int32.toInt_ofInt_of_le (by omega) (by omega)]
theorem vp_of {x : Int32} {n : Nat} (hn : n < 2 ^ 31) (h0 : ¬ x < 0) (h1 : ¬ Int32.ofInt (n : Int) ≤ x) : vp_in x n := by
  rw [vp_in_iff]
  rw [Int32.lt_iff_toInt_lt] at h0
  rw [Int32.le_iff_toInt_le, Int32.toInt_ofInt_of_le (by omega) (by omega)] at h1
  have : (0 : Int32).toInt = 0 := by decide
  omega

def f_X9_within (M : Mem) (x1 : Int32) (x2 : Int32) (x3 : Int32) : Int32 := (if x1 < x2 then Int32.ofInt 0 else (if x3 < x1 then Int32.ofInt 0 else Int32.ofInt 1))
theorem z_X9_within (M : Mem) (x1 : Int32) (x2 : Int32) (x3 : Int32) : f_X9_within M x1 x2 x3 = 0 ∨ f_X9_within M x1 x2 x3 = 1 := by
  unfold f_X9_within
  repeat' split
  all_goals first | exact Or.inl rfl | exact Or.inr rfl
theorem s_X9_within {E : VE} {d : Nat} {Q : QQ} {L : LMem} (M : Mem) (x1 : Int32) (x2 : Int32) (x3 : Int32) (hQ : Q (some (.int (f_X9_within M x1 x2 x3))) M L) : Wp E d 83 0 [.int x1, .int x2, .int x3] [] M L Q := by
  refine wp_seg (pc' := 2) [.iload 0, .iload 1] (by decide +kernel) (?_ : Wp E d 83 2 [.int x1, .int x2, .int x3] [.int x2, .int x1] M L Q)
  refine wp_icmplt (off := 12) 14 (by decide +kernel) (by decide) (fun c_1 => ?_) (fun c_1 => ?_)
  · refine wp_seg (pc' := 15) [.iconst 0] (by decide +kernel) (?_ : Wp E d 83 15 [.int x1, .int x2, .int x3] [.int (Int32.ofInt 0)] M L Q)
    exact wp_zret (by decide +kernel) rfl (by decide) (by rw [f_X9_within, if_pos c_1] at hQ; exact hQ)
  · refine wp_seg (pc' := 7) [.iload 0, .iload 2] (by decide +kernel) (?_ : Wp E d 83 7 [.int x1, .int x2, .int x3] [.int x3, .int x1] M L Q)
    refine wp_icmpgt (off := 7) 14 (by decide +kernel) (by decide) (fun c_2 => ?_) (fun c_2 => ?_)
    · refine wp_seg (pc' := 15) [.iconst 0] (by decide +kernel) (?_ : Wp E d 83 15 [.int x1, .int x2, .int x3] [.int (Int32.ofInt 0)] M L Q)
      exact wp_zret (by decide +kernel) rfl (by decide) (by rw [f_X9_within, if_neg c_1, if_pos c_2] at hQ; exact hQ)
    · refine wp_seg (pc' := 15) [.iconst 1, .goto 0] (by decide +kernel) (?_ : Wp E d 83 15 [.int x1, .int x2, .int x3] [.int (Int32.ofInt 1)] M L Q)
      exact wp_zret (by decide +kernel) rfl (by decide) (by rw [f_X9_within, if_neg c_1, if_neg c_2] at hQ; exact hQ)

def f_X9_isRoom (M : Mem) (x1 : Int32) : Int32 := f_X9_within M x1 (Int32.ofInt 0) (Int32.ofInt 7)
theorem z_X9_isRoom (M : Mem) (x1 : Int32) : f_X9_isRoom M x1 = 0 ∨ f_X9_isRoom M x1 = 1 := by
  unfold f_X9_isRoom
  repeat' split
  all_goals first | exact Or.inl rfl | exact Or.inr rfl | exact z_X9_within ..
theorem s_X9_isRoom {E : VE} {d : Nat} {Q : QQ} {L : LMem} (M : Mem) (x1 : Int32) (hQ : Q (some (.int (f_X9_isRoom M x1))) M L) : Wp E (d + 1) 84 0 [.int x1] [] M L Q := by
  refine wp_seg (pc' := 4) [.iload 0, .iconst 0, .iconst 7] (by decide +kernel) (?_ : Wp E (d + 1) 84 4 [.int x1] [.int (Int32.ofInt 7), .int (Int32.ofInt 0), .int x1] M L Q)
  refine wp_callS 83 [.int x1, .int (Int32.ofInt 0), .int (Int32.ofInt 7)] (i := 126) (by decide +kernel) (by decide +kernel) (by decide +kernel) rfl rfl rfl (rest := []) rfl rfl ?_
  refine s_X9_within M x1 (Int32.ofInt 0) (Int32.ofInt 7)  ?_
  show Wp E (d + 1) 84 7 [.int x1] [.int (f_X9_within M x1 (Int32.ofInt 0) (Int32.ofInt 7))] M L Q
  exact wp_zret (by decide +kernel) rfl (z_X9_within ..) hQ

def f_X9_twoRooms (M : Mem) (x1 : Int32) (x2 : Int32) : Int32 := (if (f_X9_isRoom M x1) = 0 then Int32.ofInt 0 else (if (f_X9_isRoom M x2) = 0 then Int32.ofInt 0 else (if x1 = x2 then Int32.ofInt 0 else Int32.ofInt 1)))
theorem z_X9_twoRooms (M : Mem) (x1 : Int32) (x2 : Int32) : f_X9_twoRooms M x1 x2 = 0 ∨ f_X9_twoRooms M x1 x2 = 1 := by
  unfold f_X9_twoRooms
  repeat' split
  all_goals first | exact Or.inl rfl | exact Or.inr rfl
theorem s_X9_twoRooms {E : VE} {d : Nat} {Q : QQ} {L : LMem} (M : Mem) (x1 : Int32) (x2 : Int32) (hQ : Q (some (.int (f_X9_twoRooms M x1 x2))) M L) : Wp E (d + 2) 85 0 [.int x1, .int x2] [] M L Q := by
  refine wp_seg (pc' := 1) [.iload 0] (by decide +kernel) (?_ : Wp E (d + 2) 85 1 [.int x1, .int x2] [.int x1] M L Q)
  refine wp_callS 84 [.int x1] (i := 150) (by decide +kernel) (by decide +kernel) (by decide +kernel) rfl rfl rfl (rest := []) rfl rfl ?_
  refine s_X9_isRoom M x1  ?_
  show Wp E (d + 2) 85 4 [.int x1, .int x2] [.int (f_X9_isRoom M x1)] M L Q
  refine wp_ifeq (off := 19) 23 (by decide +kernel) (by decide) (fun c_1 => ?_) (fun c_1 => ?_)
  · refine wp_seg (pc' := 24) [.iconst 0] (by decide +kernel) (?_ : Wp E (d + 2) 85 24 [.int x1, .int x2] [.int (Int32.ofInt 0)] M L Q)
    exact wp_zret (by decide +kernel) rfl (by decide) (by rw [f_X9_twoRooms, if_pos c_1] at hQ; exact hQ)
  · refine wp_seg (pc' := 8) [.iload 1] (by decide +kernel) (?_ : Wp E (d + 2) 85 8 [.int x1, .int x2] [.int x2] M L Q)
    refine wp_callS 84 [.int x2] (i := 150) (by decide +kernel) (by decide +kernel) (by decide +kernel) rfl rfl rfl (rest := []) rfl rfl ?_
    refine s_X9_isRoom M x2  ?_
    show Wp E (d + 2) 85 11 [.int x1, .int x2] [.int (f_X9_isRoom M x2)] M L Q
    refine wp_ifeq (off := 12) 23 (by decide +kernel) (by decide) (fun c_2 => ?_) (fun c_2 => ?_)
    · refine wp_seg (pc' := 24) [.iconst 0] (by decide +kernel) (?_ : Wp E (d + 2) 85 24 [.int x1, .int x2] [.int (Int32.ofInt 0)] M L Q)
      exact wp_zret (by decide +kernel) rfl (by decide) (by rw [f_X9_twoRooms, if_neg c_1, if_pos c_2] at hQ; exact hQ)
    · refine wp_seg (pc' := 16) [.iload 0, .iload 1] (by decide +kernel) (?_ : Wp E (d + 2) 85 16 [.int x1, .int x2] [.int x2, .int x1] M L Q)
      refine wp_icmpeq (off := 7) 23 (by decide +kernel) (by decide) (fun c_3 => ?_) (fun c_3 => ?_)
      · refine wp_seg (pc' := 24) [.iconst 0] (by decide +kernel) (?_ : Wp E (d + 2) 85 24 [.int x1, .int x2] [.int (Int32.ofInt 0)] M L Q)
        exact wp_zret (by decide +kernel) rfl (by decide) (by rw [f_X9_twoRooms, if_neg c_1, if_neg c_2, if_pos c_3] at hQ; exact hQ)
      · refine wp_seg (pc' := 24) [.iconst 1, .goto 0] (by decide +kernel) (?_ : Wp E (d + 2) 85 24 [.int x1, .int x2] [.int (Int32.ofInt 1)] M L Q)
        exact wp_zret (by decide +kernel) rfl (by decide) (by rw [f_X9_twoRooms, if_neg c_1, if_neg c_2, if_neg c_3] at hQ; exact hQ)

def f_X9_takenOf (M : Mem) (x1 : Int32) (x2 : Int32) (x3 : Int32) : Int32 := (x1 &&& (x3 ^^^ (Int32.ofInt (-1)))) ||| x2
theorem s_X9_takenOf {E : VE} {d : Nat} {Q : QQ} {L : LMem} (M : Mem) (x1 : Int32) (x2 : Int32) (x3 : Int32) (hQ : Q (some (.int (f_X9_takenOf M x1 x2 x3))) M L) : Wp E d 86 0 [.int x1, .int x2, .int x3] [] M L Q := by
  refine wp_seg (pc' := 7) [.iload 0, .iload 2, .iconst (-1), .ixor, .iand, .iload 1, .ior] (by decide +kernel) (?_ : Wp E d 86 7 [.int x1, .int x2, .int x3] [.int ((x1 &&& (x3 ^^^ (Int32.ofInt (-1)))) ||| x2)] M L Q)
  exact wp_iret (by decide +kernel) rfl hQ

def f_X5_signAt (M : Mem) (x1 : Int32) : Int32 := (if x1 < 0 then Int32.ofInt 0 else (if (M 1 1) ≤ x1 then Int32.ofInt 0 else (if (Int32.ofInt 60) ≤ x1 then Int32.ofInt 0 else M 2 x1.toNatClampNeg)))
theorem s_X5_signAt {E : VE} {d : Nat} {Q : QQ} {L : LMem} (M : Mem) (x1 : Int32) (hQ : Q (some (.int (f_X5_signAt M x1))) M L) : Wp E d 29 0 [.ref 1, .int x1] [] M L Q := by
  refine wp_seg (pc' := 1) [.iload 1] (by decide +kernel) (?_ : Wp E d 29 1 [.ref 1, .int x1] [.int x1] M L Q)
  refine wp_iflt (off := 26) 27 (by decide +kernel) (by decide) (fun c_1 => ?_) (fun c_1 => ?_)
  · refine wp_seg (pc' := 28) [.iconst 0] (by decide +kernel) (?_ : Wp E d 29 28 [.ref 1, .int x1] [.int (Int32.ofInt 0)] M L Q)
    exact wp_iret (by decide +kernel) rfl (by rw [f_X5_signAt, if_pos c_1] at hQ; exact hQ)
  · refine wp_seg (pc' := 9) [.iload 1, .aload 0, .getfield 321] (by decide +kernel) (?_ : Wp E d 29 9 [.ref 1, .int x1] [.int (M 1 1), .int x1] M L Q)
    refine wp_icmpge (off := 18) 27 (by decide +kernel) (by decide) (fun c_2 => ?_) (fun c_2 => ?_)
    · refine wp_seg (pc' := 28) [.iconst 0] (by decide +kernel) (?_ : Wp E d 29 28 [.ref 1, .int x1] [.int (Int32.ofInt 0)] M L Q)
      exact wp_iret (by decide +kernel) rfl (by rw [f_X5_signAt, if_neg c_1, if_pos c_2] at hQ; exact hQ)
    · refine wp_seg (pc' := 15) [.iload 1, .iconst 60] (by decide +kernel) (?_ : Wp E d 29 15 [.ref 1, .int x1] [.int (Int32.ofInt 60), .int x1] M L Q)
      refine wp_icmpge (off := 12) 27 (by decide +kernel) (by decide) (fun c_3 => ?_) (fun c_3 => ?_)
      · refine wp_seg (pc' := 28) [.iconst 0] (by decide +kernel) (?_ : Wp E d 29 28 [.ref 1, .int x1] [.int (Int32.ofInt 0)] M L Q)
        exact wp_iret (by decide +kernel) rfl (by rw [f_X5_signAt, if_neg c_1, if_neg c_2, if_pos c_3] at hQ; exact hQ)
      · refine wp_seg (pc' := 24) [.aload 0, .getfield 320, .iload 1, .iaload] (by decide +kernel) (show aok 2 0 x1 ∧ Wp E d 29 24 [.ref 1, .int x1] [.int (M 2 x1.toNatClampNeg)] M L Q from ⟨⟨rfl, (vp_of (n := 60) (by decide) c_1 c_3)⟩, ?_⟩)
        refine wp_seg (pc' := 28) [.goto 0] (by decide +kernel) (?_ : Wp E d 29 28 [.ref 1, .int x1] [.int (M 2 x1.toNatClampNeg)] M L Q)
        exact wp_iret (by decide +kernel) rfl (by rw [f_X5_signAt, if_neg c_1, if_neg c_2, if_neg c_3] at hQ; exact hQ)

def f_X5_roomAt (M : Mem) (x1 : Int32) : Int32 := f_X9_within M (f_X5_signAt M x1) (Int32.ofInt 65) (Int32.ofInt 72)
theorem z_X5_roomAt (M : Mem) (x1 : Int32) : f_X5_roomAt M x1 = 0 ∨ f_X5_roomAt M x1 = 1 := by
  unfold f_X5_roomAt
  repeat' split
  all_goals first | exact Or.inl rfl | exact Or.inr rfl | exact z_X9_within ..
theorem s_X5_roomAt {E : VE} {d : Nat} {Q : QQ} {L : LMem} (M : Mem) (x1 : Int32) (hQ : Q (some (.int (f_X5_roomAt M x1))) M L) : Wp E (d + 1) 30 0 [.ref 1, .int x1] [] M L Q := by
  refine wp_seg (pc' := 2) [.aload 0, .iload 1] (by decide +kernel) (?_ : Wp E (d + 1) 30 2 [.ref 1, .int x1] [.int x1, .ref 1] M L Q)
  refine wp_callV 29 1 [.int x1] (i := 19) (by decide +kernel) (by decide +kernel) (by decide +kernel) (by decide +kernel) rfl rfl rfl (rest := []) rfl rfl ?_
  refine s_X5_signAt M x1  ?_
  show Wp E (d + 1) 30 5 [.ref 1, .int x1] [.int (f_X5_signAt M x1)] M L Q
  refine wp_seg (pc' := 9) [.iconst 65, .iconst 72] (by decide +kernel) (?_ : Wp E (d + 1) 30 9 [.ref 1, .int x1] [.int (Int32.ofInt 72), .int (Int32.ofInt 65), .int (f_X5_signAt M x1)] M L Q)
  refine wp_callN 83 [.int (f_X5_signAt M x1), .int (Int32.ofInt 65), .int (Int32.ofInt 72)] (i := 23) (by decide +kernel) (by decide +kernel) (by decide +kernel) (by decide +kernel) rfl rfl rfl (rest := []) rfl rfl ?_
  refine s_X9_within M (f_X5_signAt M x1) (Int32.ofInt 65) (Int32.ofInt 72)  ?_
  show Wp E (d + 1) 30 12 [.ref 1, .int x1] [.int (f_X9_within M (f_X5_signAt M x1) (Int32.ofInt 65) (Int32.ofInt 72))] M L Q
  exact wp_zret (by decide +kernel) rfl (z_X9_within ..) hQ

def f_X5_otherRoomAt (M : Mem) (x1 : Int32) (x2 : Int32) : Int32 := (if (f_X5_roomAt M x1) = 0 then Int32.ofInt 0 else (if (f_X5_signAt M x1) = (f_X5_signAt M x2) then Int32.ofInt 0 else Int32.ofInt 1))
theorem z_X5_otherRoomAt (M : Mem) (x1 : Int32) (x2 : Int32) : f_X5_otherRoomAt M x1 x2 = 0 ∨ f_X5_otherRoomAt M x1 x2 = 1 := by
  unfold f_X5_otherRoomAt
  repeat' split
  all_goals first | exact Or.inl rfl | exact Or.inr rfl
theorem s_X5_otherRoomAt {E : VE} {d : Nat} {Q : QQ} {L : LMem} (M : Mem) (x1 : Int32) (x2 : Int32) (hQ : Q (some (.int (f_X5_otherRoomAt M x1 x2))) M L) : Wp E (d + 2) 31 0 [.ref 1, .int x1, .int x2] [] M L Q := by
  refine wp_seg (pc' := 2) [.aload 0, .iload 1] (by decide +kernel) (?_ : Wp E (d + 2) 31 2 [.ref 1, .int x1, .int x2] [.int x1, .ref 1] M L Q)
  refine wp_callV 30 1 [.int x1] (i := 27) (by decide +kernel) (by decide +kernel) (by decide +kernel) (by decide +kernel) rfl rfl rfl (rest := []) rfl rfl ?_
  refine s_X5_roomAt M x1  ?_
  show Wp E (d + 2) 31 5 [.ref 1, .int x1, .int x2] [.int (f_X5_roomAt M x1)] M L Q
  refine wp_ifeq (off := 20) 25 (by decide +kernel) (by decide) (fun c_1 => ?_) (fun c_1 => ?_)
  · refine wp_seg (pc' := 26) [.iconst 0] (by decide +kernel) (?_ : Wp E (d + 2) 31 26 [.ref 1, .int x1, .int x2] [.int (Int32.ofInt 0)] M L Q)
    exact wp_zret (by decide +kernel) rfl (by decide) (by rw [f_X5_otherRoomAt, if_pos c_1] at hQ; exact hQ)
  · refine wp_seg (pc' := 10) [.aload 0, .iload 1] (by decide +kernel) (?_ : Wp E (d + 2) 31 10 [.ref 1, .int x1, .int x2] [.int x1, .ref 1] M L Q)
    refine wp_callV 29 1 [.int x1] (i := 19) (by decide +kernel) (by decide +kernel) (by decide +kernel) (by decide +kernel) rfl rfl rfl (rest := []) rfl rfl ?_
    refine s_X5_signAt M x1  ?_
    show Wp E (d + 2) 31 13 [.ref 1, .int x1, .int x2] [.int (f_X5_signAt M x1)] M L Q
    refine wp_seg (pc' := 15) [.aload 0, .iload 2] (by decide +kernel) (?_ : Wp E (d + 2) 31 15 [.ref 1, .int x1, .int x2] [.int x2, .ref 1, .int (f_X5_signAt M x1)] M L Q)
    refine wp_callV 29 1 [.int x2] (i := 19) (by decide +kernel) (by decide +kernel) (by decide +kernel) (by decide +kernel) rfl rfl rfl (rest := [.int (f_X5_signAt M x1)]) rfl rfl ?_
    refine s_X5_signAt M x2  ?_
    show Wp E (d + 2) 31 18 [.ref 1, .int x1, .int x2] [.int (f_X5_signAt M x2), .int (f_X5_signAt M x1)] M L Q
    refine wp_icmpeq (off := 7) 25 (by decide +kernel) (by decide) (fun c_2 => ?_) (fun c_2 => ?_)
    · refine wp_seg (pc' := 26) [.iconst 0] (by decide +kernel) (?_ : Wp E (d + 2) 31 26 [.ref 1, .int x1, .int x2] [.int (Int32.ofInt 0)] M L Q)
      exact wp_zret (by decide +kernel) rfl (by decide) (by rw [f_X5_otherRoomAt, if_neg c_1, if_pos c_2] at hQ; exact hQ)
    · refine wp_seg (pc' := 26) [.iconst 1, .goto 0] (by decide +kernel) (?_ : Wp E (d + 2) 31 26 [.ref 1, .int x1, .int x2] [.int (Int32.ofInt 1)] M L Q)
      exact wp_zret (by decide +kernel) rfl (by decide) (by rw [f_X5_otherRoomAt, if_neg c_1, if_neg c_2] at hQ; exact hQ)

def f_X5_digitAt (M : Mem) (x1 : Int32) : Int32 := f_X9_within M (f_X5_signAt M x1) (Int32.ofInt 49) (Int32.ofInt 57)
theorem z_X5_digitAt (M : Mem) (x1 : Int32) : f_X5_digitAt M x1 = 0 ∨ f_X5_digitAt M x1 = 1 := by
  unfold f_X5_digitAt
  repeat' split
  all_goals first | exact Or.inl rfl | exact Or.inr rfl | exact z_X9_within ..
theorem s_X5_digitAt {E : VE} {d : Nat} {Q : QQ} {L : LMem} (M : Mem) (x1 : Int32) (hQ : Q (some (.int (f_X5_digitAt M x1))) M L) : Wp E (d + 1) 32 0 [.ref 1, .int x1] [] M L Q := by
  refine wp_seg (pc' := 2) [.aload 0, .iload 1] (by decide +kernel) (?_ : Wp E (d + 1) 32 2 [.ref 1, .int x1] [.int x1, .ref 1] M L Q)
  refine wp_callV 29 1 [.int x1] (i := 19) (by decide +kernel) (by decide +kernel) (by decide +kernel) (by decide +kernel) rfl rfl rfl (rest := []) rfl rfl ?_
  refine s_X5_signAt M x1  ?_
  show Wp E (d + 1) 32 5 [.ref 1, .int x1] [.int (f_X5_signAt M x1)] M L Q
  refine wp_seg (pc' := 9) [.iconst 49, .iconst 57] (by decide +kernel) (?_ : Wp E (d + 1) 32 9 [.ref 1, .int x1] [.int (Int32.ofInt 57), .int (Int32.ofInt 49), .int (f_X5_signAt M x1)] M L Q)
  refine wp_callN 83 [.int (f_X5_signAt M x1), .int (Int32.ofInt 49), .int (Int32.ofInt 57)] (i := 23) (by decide +kernel) (by decide +kernel) (by decide +kernel) (by decide +kernel) rfl rfl rfl (rest := []) rfl rfl ?_
  refine s_X9_within M (f_X5_signAt M x1) (Int32.ofInt 49) (Int32.ofInt 57)  ?_
  show Wp E (d + 1) 32 12 [.ref 1, .int x1] [.int (f_X9_within M (f_X5_signAt M x1) (Int32.ofInt 49) (Int32.ofInt 57))] M L Q
  exact wp_zret (by decide +kernel) rfl (z_X9_within ..) hQ

def f_X5_kindAt (M : Mem) (x1 : Int32) : Int32 := (if (f_X5_signAt M x1) = (Int32.ofInt 45) then Int32.ofInt 1 else (if (f_X5_signAt M x1) = (Int32.ofInt 62) then Int32.ofInt 1 else (if (f_X5_signAt M x1) = (Int32.ofInt 126) then Int32.ofInt 1 else (if (f_X5_signAt M x1) = (Int32.ofInt 61) then Int32.ofInt 1 else (if (f_X5_signAt M x1) = (Int32.ofInt 120) then Int32.ofInt 1 else Int32.ofInt 0)))))
theorem z_X5_kindAt (M : Mem) (x1 : Int32) : f_X5_kindAt M x1 = 0 ∨ f_X5_kindAt M x1 = 1 := by
  unfold f_X5_kindAt
  repeat' split
  all_goals first | exact Or.inl rfl | exact Or.inr rfl
theorem s_X5_kindAt {E : VE} {d : Nat} {Q : QQ} {L : LMem} (M : Mem) (x1 : Int32) (hQ : Q (some (.int (f_X5_kindAt M x1))) M L) : Wp E (d + 1) 33 0 [.ref 1, .int x1, .null] [] M L Q := by
  refine wp_seg (pc' := 2) [.aload 0, .iload 1] (by decide +kernel) (?_ : Wp E (d + 1) 33 2 [.ref 1, .int x1, .null] [.int x1, .ref 1] M L Q)
  refine wp_callV 29 1 [.int x1] (i := 19) (by decide +kernel) (by decide +kernel) (by decide +kernel) (by decide +kernel) rfl rfl rfl (rest := []) rfl rfl ?_
  refine s_X5_signAt M x1  ?_
  show Wp E (d + 1) 33 5 [.ref 1, .int x1, .null] [.int (f_X5_signAt M x1)] M L Q
  refine wp_seg (pc' := 9) [.istore 2, .iload 2, .iconst 45] (by decide +kernel) (?_ : Wp E (d + 1) 33 9 [.ref 1, .int x1, .int (f_X5_signAt M x1)] [.int (Int32.ofInt 45), .int (f_X5_signAt M x1)] M L Q)
  refine wp_icmpeq (off := 27) 36 (by decide +kernel) (by decide) (fun c_1 => ?_) (fun c_1 => ?_)
  · refine wp_seg (pc' := 41) [.iconst 1, .goto 0] (by decide +kernel) (?_ : Wp E (d + 1) 33 41 [.ref 1, .int x1, .int (f_X5_signAt M x1)] [.int (Int32.ofInt 1)] M L Q)
    exact wp_zret (by decide +kernel) rfl (by decide) (by rw [f_X5_kindAt, if_pos c_1] at hQ; exact hQ)
  · refine wp_seg (pc' := 15) [.iload 2, .iconst 62] (by decide +kernel) (?_ : Wp E (d + 1) 33 15 [.ref 1, .int x1, .int (f_X5_signAt M x1)] [.int (Int32.ofInt 62), .int (f_X5_signAt M x1)] M L Q)
    refine wp_icmpeq (off := 21) 36 (by decide +kernel) (by decide) (fun c_2 => ?_) (fun c_2 => ?_)
    · refine wp_seg (pc' := 41) [.iconst 1, .goto 0] (by decide +kernel) (?_ : Wp E (d + 1) 33 41 [.ref 1, .int x1, .int (f_X5_signAt M x1)] [.int (Int32.ofInt 1)] M L Q)
      exact wp_zret (by decide +kernel) rfl (by decide) (by rw [f_X5_kindAt, if_neg c_1, if_pos c_2] at hQ; exact hQ)
    · refine wp_seg (pc' := 21) [.iload 2, .iconst 126] (by decide +kernel) (?_ : Wp E (d + 1) 33 21 [.ref 1, .int x1, .int (f_X5_signAt M x1)] [.int (Int32.ofInt 126), .int (f_X5_signAt M x1)] M L Q)
      refine wp_icmpeq (off := 15) 36 (by decide +kernel) (by decide) (fun c_3 => ?_) (fun c_3 => ?_)
      · refine wp_seg (pc' := 41) [.iconst 1, .goto 0] (by decide +kernel) (?_ : Wp E (d + 1) 33 41 [.ref 1, .int x1, .int (f_X5_signAt M x1)] [.int (Int32.ofInt 1)] M L Q)
        exact wp_zret (by decide +kernel) rfl (by decide) (by rw [f_X5_kindAt, if_neg c_1, if_neg c_2, if_pos c_3] at hQ; exact hQ)
      · refine wp_seg (pc' := 27) [.iload 2, .iconst 61] (by decide +kernel) (?_ : Wp E (d + 1) 33 27 [.ref 1, .int x1, .int (f_X5_signAt M x1)] [.int (Int32.ofInt 61), .int (f_X5_signAt M x1)] M L Q)
        refine wp_icmpeq (off := 9) 36 (by decide +kernel) (by decide) (fun c_4 => ?_) (fun c_4 => ?_)
        · refine wp_seg (pc' := 41) [.iconst 1, .goto 0] (by decide +kernel) (?_ : Wp E (d + 1) 33 41 [.ref 1, .int x1, .int (f_X5_signAt M x1)] [.int (Int32.ofInt 1)] M L Q)
          exact wp_zret (by decide +kernel) rfl (by decide) (by rw [f_X5_kindAt, if_neg c_1, if_neg c_2, if_neg c_3, if_pos c_4] at hQ; exact hQ)
        · refine wp_seg (pc' := 33) [.iload 2, .iconst 120] (by decide +kernel) (?_ : Wp E (d + 1) 33 33 [.ref 1, .int x1, .int (f_X5_signAt M x1)] [.int (Int32.ofInt 120), .int (f_X5_signAt M x1)] M L Q)
          refine wp_icmpne (off := 7) 40 (by decide +kernel) (by decide) (fun c_5 => ?_) (fun c_5 => ?_)
          · refine wp_seg (pc' := 41) [.iconst 0] (by decide +kernel) (?_ : Wp E (d + 1) 33 41 [.ref 1, .int x1, .int (f_X5_signAt M x1)] [.int (Int32.ofInt 0)] M L Q)
            exact wp_zret (by decide +kernel) rfl (by decide) (by rw [f_X5_kindAt, if_neg c_1, if_neg c_2, if_neg c_3, if_neg c_4, if_neg c_5] at hQ; exact hQ)
          · refine wp_seg (pc' := 41) [.iconst 1, .goto 0] (by decide +kernel) (?_ : Wp E (d + 1) 33 41 [.ref 1, .int x1, .int (f_X5_signAt M x1)] [.int (Int32.ofInt 1)] M L Q)
            exact wp_zret (by decide +kernel) rfl (by decide) (by rw [f_X5_kindAt, if_neg c_1, if_neg c_2, if_neg c_3, if_neg c_4, if_pos c_5] at hQ; exact hQ)

def f_X5_roomOf (M : Mem) (x1 : Int32) : Int32 := (f_X5_signAt M x1) - (Int32.ofInt 65)
theorem s_X5_roomOf {E : VE} {d : Nat} {Q : QQ} {L : LMem} (M : Mem) (x1 : Int32) (hQ : Q (some (.int (f_X5_roomOf M x1))) M L) : Wp E (d + 1) 34 0 [.ref 1, .int x1] [] M L Q := by
  refine wp_seg (pc' := 2) [.aload 0, .iload 1] (by decide +kernel) (?_ : Wp E (d + 1) 34 2 [.ref 1, .int x1] [.int x1, .ref 1] M L Q)
  refine wp_callV 29 1 [.int x1] (i := 19) (by decide +kernel) (by decide +kernel) (by decide +kernel) (by decide +kernel) rfl rfl rfl (rest := []) rfl rfl ?_
  refine s_X5_signAt M x1  ?_
  show Wp E (d + 1) 34 5 [.ref 1, .int x1] [.int (f_X5_signAt M x1)] M L Q
  refine wp_seg (pc' := 8) [.iconst 65, .isub] (by decide +kernel) (?_ : Wp E (d + 1) 34 8 [.ref 1, .int x1] [.int ((f_X5_signAt M x1) - (Int32.ofInt 65))] M L Q)
  exact wp_iret (by decide +kernel) rfl hQ

def f_X5_numberOf (M : Mem) (x1 : Int32) : Int32 := (f_X5_signAt M x1) - (Int32.ofInt 48)
theorem s_X5_numberOf {E : VE} {d : Nat} {Q : QQ} {L : LMem} (M : Mem) (x1 : Int32) (hQ : Q (some (.int (f_X5_numberOf M x1))) M L) : Wp E (d + 1) 35 0 [.ref 1, .int x1] [] M L Q := by
  refine wp_seg (pc' := 2) [.aload 0, .iload 1] (by decide +kernel) (?_ : Wp E (d + 1) 35 2 [.ref 1, .int x1] [.int x1, .ref 1] M L Q)
  refine wp_callV 29 1 [.int x1] (i := 19) (by decide +kernel) (by decide +kernel) (by decide +kernel) (by decide +kernel) rfl rfl rfl (rest := []) rfl rfl ?_
  refine s_X5_signAt M x1  ?_
  show Wp E (d + 1) 35 5 [.ref 1, .int x1] [.int (f_X5_signAt M x1)] M L Q
  refine wp_seg (pc' := 8) [.iconst 48, .isub] (by decide +kernel) (?_ : Wp E (d + 1) 35 8 [.ref 1, .int x1] [.int ((f_X5_signAt M x1) - (Int32.ofInt 48))] M L Q)
  exact wp_iret (by decide +kernel) rfl hQ

def f_X5_empty (M : Mem) : Int32 := M 1 1
def g_X5_empty (M : Mem) : Mem := (mput M 1 1 (Int32.ofInt 0))
theorem s_X5_empty {E : VE} {d : Nat} {Q : QQ} {L : LMem} (M : Mem) (hQ : Q (some (.int (f_X5_empty M))) (g_X5_empty M) L) : Wp E d 28 0 [.ref 1, .null] [] M L Q := by
  refine wp_seg (pc' := 11) [.aload 0, .getfield 321, .istore 1, .aload 0, .iconst 0, .putfield 321, .iload 1] (by decide +kernel) (?_ : Wp E d 28 11 [.ref 1, .int (M 1 1)] [.int (M 1 1)] (mput M 1 1 (Int32.ofInt 0)) L Q)
  exact wp_iret (by decide +kernel) rfl hQ

def f_X5_add (M : Mem) (x1 : Int32) : Int32 := (if (M 1 1) < (Int32.ofInt 60) then Int32.ofInt 1 else Int32.ofInt 0)
def g_X5_add (M : Mem) (x1 : Int32) : Mem := (if (M 1 1) < (Int32.ofInt 60) then (mput (mput M 2 ((M 1 1).toNatClampNeg) x1) 1 1 ((M 1 1) + (Int32.ofInt 1))) else M)
theorem z_X5_add (M : Mem) (x1 : Int32) : f_X5_add M x1 = 0 ∨ f_X5_add M x1 = 1 := by
  unfold f_X5_add
  repeat' split
  all_goals first | exact Or.inl rfl | exact Or.inr rfl
theorem s_X5_add {E : VE} {d : Nat} {Q : QQ} {L : LMem} (M : Mem) (x1 : Int32) (o_1 : (M 1 1) < (Int32.ofInt 60) → vp_in (M 1 1) 60) (hQ : Q (some (.int (f_X5_add M x1))) (g_X5_add M x1) L) : Wp E d 27 0 [.ref 1, .int x1] [] M L Q := by
  refine wp_seg (pc' := 6) [.aload 0, .getfield 321, .iconst 60] (by decide +kernel) (?_ : Wp E d 27 6 [.ref 1, .int x1] [.int (Int32.ofInt 60), .int (M 1 1)] M L Q)
  refine wp_icmplt (off := 5) 11 (by decide +kernel) (by decide) (fun c_1 => ?_) (fun c_1 => ?_)
  · refine wp_seg (pc' := 21) [.aload 0, .getfield 320, .aload 0, .getfield 321, .iload 1, .iastore] (by decide +kernel) (show aok 2 0 (M 1 1) ∧ Wp E d 27 21 [.ref 1, .int x1] [] (mput M 2 ((M 1 1).toNatClampNeg) x1) L Q from ⟨⟨rfl, (o_1 c_1)⟩, ?_⟩)
    refine wp_seg (pc' := 32) [.aload 0, .dup, .getfield 321, .iconst 1, .iadd, .putfield 321, .iconst 1] (by decide +kernel) (?_ : Wp E d 27 32 [.ref 1, .int x1] [.int (Int32.ofInt 1)] (mput (mput M 2 ((M 1 1).toNatClampNeg) x1) 1 1 ((M 1 1) + (Int32.ofInt 1))) L Q)
    exact wp_zret (by decide +kernel) rfl (by decide) (by rw [f_X5_add, if_pos c_1, g_X5_add, if_pos c_1] at hQ; exact hQ)
  · refine wp_seg (pc' := 10) [.iconst 0] (by decide +kernel) (?_ : Wp E d 27 10 [.ref 1, .int x1] [.int (Int32.ofInt 0)] M L Q)
    exact wp_zret (by decide +kernel) rfl (by decide) (by rw [f_X5_add, if_neg c_1, g_X5_add, if_neg c_1] at hQ; exact hQ)

def f_X1_carried (M : Mem) (x1 : Int32) (x2 : Int32) : Int32 := (if x2 < x1 then Int32.ofInt 99 else x1)
theorem s_X1_carried {E : VE} {d : Nat} {Q : QQ} {L : LMem} (M : Mem) (x1 : Int32) (x2 : Int32) (hQ : Q (some (.int (f_X1_carried M x1 x2))) M L) : Wp E d 8 0 [.int x1, .int x2] [] M L Q := by
  refine wp_seg (pc' := 2) [.iload 0, .iload 1] (by decide +kernel) (?_ : Wp E d 8 2 [.int x1, .int x2] [.int x2, .int x1] M L Q)
  refine wp_icmpgt (off := 7) 9 (by decide +kernel) (by decide) (fun c_1 => ?_) (fun c_1 => ?_)
  · refine wp_seg (pc' := 11) [.iconst 99] (by decide +kernel) (?_ : Wp E d 8 11 [.int x1, .int x2] [.int (Int32.ofInt 99)] M L Q)
    exact wp_iret (by decide +kernel) rfl (by rw [f_X1_carried, if_pos c_1] at hQ; exact hQ)
  · refine wp_seg (pc' := 11) [.iload 0, .goto 0] (by decide +kernel) (?_ : Wp E d 8 11 [.int x1, .int x2] [.int x1] M L Q)
    exact wp_iret (by decide +kernel) rfl (by rw [f_X1_carried, if_neg c_1] at hQ; exact hQ)

def f_X2_beyond (M : Mem) (x1 : Int32) (x2 : Int32) : Int32 := (if (M 7 x1.toNatClampNeg) = (Int32.ofInt 120) then Int32.ofInt (-6) else (if (M 5 x1.toNatClampNeg) = x2 then M 6 x1.toNatClampNeg else (if (M 6 x1.toNatClampNeg) = x2 then (if (M 7 x1.toNatClampNeg) = (Int32.ofInt 62) then Int32.ofInt (-6) else M 5 x1.toNatClampNeg) else Int32.ofInt (-6))))
theorem s_X2_beyond {E : VE} {d : Nat} {Q : QQ} {L : LMem} (M : Mem) (x1 : Int32) (x2 : Int32) (o_1 : vp_in x1 12) (hQ : Q (some (.int (f_X2_beyond M x1 x2))) M L) : Wp E d 13 0 [.ref 4, .int x1, .int x2] [] M L Q := by
  refine wp_seg (pc' := 6) [.aload 0, .getfield 130, .iload 1, .iaload] (by decide +kernel) (show aok 7 0 x1 ∧ Wp E d 13 6 [.ref 4, .int x1, .int x2] [.int (M 7 x1.toNatClampNeg)] M L Q from ⟨⟨rfl, (o_1)⟩, ?_⟩)
  refine wp_seg (pc' := 8) [.iconst 120] (by decide +kernel) (?_ : Wp E d 13 8 [.ref 4, .int x1, .int x2] [.int (Int32.ofInt 120), .int (M 7 x1.toNatClampNeg)] M L Q)
  refine wp_icmpne (off := 6) 14 (by decide +kernel) (by decide) (fun c_1 => ?_) (fun c_1 => ?_)
  · refine wp_seg (pc' := 20) [.aload 0, .getfield 128, .iload 1, .iaload] (by decide +kernel) (show aok 5 0 x1 ∧ Wp E d 13 20 [.ref 4, .int x1, .int x2] [.int (M 5 x1.toNatClampNeg)] M L Q from ⟨⟨rfl, (o_1)⟩, ?_⟩)
    refine wp_seg (pc' := 21) [.iload 2] (by decide +kernel) (?_ : Wp E d 13 21 [.ref 4, .int x1, .int x2] [.int x2, .int (M 5 x1.toNatClampNeg)] M L Q)
    refine wp_icmpne (off := 10) 31 (by decide +kernel) (by decide) (fun c_2 => ?_) (fun c_2 => ?_)
    · refine wp_seg (pc' := 37) [.aload 0, .getfield 129, .iload 1, .iaload] (by decide +kernel) (show aok 6 0 x1 ∧ Wp E d 13 37 [.ref 4, .int x1, .int x2] [.int (M 6 x1.toNatClampNeg)] M L Q from ⟨⟨rfl, (o_1)⟩, ?_⟩)
      refine wp_seg (pc' := 38) [.iload 2] (by decide +kernel) (?_ : Wp E d 13 38 [.ref 4, .int x1, .int x2] [.int x2, .int (M 6 x1.toNatClampNeg)] M L Q)
      refine wp_icmpne (off := 23) 61 (by decide +kernel) (by decide) (fun c_3 => ?_) (fun c_3 => ?_)
      · refine wp_seg (pc' := 63) [.iconst (-6)] (by decide +kernel) (?_ : Wp E d 13 63 [.ref 4, .int x1, .int x2] [.int (Int32.ofInt (-6))] M L Q)
        exact wp_iret (by decide +kernel) rfl (by rw [f_X2_beyond, if_neg c_1, if_neg c_2, if_neg c_3] at hQ; exact hQ)
      · refine wp_seg (pc' := 47) [.aload 0, .getfield 130, .iload 1, .iaload] (by decide +kernel) (show aok 7 0 x1 ∧ Wp E d 13 47 [.ref 4, .int x1, .int x2] [.int (M 7 x1.toNatClampNeg)] M L Q from ⟨⟨rfl, (o_1)⟩, ?_⟩)
        refine wp_seg (pc' := 49) [.iconst 62] (by decide +kernel) (?_ : Wp E d 13 49 [.ref 4, .int x1, .int x2] [.int (Int32.ofInt 62), .int (M 7 x1.toNatClampNeg)] M L Q)
        refine wp_icmpeq (off := 12) 61 (by decide +kernel) (by decide) (fun c_4 => ?_) (fun c_4 => ?_)
        · refine wp_seg (pc' := 63) [.iconst (-6)] (by decide +kernel) (?_ : Wp E d 13 63 [.ref 4, .int x1, .int x2] [.int (Int32.ofInt (-6))] M L Q)
          exact wp_iret (by decide +kernel) rfl (by rw [f_X2_beyond, if_neg c_1, if_neg c_2, if_pos c_3, if_pos c_4] at hQ; exact hQ)
        · refine wp_seg (pc' := 58) [.aload 0, .getfield 128, .iload 1, .iaload] (by decide +kernel) (show aok 5 0 x1 ∧ Wp E d 13 58 [.ref 4, .int x1, .int x2] [.int (M 5 x1.toNatClampNeg)] M L Q from ⟨⟨rfl, (o_1)⟩, ?_⟩)
          refine wp_seg (pc' := 63) [.goto 0] (by decide +kernel) (?_ : Wp E d 13 63 [.ref 4, .int x1, .int x2] [.int (M 5 x1.toNatClampNeg)] M L Q)
          exact wp_iret (by decide +kernel) rfl (by rw [f_X2_beyond, if_neg c_1, if_neg c_2, if_pos c_3, if_neg c_4] at hQ; exact hQ)
    · refine wp_seg (pc' := 30) [.aload 0, .getfield 129, .iload 1, .iaload] (by decide +kernel) (show aok 6 0 x1 ∧ Wp E d 13 30 [.ref 4, .int x1, .int x2] [.int (M 6 x1.toNatClampNeg)] M L Q from ⟨⟨rfl, (o_1)⟩, ?_⟩)
      exact wp_iret (by decide +kernel) rfl (by rw [f_X2_beyond, if_neg c_1, if_pos c_2] at hQ; exact hQ)
  · refine wp_seg (pc' := 13) [.iconst (-6)] (by decide +kernel) (?_ : Wp E d 13 13 [.ref 4, .int x1, .int x2] [.int (Int32.ofInt (-6))] M L Q)
    exact wp_iret (by decide +kernel) rfl (by rw [f_X2_beyond, if_pos c_1] at hQ; exact hQ)

def f_X6_stepOf (M : Mem) (x2 : Int32) : Int32 := ((M 8 x2.toNatClampNeg) <<< ((Int32.ofInt 4) &&& 31)) + (Int32.ofInt 1)
theorem s_X6_stepOf {E : VE} {d : Nat} {Q : QQ} {L : LMem} (M : Mem) (x2 : Int32) (o_1 : vp_in x2 12) (hQ : Q (some (.int (f_X6_stepOf M x2))) M L) : Wp E d 41 0 [.ref 4, .int x2] [] M L Q := by
  refine wp_seg (pc' := 6) [.aload 0, .getfield 131, .iload 1, .iaload] (by decide +kernel) (show aok 8 0 x2 ∧ Wp E d 41 6 [.ref 4, .int x2] [.int (M 8 x2.toNatClampNeg)] M L Q from ⟨⟨rfl, (o_1)⟩, ?_⟩)
  refine wp_seg (pc' := 10) [.iconst 4, .ishl, .iconst 1, .iadd] (by decide +kernel) (?_ : Wp E d 41 10 [.ref 4, .int x2] [.int (((M 8 x2.toNatClampNeg) <<< ((Int32.ofInt 4) &&& 31)) + (Int32.ofInt 1))] M L Q)
  exact wp_iret (by decide +kernel) rfl hQ

def f_X6_bringsNearer (M : Mem) (x2 : Int32) : Int32 := (if (M 7 x2.toNatClampNeg) = (Int32.ofInt 120) then Int32.ofInt 0 else (if (M 38 ((M 5 x2.toNatClampNeg).toNatClampNeg)) ≤ ((M 38 ((M 6 x2.toNatClampNeg).toNatClampNeg)) + (f_X6_stepOf M x2)) then (if (M 7 x2.toNatClampNeg) = (Int32.ofInt 62) then Int32.ofInt 0 else (if (M 38 ((M 6 x2.toNatClampNeg).toNatClampNeg)) ≤ ((M 38 ((M 5 x2.toNatClampNeg).toNatClampNeg)) + (f_X6_stepOf M x2)) then Int32.ofInt 0 else Int32.ofInt 1)) else Int32.ofInt 1))
def g_X6_bringsNearer (M : Mem) (x2 : Int32) : Mem := (if (M 7 x2.toNatClampNeg) = (Int32.ofInt 120) then M else (if (M 38 ((M 5 x2.toNatClampNeg).toNatClampNeg)) ≤ ((M 38 ((M 6 x2.toNatClampNeg).toNatClampNeg)) + (f_X6_stepOf M x2)) then (if (M 7 x2.toNatClampNeg) = (Int32.ofInt 62) then M else (if (M 38 ((M 6 x2.toNatClampNeg).toNatClampNeg)) ≤ ((M 38 ((M 5 x2.toNatClampNeg).toNatClampNeg)) + (f_X6_stepOf M x2)) then M else (mput M 38 ((M 6 x2.toNatClampNeg).toNatClampNeg) ((M 38 ((M 5 x2.toNatClampNeg).toNatClampNeg)) + (f_X6_stepOf M x2))))) else (mput M 38 ((M 5 x2.toNatClampNeg).toNatClampNeg) ((M 38 ((M 6 x2.toNatClampNeg).toNatClampNeg)) + (f_X6_stepOf M x2)))))
theorem z_X6_bringsNearer (M : Mem) (x2 : Int32) : f_X6_bringsNearer M x2 = 0 ∨ f_X6_bringsNearer M x2 = 1 := by
  unfold f_X6_bringsNearer
  repeat' split
  all_goals first | exact Or.inl rfl | exact Or.inr rfl
theorem s_X6_bringsNearer {E : VE} {d : Nat} {Q : QQ} {L : LMem} (M : Mem) (x2 : Int32) (o_1 : vp_in x2 12) (o_2 : (vp_in x2 12)) (o_3 : ¬ ((M 7 x2.toNatClampNeg) = (Int32.ofInt 120)) → vp_in (M 6 x2.toNatClampNeg) 8) (o_4 : ¬ ((M 7 x2.toNatClampNeg) = (Int32.ofInt 120)) → vp_in (M 5 x2.toNatClampNeg) 8) (hQ : Q (some (.int (f_X6_bringsNearer M x2))) (g_X6_bringsNearer M x2) L) : Wp E (d + 1) 40 0 [.ref 37, .ref 4, .int x2, .null, .null, .null, .null] [] M L Q := by
  refine wp_seg (pc' := 6) [.aload 1, .getfield 128, .iload 2, .iaload] (by decide +kernel) (show aok 5 0 x2 ∧ Wp E (d + 1) 40 6 [.ref 37, .ref 4, .int x2, .null, .null, .null, .null] [.int (M 5 x2.toNatClampNeg)] M L Q from ⟨⟨rfl, (o_1)⟩, ?_⟩)
  refine wp_seg (pc' := 13) [.istore 3, .aload 1, .getfield 129, .iload 2, .iaload] (by decide +kernel) (show aok 6 0 x2 ∧ Wp E (d + 1) 40 13 [.ref 37, .ref 4, .int x2, .int (M 5 x2.toNatClampNeg), .null, .null, .null] [.int (M 6 x2.toNatClampNeg)] M L Q from ⟨⟨rfl, (o_1)⟩, ?_⟩)
  refine wp_seg (pc' := 21) [.istore 4, .aload 1, .getfield 130, .iload 2, .iaload] (by decide +kernel) (show aok 7 0 x2 ∧ Wp E (d + 1) 40 21 [.ref 37, .ref 4, .int x2, .int (M 5 x2.toNatClampNeg), .int (M 6 x2.toNatClampNeg), .null, .null] [.int (M 7 x2.toNatClampNeg)] M L Q from ⟨⟨rfl, (o_1)⟩, ?_⟩)
  refine wp_seg (pc' := 25) [.istore 5, .aload 1, .iload 2] (by decide +kernel) (?_ : Wp E (d + 1) 40 25 [.ref 37, .ref 4, .int x2, .int (M 5 x2.toNatClampNeg), .int (M 6 x2.toNatClampNeg), .int (M 7 x2.toNatClampNeg), .null] [.int x2, .ref 4] M L Q)
  refine wp_callS 41 [.ref 4, .int x2] (i := 55) (by decide +kernel) (by decide +kernel) (by decide +kernel) rfl rfl rfl (rest := []) rfl rfl ?_
  refine s_X6_stepOf M x2 (o_2) ?_
  show Wp E (d + 1) 40 28 [.ref 37, .ref 4, .int x2, .int (M 5 x2.toNatClampNeg), .int (M 6 x2.toNatClampNeg), .int (M 7 x2.toNatClampNeg), .null] [.int (f_X6_stepOf M x2)] M L Q
  refine wp_seg (pc' := 34) [.istore 6, .iload 5, .iconst 120] (by decide +kernel) (?_ : Wp E (d + 1) 40 34 [.ref 37, .ref 4, .int x2, .int (M 5 x2.toNatClampNeg), .int (M 6 x2.toNatClampNeg), .int (M 7 x2.toNatClampNeg), .int (f_X6_stepOf M x2)] [.int (Int32.ofInt 120), .int (M 7 x2.toNatClampNeg)] M L Q)
  refine wp_icmpeq (off := 40) 74 (by decide +kernel) (by decide) (fun c_1 => ?_) (fun c_1 => ?_)
  · refine wp_seg (pc' := 78) [.iload 5, .iconst 120] (by decide +kernel) (?_ : Wp E (d + 1) 40 78 [.ref 37, .ref 4, .int x2, .int (M 5 x2.toNatClampNeg), .int (M 6 x2.toNatClampNeg), .int (M 7 x2.toNatClampNeg), .int (f_X6_stepOf M x2)] [.int (Int32.ofInt 120), .int (M 7 x2.toNatClampNeg)] M L Q)
    refine wp_icmpeq (off := 47) 125 (by decide +kernel) (by decide) (fun c_2 => ?_) (fun c_2 => ?_)
    · refine wp_seg (pc' := 126) [.iconst 0] (by decide +kernel) (?_ : Wp E (d + 1) 40 126 [.ref 37, .ref 4, .int x2, .int (M 5 x2.toNatClampNeg), .int (M 6 x2.toNatClampNeg), .int (M 7 x2.toNatClampNeg), .int (f_X6_stepOf M x2)] [.int (Int32.ofInt 0)] M L Q)
      exact wp_zret (by decide +kernel) rfl (by decide) (by rw [f_X6_bringsNearer, if_pos c_1, g_X6_bringsNearer, if_pos c_1] at hQ; exact hQ)
    · exact absurd c_1 c_2
  · refine wp_seg (pc' := 44) [.aload 0, .getfield 384, .iload 4, .iaload] (by decide +kernel) (show aok 38 0 (M 6 x2.toNatClampNeg) ∧ Wp E (d + 1) 40 44 [.ref 37, .ref 4, .int x2, .int (M 5 x2.toNatClampNeg), .int (M 6 x2.toNatClampNeg), .int (M 7 x2.toNatClampNeg), .int (f_X6_stepOf M x2)] [.int (M 38 ((M 6 x2.toNatClampNeg).toNatClampNeg))] M L Q from ⟨⟨rfl, (o_3 c_1)⟩, ?_⟩)
    refine wp_seg (pc' := 53) [.iload 6, .iadd, .aload 0, .getfield 384, .iload 3, .iaload] (by decide +kernel) (show aok 38 0 (M 5 x2.toNatClampNeg) ∧ Wp E (d + 1) 40 53 [.ref 37, .ref 4, .int x2, .int (M 5 x2.toNatClampNeg), .int (M 6 x2.toNatClampNeg), .int (M 7 x2.toNatClampNeg), .int (f_X6_stepOf M x2)] [.int (M 38 ((M 5 x2.toNatClampNeg).toNatClampNeg)), .int ((M 38 ((M 6 x2.toNatClampNeg).toNatClampNeg)) + (f_X6_stepOf M x2))] M L Q from ⟨⟨rfl, (o_4 c_1)⟩, ?_⟩)
    refine wp_icmpge (off := 21) 74 (by decide +kernel) (by decide) (fun c_3 => ?_) (fun c_3 => ?_)
    · refine wp_seg (pc' := 78) [.iload 5, .iconst 120] (by decide +kernel) (?_ : Wp E (d + 1) 40 78 [.ref 37, .ref 4, .int x2, .int (M 5 x2.toNatClampNeg), .int (M 6 x2.toNatClampNeg), .int (M 7 x2.toNatClampNeg), .int (f_X6_stepOf M x2)] [.int (Int32.ofInt 120), .int (M 7 x2.toNatClampNeg)] M L Q)
      refine wp_icmpeq (off := 47) 125 (by decide +kernel) (by decide) (fun c_4 => ?_) (fun c_4 => ?_)
      · exact absurd c_4 c_1
      · refine wp_seg (pc' := 85) [.iload 5, .iconst 62] (by decide +kernel) (?_ : Wp E (d + 1) 40 85 [.ref 37, .ref 4, .int x2, .int (M 5 x2.toNatClampNeg), .int (M 6 x2.toNatClampNeg), .int (M 7 x2.toNatClampNeg), .int (f_X6_stepOf M x2)] [.int (Int32.ofInt 62), .int (M 7 x2.toNatClampNeg)] M L Q)
        refine wp_icmpeq (off := 40) 125 (by decide +kernel) (by decide) (fun c_5 => ?_) (fun c_5 => ?_)
        · refine wp_seg (pc' := 126) [.iconst 0] (by decide +kernel) (?_ : Wp E (d + 1) 40 126 [.ref 37, .ref 4, .int x2, .int (M 5 x2.toNatClampNeg), .int (M 6 x2.toNatClampNeg), .int (M 7 x2.toNatClampNeg), .int (f_X6_stepOf M x2)] [.int (Int32.ofInt 0)] M L Q)
          exact wp_zret (by decide +kernel) rfl (by decide) (by rw [f_X6_bringsNearer, if_neg c_1, if_pos c_3, if_pos c_5, g_X6_bringsNearer, if_neg c_1, if_pos c_3, if_pos c_5] at hQ; exact hQ)
        · refine wp_seg (pc' := 94) [.aload 0, .getfield 384, .iload 3, .iaload] (by decide +kernel) (show aok 38 0 (M 5 x2.toNatClampNeg) ∧ Wp E (d + 1) 40 94 [.ref 37, .ref 4, .int x2, .int (M 5 x2.toNatClampNeg), .int (M 6 x2.toNatClampNeg), .int (M 7 x2.toNatClampNeg), .int (f_X6_stepOf M x2)] [.int (M 38 ((M 5 x2.toNatClampNeg).toNatClampNeg))] M L Q from ⟨⟨rfl, (o_4 c_1)⟩, ?_⟩)
          refine wp_seg (pc' := 104) [.iload 6, .iadd, .aload 0, .getfield 384, .iload 4, .iaload] (by decide +kernel) (show aok 38 0 (M 6 x2.toNatClampNeg) ∧ Wp E (d + 1) 40 104 [.ref 37, .ref 4, .int x2, .int (M 5 x2.toNatClampNeg), .int (M 6 x2.toNatClampNeg), .int (M 7 x2.toNatClampNeg), .int (f_X6_stepOf M x2)] [.int (M 38 ((M 6 x2.toNatClampNeg).toNatClampNeg)), .int ((M 38 ((M 5 x2.toNatClampNeg).toNatClampNeg)) + (f_X6_stepOf M x2))] M L Q from ⟨⟨rfl, (o_3 c_1)⟩, ?_⟩)
          refine wp_icmpge (off := 21) 125 (by decide +kernel) (by decide) (fun c_6 => ?_) (fun c_6 => ?_)
          · refine wp_seg (pc' := 126) [.iconst 0] (by decide +kernel) (?_ : Wp E (d + 1) 40 126 [.ref 37, .ref 4, .int x2, .int (M 5 x2.toNatClampNeg), .int (M 6 x2.toNatClampNeg), .int (M 7 x2.toNatClampNeg), .int (f_X6_stepOf M x2)] [.int (Int32.ofInt 0)] M L Q)
            exact wp_zret (by decide +kernel) rfl (by decide) (by rw [f_X6_bringsNearer, if_neg c_1, if_pos c_3, if_neg c_5, if_pos c_6, g_X6_bringsNearer, if_neg c_1, if_pos c_3, if_neg c_5, if_pos c_6] at hQ; exact hQ)
          · refine wp_seg (pc' := 119) [.aload 0, .getfield 384, .iload 4, .aload 0, .getfield 384, .iload 3, .iaload] (by decide +kernel) (show aok 38 0 (M 5 x2.toNatClampNeg) ∧ Wp E (d + 1) 40 119 [.ref 37, .ref 4, .int x2, .int (M 5 x2.toNatClampNeg), .int (M 6 x2.toNatClampNeg), .int (M 7 x2.toNatClampNeg), .int (f_X6_stepOf M x2)] [.int (M 38 ((M 5 x2.toNatClampNeg).toNatClampNeg)), .int (M 6 x2.toNatClampNeg), .ref 38] M L Q from ⟨⟨rfl, (o_4 c_1)⟩, ?_⟩)
            refine wp_seg (pc' := 123) [.iload 6, .iadd, .iastore] (by decide +kernel) (show aok 38 0 (M 6 x2.toNatClampNeg) ∧ Wp E (d + 1) 40 123 [.ref 37, .ref 4, .int x2, .int (M 5 x2.toNatClampNeg), .int (M 6 x2.toNatClampNeg), .int (M 7 x2.toNatClampNeg), .int (f_X6_stepOf M x2)] [] (mput M 38 ((M 6 x2.toNatClampNeg).toNatClampNeg) ((M 38 ((M 5 x2.toNatClampNeg).toNatClampNeg)) + (f_X6_stepOf M x2))) L Q from ⟨⟨rfl, (o_3 c_1)⟩, ?_⟩)
            refine wp_seg (pc' := 124) [.iconst 1] (by decide +kernel) (?_ : Wp E (d + 1) 40 124 [.ref 37, .ref 4, .int x2, .int (M 5 x2.toNatClampNeg), .int (M 6 x2.toNatClampNeg), .int (M 7 x2.toNatClampNeg), .int (f_X6_stepOf M x2)] [.int (Int32.ofInt 1)] (mput M 38 ((M 6 x2.toNatClampNeg).toNatClampNeg) ((M 38 ((M 5 x2.toNatClampNeg).toNatClampNeg)) + (f_X6_stepOf M x2))) L Q)
            exact wp_zret (by decide +kernel) rfl (by decide) (by rw [f_X6_bringsNearer, if_neg c_1, if_pos c_3, if_neg c_5, if_neg c_6, g_X6_bringsNearer, if_neg c_1, if_pos c_3, if_neg c_5, if_neg c_6] at hQ; exact hQ)
    · refine wp_seg (pc' := 68) [.aload 0, .getfield 384, .iload 3, .aload 0, .getfield 384, .iload 4, .iaload] (by decide +kernel) (show aok 38 0 (M 6 x2.toNatClampNeg) ∧ Wp E (d + 1) 40 68 [.ref 37, .ref 4, .int x2, .int (M 5 x2.toNatClampNeg), .int (M 6 x2.toNatClampNeg), .int (M 7 x2.toNatClampNeg), .int (f_X6_stepOf M x2)] [.int (M 38 ((M 6 x2.toNatClampNeg).toNatClampNeg)), .int (M 5 x2.toNatClampNeg), .ref 38] M L Q from ⟨⟨rfl, (o_3 c_1)⟩, ?_⟩)
      refine wp_seg (pc' := 72) [.iload 6, .iadd, .iastore] (by decide +kernel) (show aok 38 0 (M 5 x2.toNatClampNeg) ∧ Wp E (d + 1) 40 72 [.ref 37, .ref 4, .int x2, .int (M 5 x2.toNatClampNeg), .int (M 6 x2.toNatClampNeg), .int (M 7 x2.toNatClampNeg), .int (f_X6_stepOf M x2)] [] (mput M 38 ((M 5 x2.toNatClampNeg).toNatClampNeg) ((M 38 ((M 6 x2.toNatClampNeg).toNatClampNeg)) + (f_X6_stepOf M x2))) L Q from ⟨⟨rfl, (o_4 c_1)⟩, ?_⟩)
      refine wp_seg (pc' := 73) [.iconst 1] (by decide +kernel) (?_ : Wp E (d + 1) 40 73 [.ref 37, .ref 4, .int x2, .int (M 5 x2.toNatClampNeg), .int (M 6 x2.toNatClampNeg), .int (M 7 x2.toNatClampNeg), .int (f_X6_stepOf M x2)] [.int (Int32.ofInt 1)] (mput M 38 ((M 5 x2.toNatClampNeg).toNatClampNeg) ((M 38 ((M 6 x2.toNatClampNeg).toNatClampNeg)) + (f_X6_stepOf M x2))) L Q)
      exact wp_zret (by decide +kernel) rfl (by decide) (by rw [f_X6_bringsNearer, if_neg c_1, if_neg c_3, g_X6_bringsNearer, if_neg c_1, if_neg c_3] at hQ; exact hQ)

def f_X4_span (M : Mem) (x1 : Int32) (x2 : Int32) : Int64 := (((Int64.ofNat 1) <<< (x2.toInt64 &&& 63)) - (Int64.ofNat 1)) <<< (x1.toInt64 &&& 63)
theorem s_X4_span {E : VE} {d : Nat} {Q : QQ} {L : LMem} (M : Mem) (x1 : Int32) (x2 : Int32) (hQ : Q (some (.long (f_X4_span M x1 x2))) M L) : Wp E d 21 0 [.int x1, .int x2] [] M L Q := by
  refine wp_seg (pc' := 7) [.ldc2_w 1, .iload 1, .lshl, .ldc2_w 1, .lsub, .iload 0, .lshl] (by decide +kernel) (?_ : Wp E d 21 7 [.int x1, .int x2] [.long ((((Int64.ofNat 1) <<< (x2.toInt64 &&& 63)) - (Int64.ofNat 1)) <<< (x1.toInt64 &&& 63))] M L Q)
  exact wp_lret (by decide +kernel) rfl hQ

def g_X4_swap (M : Mem) (x1 : Int32) (x2 : Int32) : Mem := (mput (mput M 54 x1.toNatClampNeg (M 54 x2.toNatClampNeg)) 54 x2.toNatClampNeg (M 54 x1.toNatClampNeg))
theorem s_X4_swap {E : VE} {d : Nat} {Q : QQ} {L : LMem} (M : Mem) (x1 : Int32) (x2 : Int32) (o_1 : vp_in x1 5) (o_2 : vp_in x2 5) (hQ : Q none (g_X4_swap M x1 x2) L) : Wp E d 26 0 [.ref 49, .int x1, .int x2, .null] [] M L Q := by
  refine wp_seg (pc' := 6) [.aload 0, .getfield 260, .iload 1, .iaload] (by decide +kernel) (show aok 54 0 x1 ∧ Wp E d 26 6 [.ref 49, .int x1, .int x2, .null] [.int (M 54 x1.toNatClampNeg)] M L Q from ⟨⟨rfl, (o_1)⟩, ?_⟩)
  refine wp_seg (pc' := 18) [.istore 3, .aload 0, .getfield 260, .iload 1, .aload 0, .getfield 260, .iload 2, .iaload] (by decide +kernel) (show aok 54 0 x2 ∧ Wp E d 26 18 [.ref 49, .int x1, .int x2, .int (M 54 x1.toNatClampNeg)] [.int (M 54 x2.toNatClampNeg), .int x1, .ref 54] M L Q from ⟨⟨rfl, (o_2)⟩, ?_⟩)
  refine wp_seg (pc' := 19) [.iastore] (by decide +kernel) (show aok 54 0 x1 ∧ Wp E d 26 19 [.ref 49, .int x1, .int x2, .int (M 54 x1.toNatClampNeg)] [] (mput M 54 x1.toNatClampNeg (M 54 x2.toNatClampNeg)) L Q from ⟨⟨rfl, (o_1)⟩, ?_⟩)
  refine wp_seg (pc' := 26) [.aload 0, .getfield 260, .iload 2, .iload 3, .iastore] (by decide +kernel) (show aok 54 0 x2 ∧ Wp E d 26 26 [.ref 49, .int x1, .int x2, .int (M 54 x1.toNatClampNeg)] [] (mput (mput M 54 x1.toNatClampNeg (M 54 x2.toNatClampNeg)) 54 x2.toNatClampNeg (M 54 x1.toNatClampNeg)) L Q from ⟨⟨rfl, (o_2)⟩, ?_⟩)
  exact wp_vret (by decide +kernel) rfl hQ

def f_X4_callAt (M : Mem) (x1 : Int32) : Int32 := (if x1 < 0 then Int32.ofInt (-6) else (if (M 49 7) ≤ x1 then Int32.ofInt (-6) else M 55 x1.toNatClampNeg))
theorem s_X4_callAt {E : VE} {d : Nat} {Q : QQ} {L : LMem} (M : Mem) (x1 : Int32) (o_1 : ¬ (x1 < 0) → ¬ ((M 49 7) ≤ x1) → vp_in x1 5) (hQ : Q (some (.int (f_X4_callAt M x1))) M L) : Wp E d 19 0 [.ref 49, .int x1] [] M L Q := by
  refine wp_seg (pc' := 1) [.iload 1] (by decide +kernel) (?_ : Wp E d 19 1 [.ref 49, .int x1] [.int x1] M L Q)
  refine wp_iflt (off := 20) 21 (by decide +kernel) (by decide) (fun c_1 => ?_) (fun c_1 => ?_)
  · refine wp_seg (pc' := 23) [.iconst (-6)] (by decide +kernel) (?_ : Wp E d 19 23 [.ref 49, .int x1] [.int (Int32.ofInt (-6))] M L Q)
    exact wp_iret (by decide +kernel) rfl (by rw [f_X4_callAt, if_pos c_1] at hQ; exact hQ)
  · refine wp_seg (pc' := 9) [.iload 1, .aload 0, .getfield 263] (by decide +kernel) (?_ : Wp E d 19 9 [.ref 49, .int x1] [.int (M 49 7), .int x1] M L Q)
    refine wp_icmpge (off := 12) 21 (by decide +kernel) (by decide) (fun c_2 => ?_) (fun c_2 => ?_)
    · refine wp_seg (pc' := 23) [.iconst (-6)] (by decide +kernel) (?_ : Wp E d 19 23 [.ref 49, .int x1] [.int (Int32.ofInt (-6))] M L Q)
      exact wp_iret (by decide +kernel) rfl (by rw [f_X4_callAt, if_neg c_1, if_pos c_2] at hQ; exact hQ)
    · refine wp_seg (pc' := 18) [.aload 0, .getfield 261, .iload 1, .iaload] (by decide +kernel) (show aok 55 0 x1 ∧ Wp E d 19 18 [.ref 49, .int x1] [.int (M 55 x1.toNatClampNeg)] M L Q from ⟨⟨rfl, (o_1 c_1 c_2)⟩, ?_⟩)
      refine wp_seg (pc' := 23) [.goto 0] (by decide +kernel) (?_ : Wp E d 19 23 [.ref 49, .int x1] [.int (M 55 x1.toNatClampNeg)] M L Q)
      exact wp_iret (by decide +kernel) rfl (by rw [f_X4_callAt, if_neg c_1, if_neg c_2] at hQ; exact hQ)

def f_J6_bitCount_0f7a4 (M : Mem) (x1 : Int32) : Int32 := (((((((x1 - (((x1.toUInt32 >>> ((Int32.ofInt 1).toUInt32 &&& Int32.toUInt32 31)).toInt32) &&& (Int32.ofInt 1431655765))) &&& (Int32.ofInt 858993459)) + ((((x1 - (((x1.toUInt32 >>> ((Int32.ofInt 1).toUInt32 &&& Int32.toUInt32 31)).toInt32) &&& (Int32.ofInt 1431655765))).toUInt32 >>> ((Int32.ofInt 2).toUInt32 &&& Int32.toUInt32 31)).toInt32) &&& (Int32.ofInt 858993459))) + (((((x1 - (((x1.toUInt32 >>> ((Int32.ofInt 1).toUInt32 &&& Int32.toUInt32 31)).toInt32) &&& (Int32.ofInt 1431655765))) &&& (Int32.ofInt 858993459)) + ((((x1 - (((x1.toUInt32 >>> ((Int32.ofInt 1).toUInt32 &&& Int32.toUInt32 31)).toInt32) &&& (Int32.ofInt 1431655765))).toUInt32 >>> ((Int32.ofInt 2).toUInt32 &&& Int32.toUInt32 31)).toInt32) &&& (Int32.ofInt 858993459))).toUInt32 >>> ((Int32.ofInt 4).toUInt32 &&& Int32.toUInt32 31)).toInt32)) &&& (Int32.ofInt 252645135)) + (((((((x1 - (((x1.toUInt32 >>> ((Int32.ofInt 1).toUInt32 &&& Int32.toUInt32 31)).toInt32) &&& (Int32.ofInt 1431655765))) &&& (Int32.ofInt 858993459)) + ((((x1 - (((x1.toUInt32 >>> ((Int32.ofInt 1).toUInt32 &&& Int32.toUInt32 31)).toInt32) &&& (Int32.ofInt 1431655765))).toUInt32 >>> ((Int32.ofInt 2).toUInt32 &&& Int32.toUInt32 31)).toInt32) &&& (Int32.ofInt 858993459))) + (((((x1 - (((x1.toUInt32 >>> ((Int32.ofInt 1).toUInt32 &&& Int32.toUInt32 31)).toInt32) &&& (Int32.ofInt 1431655765))) &&& (Int32.ofInt 858993459)) + ((((x1 - (((x1.toUInt32 >>> ((Int32.ofInt 1).toUInt32 &&& Int32.toUInt32 31)).toInt32) &&& (Int32.ofInt 1431655765))).toUInt32 >>> ((Int32.ofInt 2).toUInt32 &&& Int32.toUInt32 31)).toInt32) &&& (Int32.ofInt 858993459))).toUInt32 >>> ((Int32.ofInt 4).toUInt32 &&& Int32.toUInt32 31)).toInt32)) &&& (Int32.ofInt 252645135)).toUInt32 >>> ((Int32.ofInt 8).toUInt32 &&& Int32.toUInt32 31)).toInt32)) + ((((((((x1 - (((x1.toUInt32 >>> ((Int32.ofInt 1).toUInt32 &&& Int32.toUInt32 31)).toInt32) &&& (Int32.ofInt 1431655765))) &&& (Int32.ofInt 858993459)) + ((((x1 - (((x1.toUInt32 >>> ((Int32.ofInt 1).toUInt32 &&& Int32.toUInt32 31)).toInt32) &&& (Int32.ofInt 1431655765))).toUInt32 >>> ((Int32.ofInt 2).toUInt32 &&& Int32.toUInt32 31)).toInt32) &&& (Int32.ofInt 858993459))) + (((((x1 - (((x1.toUInt32 >>> ((Int32.ofInt 1).toUInt32 &&& Int32.toUInt32 31)).toInt32) &&& (Int32.ofInt 1431655765))) &&& (Int32.ofInt 858993459)) + ((((x1 - (((x1.toUInt32 >>> ((Int32.ofInt 1).toUInt32 &&& Int32.toUInt32 31)).toInt32) &&& (Int32.ofInt 1431655765))).toUInt32 >>> ((Int32.ofInt 2).toUInt32 &&& Int32.toUInt32 31)).toInt32) &&& (Int32.ofInt 858993459))).toUInt32 >>> ((Int32.ofInt 4).toUInt32 &&& Int32.toUInt32 31)).toInt32)) &&& (Int32.ofInt 252645135)) + (((((((x1 - (((x1.toUInt32 >>> ((Int32.ofInt 1).toUInt32 &&& Int32.toUInt32 31)).toInt32) &&& (Int32.ofInt 1431655765))) &&& (Int32.ofInt 858993459)) + ((((x1 - (((x1.toUInt32 >>> ((Int32.ofInt 1).toUInt32 &&& Int32.toUInt32 31)).toInt32) &&& (Int32.ofInt 1431655765))).toUInt32 >>> ((Int32.ofInt 2).toUInt32 &&& Int32.toUInt32 31)).toInt32) &&& (Int32.ofInt 858993459))) + (((((x1 - (((x1.toUInt32 >>> ((Int32.ofInt 1).toUInt32 &&& Int32.toUInt32 31)).toInt32) &&& (Int32.ofInt 1431655765))) &&& (Int32.ofInt 858993459)) + ((((x1 - (((x1.toUInt32 >>> ((Int32.ofInt 1).toUInt32 &&& Int32.toUInt32 31)).toInt32) &&& (Int32.ofInt 1431655765))).toUInt32 >>> ((Int32.ofInt 2).toUInt32 &&& Int32.toUInt32 31)).toInt32) &&& (Int32.ofInt 858993459))).toUInt32 >>> ((Int32.ofInt 4).toUInt32 &&& Int32.toUInt32 31)).toInt32)) &&& (Int32.ofInt 252645135)).toUInt32 >>> ((Int32.ofInt 8).toUInt32 &&& Int32.toUInt32 31)).toInt32)).toUInt32 >>> ((Int32.ofInt 16).toUInt32 &&& Int32.toUInt32 31)).toInt32)) &&& (Int32.ofInt 63)
theorem s_J6_bitCount_0f7a4 {E : VE} {d : Nat} {Q : QQ} {L : LMem} (M : Mem) (x1 : Int32) (hQ : Q (some (.int (f_J6_bitCount_0f7a4 M x1))) M L) : Wp E d 87 0 [.int x1] [] M L Q := by
  refine wp_seg (pc' := 24) [.iload 0, .iload 0, .iconst 1, .iushr, .iconst 1431655765, .iand, .isub, .istore 0, .iload 0, .iconst 858993459, .iand, .iload 0, .iconst 2, .iushr, .iconst 858993459, .iand, .iadd, .istore 0] (by decide +kernel) (?_ : Wp E d 87 24 [.int (((x1 - (((x1.toUInt32 >>> ((Int32.ofInt 1).toUInt32 &&& Int32.toUInt32 31)).toInt32) &&& (Int32.ofInt 1431655765))) &&& (Int32.ofInt 858993459)) + ((((x1 - (((x1.toUInt32 >>> ((Int32.ofInt 1).toUInt32 &&& Int32.toUInt32 31)).toInt32) &&& (Int32.ofInt 1431655765))).toUInt32 >>> ((Int32.ofInt 2).toUInt32 &&& Int32.toUInt32 31)).toInt32) &&& (Int32.ofInt 858993459)))] [] M L Q)
  refine wp_seg (pc' := 46) [.iload 0, .iload 0, .iconst 4, .iushr, .iadd, .iconst 252645135, .iand, .istore 0, .iload 0, .iload 0, .iconst 8, .iushr, .iadd, .istore 0, .iload 0, .iload 0, .iconst 16, .iushr] (by decide +kernel) (?_ : Wp E d 87 46 [.int ((((((x1 - (((x1.toUInt32 >>> ((Int32.ofInt 1).toUInt32 &&& Int32.toUInt32 31)).toInt32) &&& (Int32.ofInt 1431655765))) &&& (Int32.ofInt 858993459)) + ((((x1 - (((x1.toUInt32 >>> ((Int32.ofInt 1).toUInt32 &&& Int32.toUInt32 31)).toInt32) &&& (Int32.ofInt 1431655765))).toUInt32 >>> ((Int32.ofInt 2).toUInt32 &&& Int32.toUInt32 31)).toInt32) &&& (Int32.ofInt 858993459))) + (((((x1 - (((x1.toUInt32 >>> ((Int32.ofInt 1).toUInt32 &&& Int32.toUInt32 31)).toInt32) &&& (Int32.ofInt 1431655765))) &&& (Int32.ofInt 858993459)) + ((((x1 - (((x1.toUInt32 >>> ((Int32.ofInt 1).toUInt32 &&& Int32.toUInt32 31)).toInt32) &&& (Int32.ofInt 1431655765))).toUInt32 >>> ((Int32.ofInt 2).toUInt32 &&& Int32.toUInt32 31)).toInt32) &&& (Int32.ofInt 858993459))).toUInt32 >>> ((Int32.ofInt 4).toUInt32 &&& Int32.toUInt32 31)).toInt32)) &&& (Int32.ofInt 252645135)) + (((((((x1 - (((x1.toUInt32 >>> ((Int32.ofInt 1).toUInt32 &&& Int32.toUInt32 31)).toInt32) &&& (Int32.ofInt 1431655765))) &&& (Int32.ofInt 858993459)) + ((((x1 - (((x1.toUInt32 >>> ((Int32.ofInt 1).toUInt32 &&& Int32.toUInt32 31)).toInt32) &&& (Int32.ofInt 1431655765))).toUInt32 >>> ((Int32.ofInt 2).toUInt32 &&& Int32.toUInt32 31)).toInt32) &&& (Int32.ofInt 858993459))) + (((((x1 - (((x1.toUInt32 >>> ((Int32.ofInt 1).toUInt32 &&& Int32.toUInt32 31)).toInt32) &&& (Int32.ofInt 1431655765))) &&& (Int32.ofInt 858993459)) + ((((x1 - (((x1.toUInt32 >>> ((Int32.ofInt 1).toUInt32 &&& Int32.toUInt32 31)).toInt32) &&& (Int32.ofInt 1431655765))).toUInt32 >>> ((Int32.ofInt 2).toUInt32 &&& Int32.toUInt32 31)).toInt32) &&& (Int32.ofInt 858993459))).toUInt32 >>> ((Int32.ofInt 4).toUInt32 &&& Int32.toUInt32 31)).toInt32)) &&& (Int32.ofInt 252645135)).toUInt32 >>> ((Int32.ofInt 8).toUInt32 &&& Int32.toUInt32 31)).toInt32))] [.int ((((((((x1 - (((x1.toUInt32 >>> ((Int32.ofInt 1).toUInt32 &&& Int32.toUInt32 31)).toInt32) &&& (Int32.ofInt 1431655765))) &&& (Int32.ofInt 858993459)) + ((((x1 - (((x1.toUInt32 >>> ((Int32.ofInt 1).toUInt32 &&& Int32.toUInt32 31)).toInt32) &&& (Int32.ofInt 1431655765))).toUInt32 >>> ((Int32.ofInt 2).toUInt32 &&& Int32.toUInt32 31)).toInt32) &&& (Int32.ofInt 858993459))) + (((((x1 - (((x1.toUInt32 >>> ((Int32.ofInt 1).toUInt32 &&& Int32.toUInt32 31)).toInt32) &&& (Int32.ofInt 1431655765))) &&& (Int32.ofInt 858993459)) + ((((x1 - (((x1.toUInt32 >>> ((Int32.ofInt 1).toUInt32 &&& Int32.toUInt32 31)).toInt32) &&& (Int32.ofInt 1431655765))).toUInt32 >>> ((Int32.ofInt 2).toUInt32 &&& Int32.toUInt32 31)).toInt32) &&& (Int32.ofInt 858993459))).toUInt32 >>> ((Int32.ofInt 4).toUInt32 &&& Int32.toUInt32 31)).toInt32)) &&& (Int32.ofInt 252645135)) + (((((((x1 - (((x1.toUInt32 >>> ((Int32.ofInt 1).toUInt32 &&& Int32.toUInt32 31)).toInt32) &&& (Int32.ofInt 1431655765))) &&& (Int32.ofInt 858993459)) + ((((x1 - (((x1.toUInt32 >>> ((Int32.ofInt 1).toUInt32 &&& Int32.toUInt32 31)).toInt32) &&& (Int32.ofInt 1431655765))).toUInt32 >>> ((Int32.ofInt 2).toUInt32 &&& Int32.toUInt32 31)).toInt32) &&& (Int32.ofInt 858993459))) + (((((x1 - (((x1.toUInt32 >>> ((Int32.ofInt 1).toUInt32 &&& Int32.toUInt32 31)).toInt32) &&& (Int32.ofInt 1431655765))) &&& (Int32.ofInt 858993459)) + ((((x1 - (((x1.toUInt32 >>> ((Int32.ofInt 1).toUInt32 &&& Int32.toUInt32 31)).toInt32) &&& (Int32.ofInt 1431655765))).toUInt32 >>> ((Int32.ofInt 2).toUInt32 &&& Int32.toUInt32 31)).toInt32) &&& (Int32.ofInt 858993459))).toUInt32 >>> ((Int32.ofInt 4).toUInt32 &&& Int32.toUInt32 31)).toInt32)) &&& (Int32.ofInt 252645135)).toUInt32 >>> ((Int32.ofInt 8).toUInt32 &&& Int32.toUInt32 31)).toInt32)).toUInt32 >>> ((Int32.ofInt 16).toUInt32 &&& Int32.toUInt32 31)).toInt32), .int ((((((x1 - (((x1.toUInt32 >>> ((Int32.ofInt 1).toUInt32 &&& Int32.toUInt32 31)).toInt32) &&& (Int32.ofInt 1431655765))) &&& (Int32.ofInt 858993459)) + ((((x1 - (((x1.toUInt32 >>> ((Int32.ofInt 1).toUInt32 &&& Int32.toUInt32 31)).toInt32) &&& (Int32.ofInt 1431655765))).toUInt32 >>> ((Int32.ofInt 2).toUInt32 &&& Int32.toUInt32 31)).toInt32) &&& (Int32.ofInt 858993459))) + (((((x1 - (((x1.toUInt32 >>> ((Int32.ofInt 1).toUInt32 &&& Int32.toUInt32 31)).toInt32) &&& (Int32.ofInt 1431655765))) &&& (Int32.ofInt 858993459)) + ((((x1 - (((x1.toUInt32 >>> ((Int32.ofInt 1).toUInt32 &&& Int32.toUInt32 31)).toInt32) &&& (Int32.ofInt 1431655765))).toUInt32 >>> ((Int32.ofInt 2).toUInt32 &&& Int32.toUInt32 31)).toInt32) &&& (Int32.ofInt 858993459))).toUInt32 >>> ((Int32.ofInt 4).toUInt32 &&& Int32.toUInt32 31)).toInt32)) &&& (Int32.ofInt 252645135)) + (((((((x1 - (((x1.toUInt32 >>> ((Int32.ofInt 1).toUInt32 &&& Int32.toUInt32 31)).toInt32) &&& (Int32.ofInt 1431655765))) &&& (Int32.ofInt 858993459)) + ((((x1 - (((x1.toUInt32 >>> ((Int32.ofInt 1).toUInt32 &&& Int32.toUInt32 31)).toInt32) &&& (Int32.ofInt 1431655765))).toUInt32 >>> ((Int32.ofInt 2).toUInt32 &&& Int32.toUInt32 31)).toInt32) &&& (Int32.ofInt 858993459))) + (((((x1 - (((x1.toUInt32 >>> ((Int32.ofInt 1).toUInt32 &&& Int32.toUInt32 31)).toInt32) &&& (Int32.ofInt 1431655765))) &&& (Int32.ofInt 858993459)) + ((((x1 - (((x1.toUInt32 >>> ((Int32.ofInt 1).toUInt32 &&& Int32.toUInt32 31)).toInt32) &&& (Int32.ofInt 1431655765))).toUInt32 >>> ((Int32.ofInt 2).toUInt32 &&& Int32.toUInt32 31)).toInt32) &&& (Int32.ofInt 858993459))).toUInt32 >>> ((Int32.ofInt 4).toUInt32 &&& Int32.toUInt32 31)).toInt32)) &&& (Int32.ofInt 252645135)).toUInt32 >>> ((Int32.ofInt 8).toUInt32 &&& Int32.toUInt32 31)).toInt32))] M L Q)
  refine wp_seg (pc' := 52) [.iadd, .istore 0, .iload 0, .iconst 63, .iand] (by decide +kernel) (?_ : Wp E d 87 52 [.int (((((((x1 - (((x1.toUInt32 >>> ((Int32.ofInt 1).toUInt32 &&& Int32.toUInt32 31)).toInt32) &&& (Int32.ofInt 1431655765))) &&& (Int32.ofInt 858993459)) + ((((x1 - (((x1.toUInt32 >>> ((Int32.ofInt 1).toUInt32 &&& Int32.toUInt32 31)).toInt32) &&& (Int32.ofInt 1431655765))).toUInt32 >>> ((Int32.ofInt 2).toUInt32 &&& Int32.toUInt32 31)).toInt32) &&& (Int32.ofInt 858993459))) + (((((x1 - (((x1.toUInt32 >>> ((Int32.ofInt 1).toUInt32 &&& Int32.toUInt32 31)).toInt32) &&& (Int32.ofInt 1431655765))) &&& (Int32.ofInt 858993459)) + ((((x1 - (((x1.toUInt32 >>> ((Int32.ofInt 1).toUInt32 &&& Int32.toUInt32 31)).toInt32) &&& (Int32.ofInt 1431655765))).toUInt32 >>> ((Int32.ofInt 2).toUInt32 &&& Int32.toUInt32 31)).toInt32) &&& (Int32.ofInt 858993459))).toUInt32 >>> ((Int32.ofInt 4).toUInt32 &&& Int32.toUInt32 31)).toInt32)) &&& (Int32.ofInt 252645135)) + (((((((x1 - (((x1.toUInt32 >>> ((Int32.ofInt 1).toUInt32 &&& Int32.toUInt32 31)).toInt32) &&& (Int32.ofInt 1431655765))) &&& (Int32.ofInt 858993459)) + ((((x1 - (((x1.toUInt32 >>> ((Int32.ofInt 1).toUInt32 &&& Int32.toUInt32 31)).toInt32) &&& (Int32.ofInt 1431655765))).toUInt32 >>> ((Int32.ofInt 2).toUInt32 &&& Int32.toUInt32 31)).toInt32) &&& (Int32.ofInt 858993459))) + (((((x1 - (((x1.toUInt32 >>> ((Int32.ofInt 1).toUInt32 &&& Int32.toUInt32 31)).toInt32) &&& (Int32.ofInt 1431655765))) &&& (Int32.ofInt 858993459)) + ((((x1 - (((x1.toUInt32 >>> ((Int32.ofInt 1).toUInt32 &&& Int32.toUInt32 31)).toInt32) &&& (Int32.ofInt 1431655765))).toUInt32 >>> ((Int32.ofInt 2).toUInt32 &&& Int32.toUInt32 31)).toInt32) &&& (Int32.ofInt 858993459))).toUInt32 >>> ((Int32.ofInt 4).toUInt32 &&& Int32.toUInt32 31)).toInt32)) &&& (Int32.ofInt 252645135)).toUInt32 >>> ((Int32.ofInt 8).toUInt32 &&& Int32.toUInt32 31)).toInt32)) + ((((((((x1 - (((x1.toUInt32 >>> ((Int32.ofInt 1).toUInt32 &&& Int32.toUInt32 31)).toInt32) &&& (Int32.ofInt 1431655765))) &&& (Int32.ofInt 858993459)) + ((((x1 - (((x1.toUInt32 >>> ((Int32.ofInt 1).toUInt32 &&& Int32.toUInt32 31)).toInt32) &&& (Int32.ofInt 1431655765))).toUInt32 >>> ((Int32.ofInt 2).toUInt32 &&& Int32.toUInt32 31)).toInt32) &&& (Int32.ofInt 858993459))) + (((((x1 - (((x1.toUInt32 >>> ((Int32.ofInt 1).toUInt32 &&& Int32.toUInt32 31)).toInt32) &&& (Int32.ofInt 1431655765))) &&& (Int32.ofInt 858993459)) + ((((x1 - (((x1.toUInt32 >>> ((Int32.ofInt 1).toUInt32 &&& Int32.toUInt32 31)).toInt32) &&& (Int32.ofInt 1431655765))).toUInt32 >>> ((Int32.ofInt 2).toUInt32 &&& Int32.toUInt32 31)).toInt32) &&& (Int32.ofInt 858993459))).toUInt32 >>> ((Int32.ofInt 4).toUInt32 &&& Int32.toUInt32 31)).toInt32)) &&& (Int32.ofInt 252645135)) + (((((((x1 - (((x1.toUInt32 >>> ((Int32.ofInt 1).toUInt32 &&& Int32.toUInt32 31)).toInt32) &&& (Int32.ofInt 1431655765))) &&& (Int32.ofInt 858993459)) + ((((x1 - (((x1.toUInt32 >>> ((Int32.ofInt 1).toUInt32 &&& Int32.toUInt32 31)).toInt32) &&& (Int32.ofInt 1431655765))).toUInt32 >>> ((Int32.ofInt 2).toUInt32 &&& Int32.toUInt32 31)).toInt32) &&& (Int32.ofInt 858993459))) + (((((x1 - (((x1.toUInt32 >>> ((Int32.ofInt 1).toUInt32 &&& Int32.toUInt32 31)).toInt32) &&& (Int32.ofInt 1431655765))) &&& (Int32.ofInt 858993459)) + ((((x1 - (((x1.toUInt32 >>> ((Int32.ofInt 1).toUInt32 &&& Int32.toUInt32 31)).toInt32) &&& (Int32.ofInt 1431655765))).toUInt32 >>> ((Int32.ofInt 2).toUInt32 &&& Int32.toUInt32 31)).toInt32) &&& (Int32.ofInt 858993459))).toUInt32 >>> ((Int32.ofInt 4).toUInt32 &&& Int32.toUInt32 31)).toInt32)) &&& (Int32.ofInt 252645135)).toUInt32 >>> ((Int32.ofInt 8).toUInt32 &&& Int32.toUInt32 31)).toInt32)).toUInt32 >>> ((Int32.ofInt 16).toUInt32 &&& Int32.toUInt32 31)).toInt32))] [.int ((((((((x1 - (((x1.toUInt32 >>> ((Int32.ofInt 1).toUInt32 &&& Int32.toUInt32 31)).toInt32) &&& (Int32.ofInt 1431655765))) &&& (Int32.ofInt 858993459)) + ((((x1 - (((x1.toUInt32 >>> ((Int32.ofInt 1).toUInt32 &&& Int32.toUInt32 31)).toInt32) &&& (Int32.ofInt 1431655765))).toUInt32 >>> ((Int32.ofInt 2).toUInt32 &&& Int32.toUInt32 31)).toInt32) &&& (Int32.ofInt 858993459))) + (((((x1 - (((x1.toUInt32 >>> ((Int32.ofInt 1).toUInt32 &&& Int32.toUInt32 31)).toInt32) &&& (Int32.ofInt 1431655765))) &&& (Int32.ofInt 858993459)) + ((((x1 - (((x1.toUInt32 >>> ((Int32.ofInt 1).toUInt32 &&& Int32.toUInt32 31)).toInt32) &&& (Int32.ofInt 1431655765))).toUInt32 >>> ((Int32.ofInt 2).toUInt32 &&& Int32.toUInt32 31)).toInt32) &&& (Int32.ofInt 858993459))).toUInt32 >>> ((Int32.ofInt 4).toUInt32 &&& Int32.toUInt32 31)).toInt32)) &&& (Int32.ofInt 252645135)) + (((((((x1 - (((x1.toUInt32 >>> ((Int32.ofInt 1).toUInt32 &&& Int32.toUInt32 31)).toInt32) &&& (Int32.ofInt 1431655765))) &&& (Int32.ofInt 858993459)) + ((((x1 - (((x1.toUInt32 >>> ((Int32.ofInt 1).toUInt32 &&& Int32.toUInt32 31)).toInt32) &&& (Int32.ofInt 1431655765))).toUInt32 >>> ((Int32.ofInt 2).toUInt32 &&& Int32.toUInt32 31)).toInt32) &&& (Int32.ofInt 858993459))) + (((((x1 - (((x1.toUInt32 >>> ((Int32.ofInt 1).toUInt32 &&& Int32.toUInt32 31)).toInt32) &&& (Int32.ofInt 1431655765))) &&& (Int32.ofInt 858993459)) + ((((x1 - (((x1.toUInt32 >>> ((Int32.ofInt 1).toUInt32 &&& Int32.toUInt32 31)).toInt32) &&& (Int32.ofInt 1431655765))).toUInt32 >>> ((Int32.ofInt 2).toUInt32 &&& Int32.toUInt32 31)).toInt32) &&& (Int32.ofInt 858993459))).toUInt32 >>> ((Int32.ofInt 4).toUInt32 &&& Int32.toUInt32 31)).toInt32)) &&& (Int32.ofInt 252645135)).toUInt32 >>> ((Int32.ofInt 8).toUInt32 &&& Int32.toUInt32 31)).toInt32)) + ((((((((x1 - (((x1.toUInt32 >>> ((Int32.ofInt 1).toUInt32 &&& Int32.toUInt32 31)).toInt32) &&& (Int32.ofInt 1431655765))) &&& (Int32.ofInt 858993459)) + ((((x1 - (((x1.toUInt32 >>> ((Int32.ofInt 1).toUInt32 &&& Int32.toUInt32 31)).toInt32) &&& (Int32.ofInt 1431655765))).toUInt32 >>> ((Int32.ofInt 2).toUInt32 &&& Int32.toUInt32 31)).toInt32) &&& (Int32.ofInt 858993459))) + (((((x1 - (((x1.toUInt32 >>> ((Int32.ofInt 1).toUInt32 &&& Int32.toUInt32 31)).toInt32) &&& (Int32.ofInt 1431655765))) &&& (Int32.ofInt 858993459)) + ((((x1 - (((x1.toUInt32 >>> ((Int32.ofInt 1).toUInt32 &&& Int32.toUInt32 31)).toInt32) &&& (Int32.ofInt 1431655765))).toUInt32 >>> ((Int32.ofInt 2).toUInt32 &&& Int32.toUInt32 31)).toInt32) &&& (Int32.ofInt 858993459))).toUInt32 >>> ((Int32.ofInt 4).toUInt32 &&& Int32.toUInt32 31)).toInt32)) &&& (Int32.ofInt 252645135)) + (((((((x1 - (((x1.toUInt32 >>> ((Int32.ofInt 1).toUInt32 &&& Int32.toUInt32 31)).toInt32) &&& (Int32.ofInt 1431655765))) &&& (Int32.ofInt 858993459)) + ((((x1 - (((x1.toUInt32 >>> ((Int32.ofInt 1).toUInt32 &&& Int32.toUInt32 31)).toInt32) &&& (Int32.ofInt 1431655765))).toUInt32 >>> ((Int32.ofInt 2).toUInt32 &&& Int32.toUInt32 31)).toInt32) &&& (Int32.ofInt 858993459))) + (((((x1 - (((x1.toUInt32 >>> ((Int32.ofInt 1).toUInt32 &&& Int32.toUInt32 31)).toInt32) &&& (Int32.ofInt 1431655765))) &&& (Int32.ofInt 858993459)) + ((((x1 - (((x1.toUInt32 >>> ((Int32.ofInt 1).toUInt32 &&& Int32.toUInt32 31)).toInt32) &&& (Int32.ofInt 1431655765))).toUInt32 >>> ((Int32.ofInt 2).toUInt32 &&& Int32.toUInt32 31)).toInt32) &&& (Int32.ofInt 858993459))).toUInt32 >>> ((Int32.ofInt 4).toUInt32 &&& Int32.toUInt32 31)).toInt32)) &&& (Int32.ofInt 252645135)).toUInt32 >>> ((Int32.ofInt 8).toUInt32 &&& Int32.toUInt32 31)).toInt32)).toUInt32 >>> ((Int32.ofInt 16).toUInt32 &&& Int32.toUInt32 31)).toInt32)) &&& (Int32.ofInt 63))] M L Q)
  exact wp_iret (by decide +kernel) rfl hQ

def f_X8_largerPart (M : Mem) (x1 : Int32) (x2 : Int32) : Int32 := if (f_J6_bitCount_0f7a4 M (x1 &&& x2)) < (f_J6_bitCount_0f7a4 M (x1 &&& (x2 ^^^ (Int32.ofInt (-1))))) then (f_J6_bitCount_0f7a4 M (x1 &&& (x2 ^^^ (Int32.ofInt (-1))))) else (f_J6_bitCount_0f7a4 M (x1 &&& x2))
theorem s_X8_largerPart {E : VE} {d : Nat} {Q : QQ} {L : LMem} (M : Mem) (x1 : Int32) (x2 : Int32) (hQ : Q (some (.int (f_X8_largerPart M x1 x2))) M L) : Wp E (d + 1) 53 0 [.int x1, .int x2] [] M L Q := by
  refine wp_seg (pc' := 3) [.iload 0, .iload 1, .iand] (by decide +kernel) (?_ : Wp E (d + 1) 53 3 [.int x1, .int x2] [.int (x1 &&& x2)] M L Q)
  refine wp_callS 87 [.int (x1 &&& x2)] (i := 45) (by decide +kernel) (by decide +kernel) (by decide +kernel) rfl rfl rfl (rest := []) rfl rfl ?_
  refine s_J6_bitCount_0f7a4 M (x1 &&& x2)  ?_
  show Wp E (d + 1) 53 6 [.int x1, .int x2] [.int (f_J6_bitCount_0f7a4 M (x1 &&& x2))] M L Q
  refine wp_seg (pc' := 11) [.iload 0, .iload 1, .iconst (-1), .ixor, .iand] (by decide +kernel) (?_ : Wp E (d + 1) 53 11 [.int x1, .int x2] [.int (x1 &&& (x2 ^^^ (Int32.ofInt (-1)))), .int (f_J6_bitCount_0f7a4 M (x1 &&& x2))] M L Q)
  refine wp_callS 87 [.int (x1 &&& (x2 ^^^ (Int32.ofInt (-1))))] (i := 45) (by decide +kernel) (by decide +kernel) (by decide +kernel) rfl rfl rfl (rest := [.int (f_J6_bitCount_0f7a4 M (x1 &&& x2))]) rfl rfl ?_
  refine s_J6_bitCount_0f7a4 M (x1 &&& (x2 ^^^ (Int32.ofInt (-1))))  ?_
  show Wp E (d + 1) 53 14 [.int x1, .int x2] [.int (f_J6_bitCount_0f7a4 M (x1 &&& (x2 ^^^ (Int32.ofInt (-1))))), .int (f_J6_bitCount_0f7a4 M (x1 &&& x2))] M L Q
  refine wp_seg (pc' := 17) [.invokestatic 0] (by decide +kernel) (?_ : Wp E (d + 1) 53 17 [.int x1, .int x2] [.int (if (f_J6_bitCount_0f7a4 M (x1 &&& x2)) < (f_J6_bitCount_0f7a4 M (x1 &&& (x2 ^^^ (Int32.ofInt (-1))))) then (f_J6_bitCount_0f7a4 M (x1 &&& (x2 ^^^ (Int32.ofInt (-1))))) else (f_J6_bitCount_0f7a4 M (x1 &&& x2)))] M L Q)
  exact wp_iret (by decide +kernel) rfl hQ

def g_X1_layTube_70 (M : Mem) (x2 : Int32) : Mem := (if (M 7 x2.toNatClampNeg) = (Int32.ofInt 120) then M else (if (M 7 x2.toNatClampNeg) = (Int32.ofInt 62) then (mput M 71 ((((Int32.ofInt 8) * (M 5 x2.toNatClampNeg)) + (M 6 x2.toNatClampNeg)).toNatClampNeg) (if (M 8 x2.toNatClampNeg) < (M 71 ((((Int32.ofInt 8) * (M 5 x2.toNatClampNeg)) + (M 6 x2.toNatClampNeg)).toNatClampNeg)) then (M 8 x2.toNatClampNeg) else (M 71 ((((Int32.ofInt 8) * (M 5 x2.toNatClampNeg)) + (M 6 x2.toNatClampNeg)).toNatClampNeg)))) else (mput (mput M 71 ((((Int32.ofInt 8) * (M 5 x2.toNatClampNeg)) + (M 6 x2.toNatClampNeg)).toNatClampNeg) (if (M 8 x2.toNatClampNeg) < (M 71 ((((Int32.ofInt 8) * (M 5 x2.toNatClampNeg)) + (M 6 x2.toNatClampNeg)).toNatClampNeg)) then (M 8 x2.toNatClampNeg) else (M 71 ((((Int32.ofInt 8) * (M 5 x2.toNatClampNeg)) + (M 6 x2.toNatClampNeg)).toNatClampNeg)))) 71 ((((Int32.ofInt 8) * (M 6 x2.toNatClampNeg)) + (M 5 x2.toNatClampNeg)).toNatClampNeg) (if (M 8 x2.toNatClampNeg) < ((mput M 71 ((((Int32.ofInt 8) * (M 5 x2.toNatClampNeg)) + (M 6 x2.toNatClampNeg)).toNatClampNeg) (if (M 8 x2.toNatClampNeg) < (M 71 ((((Int32.ofInt 8) * (M 5 x2.toNatClampNeg)) + (M 6 x2.toNatClampNeg)).toNatClampNeg)) then (M 8 x2.toNatClampNeg) else (M 71 ((((Int32.ofInt 8) * (M 5 x2.toNatClampNeg)) + (M 6 x2.toNatClampNeg)).toNatClampNeg)))) 71 ((((Int32.ofInt 8) * (M 6 x2.toNatClampNeg)) + (M 5 x2.toNatClampNeg)).toNatClampNeg)) then (M 8 x2.toNatClampNeg) else ((mput M 71 ((((Int32.ofInt 8) * (M 5 x2.toNatClampNeg)) + (M 6 x2.toNatClampNeg)).toNatClampNeg) (if (M 8 x2.toNatClampNeg) < (M 71 ((((Int32.ofInt 8) * (M 5 x2.toNatClampNeg)) + (M 6 x2.toNatClampNeg)).toNatClampNeg)) then (M 8 x2.toNatClampNeg) else (M 71 ((((Int32.ofInt 8) * (M 5 x2.toNatClampNeg)) + (M 6 x2.toNatClampNeg)).toNatClampNeg)))) 71 ((((Int32.ofInt 8) * (M 6 x2.toNatClampNeg)) + (M 5 x2.toNatClampNeg)).toNatClampNeg))))))
theorem s_X1_layTube_70 {E : VE} {d : Nat} {Q : QQ} {L : LMem} (M : Mem) (x2 : Int32) (o_1 : vp_in x2 12) (o_2 : ¬ ((M 7 x2.toNatClampNeg) = (Int32.ofInt 120)) → vp_in (((Int32.ofInt 8) * (M 5 x2.toNatClampNeg)) + (M 6 x2.toNatClampNeg)) 64) (o_3 : ¬ ((M 7 x2.toNatClampNeg) = (Int32.ofInt 120)) → ¬ ((M 7 x2.toNatClampNeg) = (Int32.ofInt 62)) → vp_in (((Int32.ofInt 8) * (M 6 x2.toNatClampNeg)) + (M 5 x2.toNatClampNeg)) 64) (hQ : Q none (g_X1_layTube_70 M x2) L) : Wp E d 6 0 [.ref 70, .ref 4, .int x2, .null, .null] [] M L Q := by
  refine wp_seg (pc' := 8) [.iconst 8, .aload 1, .getfield 128, .iload 2, .iaload] (by decide +kernel) (show aok 5 0 x2 ∧ Wp E d 6 8 [.ref 70, .ref 4, .int x2, .null, .null] [.int (M 5 x2.toNatClampNeg), .int (Int32.ofInt 8)] M L Q from ⟨⟨rfl, (o_1)⟩, ?_⟩)
  refine wp_seg (pc' := 15) [.imul, .aload 1, .getfield 129, .iload 2, .iaload] (by decide +kernel) (show aok 6 0 x2 ∧ Wp E d 6 15 [.ref 70, .ref 4, .int x2, .null, .null] [.int (M 6 x2.toNatClampNeg), .int ((Int32.ofInt 8) * (M 5 x2.toNatClampNeg))] M L Q from ⟨⟨rfl, (o_1)⟩, ?_⟩)
  refine wp_seg (pc' := 25) [.iadd, .istore 3, .iconst 8, .aload 1, .getfield 129, .iload 2, .iaload] (by decide +kernel) (show aok 6 0 x2 ∧ Wp E d 6 25 [.ref 70, .ref 4, .int x2, .int (((Int32.ofInt 8) * (M 5 x2.toNatClampNeg)) + (M 6 x2.toNatClampNeg)), .null] [.int (M 6 x2.toNatClampNeg), .int (Int32.ofInt 8)] M L Q from ⟨⟨rfl, (o_1)⟩, ?_⟩)
  refine wp_seg (pc' := 32) [.imul, .aload 1, .getfield 128, .iload 2, .iaload] (by decide +kernel) (show aok 5 0 x2 ∧ Wp E d 6 32 [.ref 70, .ref 4, .int x2, .int (((Int32.ofInt 8) * (M 5 x2.toNatClampNeg)) + (M 6 x2.toNatClampNeg)), .null] [.int (M 5 x2.toNatClampNeg), .int ((Int32.ofInt 8) * (M 6 x2.toNatClampNeg))] M L Q from ⟨⟨rfl, (o_1)⟩, ?_⟩)
  refine wp_seg (pc' := 41) [.iadd, .istore 4, .aload 1, .getfield 130, .iload 2, .iaload] (by decide +kernel) (show aok 7 0 x2 ∧ Wp E d 6 41 [.ref 70, .ref 4, .int x2, .int (((Int32.ofInt 8) * (M 5 x2.toNatClampNeg)) + (M 6 x2.toNatClampNeg)), .int (((Int32.ofInt 8) * (M 6 x2.toNatClampNeg)) + (M 5 x2.toNatClampNeg))] [.int (M 7 x2.toNatClampNeg)] M L Q from ⟨⟨rfl, (o_1)⟩, ?_⟩)
  refine wp_seg (pc' := 43) [.iconst 120] (by decide +kernel) (?_ : Wp E d 6 43 [.ref 70, .ref 4, .int x2, .int (((Int32.ofInt 8) * (M 5 x2.toNatClampNeg)) + (M 6 x2.toNatClampNeg)), .int (((Int32.ofInt 8) * (M 6 x2.toNatClampNeg)) + (M 5 x2.toNatClampNeg))] [.int (Int32.ofInt 120), .int (M 7 x2.toNatClampNeg)] M L Q)
  refine wp_icmpeq (off := 58) 101 (by decide +kernel) (by decide) (fun c_1 => ?_) (fun c_1 => ?_)
  · exact wp_vret (by decide +kernel) rfl (by rw [g_X1_layTube_70, if_pos c_1] at hQ; exact hQ)
  · refine wp_seg (pc' := 57) [.aload 0, .getfield 64, .iload 3, .aload 0, .getfield 64, .iload 3, .iaload] (by decide +kernel) (show aok 71 0 (((Int32.ofInt 8) * (M 5 x2.toNatClampNeg)) + (M 6 x2.toNatClampNeg)) ∧ Wp E d 6 57 [.ref 70, .ref 4, .int x2, .int (((Int32.ofInt 8) * (M 5 x2.toNatClampNeg)) + (M 6 x2.toNatClampNeg)), .int (((Int32.ofInt 8) * (M 6 x2.toNatClampNeg)) + (M 5 x2.toNatClampNeg))] [.int (M 71 ((((Int32.ofInt 8) * (M 5 x2.toNatClampNeg)) + (M 6 x2.toNatClampNeg)).toNatClampNeg)), .int (((Int32.ofInt 8) * (M 5 x2.toNatClampNeg)) + (M 6 x2.toNatClampNeg)), .ref 71] M L Q from ⟨⟨rfl, (o_2 c_1)⟩, ?_⟩)
    refine wp_seg (pc' := 63) [.aload 1, .getfield 131, .iload 2, .iaload] (by decide +kernel) (show aok 8 0 x2 ∧ Wp E d 6 63 [.ref 70, .ref 4, .int x2, .int (((Int32.ofInt 8) * (M 5 x2.toNatClampNeg)) + (M 6 x2.toNatClampNeg)), .int (((Int32.ofInt 8) * (M 6 x2.toNatClampNeg)) + (M 5 x2.toNatClampNeg))] [.int (M 8 x2.toNatClampNeg), .int (M 71 ((((Int32.ofInt 8) * (M 5 x2.toNatClampNeg)) + (M 6 x2.toNatClampNeg)).toNatClampNeg)), .int (((Int32.ofInt 8) * (M 5 x2.toNatClampNeg)) + (M 6 x2.toNatClampNeg)), .ref 71] M L Q from ⟨⟨rfl, (o_1)⟩, ?_⟩)
    refine wp_seg (pc' := 67) [.invokestatic 1, .iastore] (by decide +kernel) (show aok 71 0 (((Int32.ofInt 8) * (M 5 x2.toNatClampNeg)) + (M 6 x2.toNatClampNeg)) ∧ Wp E d 6 67 [.ref 70, .ref 4, .int x2, .int (((Int32.ofInt 8) * (M 5 x2.toNatClampNeg)) + (M 6 x2.toNatClampNeg)), .int (((Int32.ofInt 8) * (M 6 x2.toNatClampNeg)) + (M 5 x2.toNatClampNeg))] [] (mput M 71 ((((Int32.ofInt 8) * (M 5 x2.toNatClampNeg)) + (M 6 x2.toNatClampNeg)).toNatClampNeg) (if (M 8 x2.toNatClampNeg) < (M 71 ((((Int32.ofInt 8) * (M 5 x2.toNatClampNeg)) + (M 6 x2.toNatClampNeg)).toNatClampNeg)) then (M 8 x2.toNatClampNeg) else (M 71 ((((Int32.ofInt 8) * (M 5 x2.toNatClampNeg)) + (M 6 x2.toNatClampNeg)).toNatClampNeg)))) L Q from ⟨⟨rfl, (o_2 c_1)⟩, ?_⟩)
    refine wp_seg (pc' := 73) [.aload 1, .getfield 130, .iload 2, .iaload] (by decide +kernel) (show aok 7 0 x2 ∧ Wp E d 6 73 [.ref 70, .ref 4, .int x2, .int (((Int32.ofInt 8) * (M 5 x2.toNatClampNeg)) + (M 6 x2.toNatClampNeg)), .int (((Int32.ofInt 8) * (M 6 x2.toNatClampNeg)) + (M 5 x2.toNatClampNeg))] [.int (M 7 x2.toNatClampNeg)] (mput M 71 ((((Int32.ofInt 8) * (M 5 x2.toNatClampNeg)) + (M 6 x2.toNatClampNeg)).toNatClampNeg) (if (M 8 x2.toNatClampNeg) < (M 71 ((((Int32.ofInt 8) * (M 5 x2.toNatClampNeg)) + (M 6 x2.toNatClampNeg)).toNatClampNeg)) then (M 8 x2.toNatClampNeg) else (M 71 ((((Int32.ofInt 8) * (M 5 x2.toNatClampNeg)) + (M 6 x2.toNatClampNeg)).toNatClampNeg)))) L Q from ⟨⟨rfl, (o_1)⟩, ?_⟩)
    refine wp_seg (pc' := 75) [.iconst 62] (by decide +kernel) (?_ : Wp E d 6 75 [.ref 70, .ref 4, .int x2, .int (((Int32.ofInt 8) * (M 5 x2.toNatClampNeg)) + (M 6 x2.toNatClampNeg)), .int (((Int32.ofInt 8) * (M 6 x2.toNatClampNeg)) + (M 5 x2.toNatClampNeg))] [.int (Int32.ofInt 62), .int (M 7 x2.toNatClampNeg)] (mput M 71 ((((Int32.ofInt 8) * (M 5 x2.toNatClampNeg)) + (M 6 x2.toNatClampNeg)).toNatClampNeg) (if (M 8 x2.toNatClampNeg) < (M 71 ((((Int32.ofInt 8) * (M 5 x2.toNatClampNeg)) + (M 6 x2.toNatClampNeg)).toNatClampNeg)) then (M 8 x2.toNatClampNeg) else (M 71 ((((Int32.ofInt 8) * (M 5 x2.toNatClampNeg)) + (M 6 x2.toNatClampNeg)).toNatClampNeg)))) L Q)
    refine wp_icmpeq (off := 26) 101 (by decide +kernel) (by decide) (fun c_2 => ?_) (fun c_2 => ?_)
    · exact wp_vret (by decide +kernel) rfl (by rw [g_X1_layTube_70, if_neg c_1, if_pos c_2] at hQ; exact hQ)
    · refine wp_seg (pc' := 91) [.aload 0, .getfield 64, .iload 4, .aload 0, .getfield 64, .iload 4, .iaload] (by decide +kernel) (show aok 71 0 (((Int32.ofInt 8) * (M 6 x2.toNatClampNeg)) + (M 5 x2.toNatClampNeg)) ∧ Wp E d 6 91 [.ref 70, .ref 4, .int x2, .int (((Int32.ofInt 8) * (M 5 x2.toNatClampNeg)) + (M 6 x2.toNatClampNeg)), .int (((Int32.ofInt 8) * (M 6 x2.toNatClampNeg)) + (M 5 x2.toNatClampNeg))] [.int ((mput M 71 ((((Int32.ofInt 8) * (M 5 x2.toNatClampNeg)) + (M 6 x2.toNatClampNeg)).toNatClampNeg) (if (M 8 x2.toNatClampNeg) < (M 71 ((((Int32.ofInt 8) * (M 5 x2.toNatClampNeg)) + (M 6 x2.toNatClampNeg)).toNatClampNeg)) then (M 8 x2.toNatClampNeg) else (M 71 ((((Int32.ofInt 8) * (M 5 x2.toNatClampNeg)) + (M 6 x2.toNatClampNeg)).toNatClampNeg)))) 71 ((((Int32.ofInt 8) * (M 6 x2.toNatClampNeg)) + (M 5 x2.toNatClampNeg)).toNatClampNeg)), .int (((Int32.ofInt 8) * (M 6 x2.toNatClampNeg)) + (M 5 x2.toNatClampNeg)), .ref 71] (mput M 71 ((((Int32.ofInt 8) * (M 5 x2.toNatClampNeg)) + (M 6 x2.toNatClampNeg)).toNatClampNeg) (if (M 8 x2.toNatClampNeg) < (M 71 ((((Int32.ofInt 8) * (M 5 x2.toNatClampNeg)) + (M 6 x2.toNatClampNeg)).toNatClampNeg)) then (M 8 x2.toNatClampNeg) else (M 71 ((((Int32.ofInt 8) * (M 5 x2.toNatClampNeg)) + (M 6 x2.toNatClampNeg)).toNatClampNeg)))) L Q from ⟨⟨rfl, (o_3 c_1 c_2)⟩, ?_⟩)
      refine wp_seg (pc' := 97) [.aload 1, .getfield 131, .iload 2, .iaload] (by decide +kernel) (show aok 8 0 x2 ∧ Wp E d 6 97 [.ref 70, .ref 4, .int x2, .int (((Int32.ofInt 8) * (M 5 x2.toNatClampNeg)) + (M 6 x2.toNatClampNeg)), .int (((Int32.ofInt 8) * (M 6 x2.toNatClampNeg)) + (M 5 x2.toNatClampNeg))] [.int (M 8 x2.toNatClampNeg), .int ((mput M 71 ((((Int32.ofInt 8) * (M 5 x2.toNatClampNeg)) + (M 6 x2.toNatClampNeg)).toNatClampNeg) (if (M 8 x2.toNatClampNeg) < (M 71 ((((Int32.ofInt 8) * (M 5 x2.toNatClampNeg)) + (M 6 x2.toNatClampNeg)).toNatClampNeg)) then (M 8 x2.toNatClampNeg) else (M 71 ((((Int32.ofInt 8) * (M 5 x2.toNatClampNeg)) + (M 6 x2.toNatClampNeg)).toNatClampNeg)))) 71 ((((Int32.ofInt 8) * (M 6 x2.toNatClampNeg)) + (M 5 x2.toNatClampNeg)).toNatClampNeg)), .int (((Int32.ofInt 8) * (M 6 x2.toNatClampNeg)) + (M 5 x2.toNatClampNeg)), .ref 71] (mput M 71 ((((Int32.ofInt 8) * (M 5 x2.toNatClampNeg)) + (M 6 x2.toNatClampNeg)).toNatClampNeg) (if (M 8 x2.toNatClampNeg) < (M 71 ((((Int32.ofInt 8) * (M 5 x2.toNatClampNeg)) + (M 6 x2.toNatClampNeg)).toNatClampNeg)) then (M 8 x2.toNatClampNeg) else (M 71 ((((Int32.ofInt 8) * (M 5 x2.toNatClampNeg)) + (M 6 x2.toNatClampNeg)).toNatClampNeg)))) L Q from ⟨⟨rfl, (o_1)⟩, ?_⟩)
      refine wp_seg (pc' := 101) [.invokestatic 1, .iastore] (by decide +kernel) (show aok 71 0 (((Int32.ofInt 8) * (M 6 x2.toNatClampNeg)) + (M 5 x2.toNatClampNeg)) ∧ Wp E d 6 101 [.ref 70, .ref 4, .int x2, .int (((Int32.ofInt 8) * (M 5 x2.toNatClampNeg)) + (M 6 x2.toNatClampNeg)), .int (((Int32.ofInt 8) * (M 6 x2.toNatClampNeg)) + (M 5 x2.toNatClampNeg))] [] (mput (mput M 71 ((((Int32.ofInt 8) * (M 5 x2.toNatClampNeg)) + (M 6 x2.toNatClampNeg)).toNatClampNeg) (if (M 8 x2.toNatClampNeg) < (M 71 ((((Int32.ofInt 8) * (M 5 x2.toNatClampNeg)) + (M 6 x2.toNatClampNeg)).toNatClampNeg)) then (M 8 x2.toNatClampNeg) else (M 71 ((((Int32.ofInt 8) * (M 5 x2.toNatClampNeg)) + (M 6 x2.toNatClampNeg)).toNatClampNeg)))) 71 ((((Int32.ofInt 8) * (M 6 x2.toNatClampNeg)) + (M 5 x2.toNatClampNeg)).toNatClampNeg) (if (M 8 x2.toNatClampNeg) < ((mput M 71 ((((Int32.ofInt 8) * (M 5 x2.toNatClampNeg)) + (M 6 x2.toNatClampNeg)).toNatClampNeg) (if (M 8 x2.toNatClampNeg) < (M 71 ((((Int32.ofInt 8) * (M 5 x2.toNatClampNeg)) + (M 6 x2.toNatClampNeg)).toNatClampNeg)) then (M 8 x2.toNatClampNeg) else (M 71 ((((Int32.ofInt 8) * (M 5 x2.toNatClampNeg)) + (M 6 x2.toNatClampNeg)).toNatClampNeg)))) 71 ((((Int32.ofInt 8) * (M 6 x2.toNatClampNeg)) + (M 5 x2.toNatClampNeg)).toNatClampNeg)) then (M 8 x2.toNatClampNeg) else ((mput M 71 ((((Int32.ofInt 8) * (M 5 x2.toNatClampNeg)) + (M 6 x2.toNatClampNeg)).toNatClampNeg) (if (M 8 x2.toNatClampNeg) < (M 71 ((((Int32.ofInt 8) * (M 5 x2.toNatClampNeg)) + (M 6 x2.toNatClampNeg)).toNatClampNeg)) then (M 8 x2.toNatClampNeg) else (M 71 ((((Int32.ofInt 8) * (M 5 x2.toNatClampNeg)) + (M 6 x2.toNatClampNeg)).toNatClampNeg)))) 71 ((((Int32.ofInt 8) * (M 6 x2.toNatClampNeg)) + (M 5 x2.toNatClampNeg)).toNatClampNeg)))) L Q from ⟨⟨rfl, (o_3 c_1 c_2)⟩, ?_⟩)
      exact wp_vret (by decide +kernel) rfl (by rw [g_X1_layTube_70, if_neg c_1, if_neg c_2] at hQ; exact hQ)

def g_X1_layTube_72 (M : Mem) (x2 : Int32) : Mem := (if (M 7 x2.toNatClampNeg) = (Int32.ofInt 120) then M else (if (M 7 x2.toNatClampNeg) = (Int32.ofInt 62) then (mput M 73 ((((Int32.ofInt 8) * (M 5 x2.toNatClampNeg)) + (M 6 x2.toNatClampNeg)).toNatClampNeg) (if (M 8 x2.toNatClampNeg) < (M 73 ((((Int32.ofInt 8) * (M 5 x2.toNatClampNeg)) + (M 6 x2.toNatClampNeg)).toNatClampNeg)) then (M 8 x2.toNatClampNeg) else (M 73 ((((Int32.ofInt 8) * (M 5 x2.toNatClampNeg)) + (M 6 x2.toNatClampNeg)).toNatClampNeg)))) else (mput (mput M 73 ((((Int32.ofInt 8) * (M 5 x2.toNatClampNeg)) + (M 6 x2.toNatClampNeg)).toNatClampNeg) (if (M 8 x2.toNatClampNeg) < (M 73 ((((Int32.ofInt 8) * (M 5 x2.toNatClampNeg)) + (M 6 x2.toNatClampNeg)).toNatClampNeg)) then (M 8 x2.toNatClampNeg) else (M 73 ((((Int32.ofInt 8) * (M 5 x2.toNatClampNeg)) + (M 6 x2.toNatClampNeg)).toNatClampNeg)))) 73 ((((Int32.ofInt 8) * (M 6 x2.toNatClampNeg)) + (M 5 x2.toNatClampNeg)).toNatClampNeg) (if (M 8 x2.toNatClampNeg) < ((mput M 73 ((((Int32.ofInt 8) * (M 5 x2.toNatClampNeg)) + (M 6 x2.toNatClampNeg)).toNatClampNeg) (if (M 8 x2.toNatClampNeg) < (M 73 ((((Int32.ofInt 8) * (M 5 x2.toNatClampNeg)) + (M 6 x2.toNatClampNeg)).toNatClampNeg)) then (M 8 x2.toNatClampNeg) else (M 73 ((((Int32.ofInt 8) * (M 5 x2.toNatClampNeg)) + (M 6 x2.toNatClampNeg)).toNatClampNeg)))) 73 ((((Int32.ofInt 8) * (M 6 x2.toNatClampNeg)) + (M 5 x2.toNatClampNeg)).toNatClampNeg)) then (M 8 x2.toNatClampNeg) else ((mput M 73 ((((Int32.ofInt 8) * (M 5 x2.toNatClampNeg)) + (M 6 x2.toNatClampNeg)).toNatClampNeg) (if (M 8 x2.toNatClampNeg) < (M 73 ((((Int32.ofInt 8) * (M 5 x2.toNatClampNeg)) + (M 6 x2.toNatClampNeg)).toNatClampNeg)) then (M 8 x2.toNatClampNeg) else (M 73 ((((Int32.ofInt 8) * (M 5 x2.toNatClampNeg)) + (M 6 x2.toNatClampNeg)).toNatClampNeg)))) 73 ((((Int32.ofInt 8) * (M 6 x2.toNatClampNeg)) + (M 5 x2.toNatClampNeg)).toNatClampNeg))))))
theorem s_X1_layTube_72 {E : VE} {d : Nat} {Q : QQ} {L : LMem} (M : Mem) (x2 : Int32) (o_1 : vp_in x2 12) (o_2 : ¬ ((M 7 x2.toNatClampNeg) = (Int32.ofInt 120)) → vp_in (((Int32.ofInt 8) * (M 5 x2.toNatClampNeg)) + (M 6 x2.toNatClampNeg)) 64) (o_3 : ¬ ((M 7 x2.toNatClampNeg) = (Int32.ofInt 120)) → ¬ ((M 7 x2.toNatClampNeg) = (Int32.ofInt 62)) → vp_in (((Int32.ofInt 8) * (M 6 x2.toNatClampNeg)) + (M 5 x2.toNatClampNeg)) 64) (hQ : Q none (g_X1_layTube_72 M x2) L) : Wp E d 6 0 [.ref 72, .ref 4, .int x2, .null, .null] [] M L Q := by
  refine wp_seg (pc' := 8) [.iconst 8, .aload 1, .getfield 128, .iload 2, .iaload] (by decide +kernel) (show aok 5 0 x2 ∧ Wp E d 6 8 [.ref 72, .ref 4, .int x2, .null, .null] [.int (M 5 x2.toNatClampNeg), .int (Int32.ofInt 8)] M L Q from ⟨⟨rfl, (o_1)⟩, ?_⟩)
  refine wp_seg (pc' := 15) [.imul, .aload 1, .getfield 129, .iload 2, .iaload] (by decide +kernel) (show aok 6 0 x2 ∧ Wp E d 6 15 [.ref 72, .ref 4, .int x2, .null, .null] [.int (M 6 x2.toNatClampNeg), .int ((Int32.ofInt 8) * (M 5 x2.toNatClampNeg))] M L Q from ⟨⟨rfl, (o_1)⟩, ?_⟩)
  refine wp_seg (pc' := 25) [.iadd, .istore 3, .iconst 8, .aload 1, .getfield 129, .iload 2, .iaload] (by decide +kernel) (show aok 6 0 x2 ∧ Wp E d 6 25 [.ref 72, .ref 4, .int x2, .int (((Int32.ofInt 8) * (M 5 x2.toNatClampNeg)) + (M 6 x2.toNatClampNeg)), .null] [.int (M 6 x2.toNatClampNeg), .int (Int32.ofInt 8)] M L Q from ⟨⟨rfl, (o_1)⟩, ?_⟩)
  refine wp_seg (pc' := 32) [.imul, .aload 1, .getfield 128, .iload 2, .iaload] (by decide +kernel) (show aok 5 0 x2 ∧ Wp E d 6 32 [.ref 72, .ref 4, .int x2, .int (((Int32.ofInt 8) * (M 5 x2.toNatClampNeg)) + (M 6 x2.toNatClampNeg)), .null] [.int (M 5 x2.toNatClampNeg), .int ((Int32.ofInt 8) * (M 6 x2.toNatClampNeg))] M L Q from ⟨⟨rfl, (o_1)⟩, ?_⟩)
  refine wp_seg (pc' := 41) [.iadd, .istore 4, .aload 1, .getfield 130, .iload 2, .iaload] (by decide +kernel) (show aok 7 0 x2 ∧ Wp E d 6 41 [.ref 72, .ref 4, .int x2, .int (((Int32.ofInt 8) * (M 5 x2.toNatClampNeg)) + (M 6 x2.toNatClampNeg)), .int (((Int32.ofInt 8) * (M 6 x2.toNatClampNeg)) + (M 5 x2.toNatClampNeg))] [.int (M 7 x2.toNatClampNeg)] M L Q from ⟨⟨rfl, (o_1)⟩, ?_⟩)
  refine wp_seg (pc' := 43) [.iconst 120] (by decide +kernel) (?_ : Wp E d 6 43 [.ref 72, .ref 4, .int x2, .int (((Int32.ofInt 8) * (M 5 x2.toNatClampNeg)) + (M 6 x2.toNatClampNeg)), .int (((Int32.ofInt 8) * (M 6 x2.toNatClampNeg)) + (M 5 x2.toNatClampNeg))] [.int (Int32.ofInt 120), .int (M 7 x2.toNatClampNeg)] M L Q)
  refine wp_icmpeq (off := 58) 101 (by decide +kernel) (by decide) (fun c_1 => ?_) (fun c_1 => ?_)
  · exact wp_vret (by decide +kernel) rfl (by rw [g_X1_layTube_72, if_pos c_1] at hQ; exact hQ)
  · refine wp_seg (pc' := 57) [.aload 0, .getfield 64, .iload 3, .aload 0, .getfield 64, .iload 3, .iaload] (by decide +kernel) (show aok 73 0 (((Int32.ofInt 8) * (M 5 x2.toNatClampNeg)) + (M 6 x2.toNatClampNeg)) ∧ Wp E d 6 57 [.ref 72, .ref 4, .int x2, .int (((Int32.ofInt 8) * (M 5 x2.toNatClampNeg)) + (M 6 x2.toNatClampNeg)), .int (((Int32.ofInt 8) * (M 6 x2.toNatClampNeg)) + (M 5 x2.toNatClampNeg))] [.int (M 73 ((((Int32.ofInt 8) * (M 5 x2.toNatClampNeg)) + (M 6 x2.toNatClampNeg)).toNatClampNeg)), .int (((Int32.ofInt 8) * (M 5 x2.toNatClampNeg)) + (M 6 x2.toNatClampNeg)), .ref 73] M L Q from ⟨⟨rfl, (o_2 c_1)⟩, ?_⟩)
    refine wp_seg (pc' := 63) [.aload 1, .getfield 131, .iload 2, .iaload] (by decide +kernel) (show aok 8 0 x2 ∧ Wp E d 6 63 [.ref 72, .ref 4, .int x2, .int (((Int32.ofInt 8) * (M 5 x2.toNatClampNeg)) + (M 6 x2.toNatClampNeg)), .int (((Int32.ofInt 8) * (M 6 x2.toNatClampNeg)) + (M 5 x2.toNatClampNeg))] [.int (M 8 x2.toNatClampNeg), .int (M 73 ((((Int32.ofInt 8) * (M 5 x2.toNatClampNeg)) + (M 6 x2.toNatClampNeg)).toNatClampNeg)), .int (((Int32.ofInt 8) * (M 5 x2.toNatClampNeg)) + (M 6 x2.toNatClampNeg)), .ref 73] M L Q from ⟨⟨rfl, (o_1)⟩, ?_⟩)
    refine wp_seg (pc' := 67) [.invokestatic 1, .iastore] (by decide +kernel) (show aok 73 0 (((Int32.ofInt 8) * (M 5 x2.toNatClampNeg)) + (M 6 x2.toNatClampNeg)) ∧ Wp E d 6 67 [.ref 72, .ref 4, .int x2, .int (((Int32.ofInt 8) * (M 5 x2.toNatClampNeg)) + (M 6 x2.toNatClampNeg)), .int (((Int32.ofInt 8) * (M 6 x2.toNatClampNeg)) + (M 5 x2.toNatClampNeg))] [] (mput M 73 ((((Int32.ofInt 8) * (M 5 x2.toNatClampNeg)) + (M 6 x2.toNatClampNeg)).toNatClampNeg) (if (M 8 x2.toNatClampNeg) < (M 73 ((((Int32.ofInt 8) * (M 5 x2.toNatClampNeg)) + (M 6 x2.toNatClampNeg)).toNatClampNeg)) then (M 8 x2.toNatClampNeg) else (M 73 ((((Int32.ofInt 8) * (M 5 x2.toNatClampNeg)) + (M 6 x2.toNatClampNeg)).toNatClampNeg)))) L Q from ⟨⟨rfl, (o_2 c_1)⟩, ?_⟩)
    refine wp_seg (pc' := 73) [.aload 1, .getfield 130, .iload 2, .iaload] (by decide +kernel) (show aok 7 0 x2 ∧ Wp E d 6 73 [.ref 72, .ref 4, .int x2, .int (((Int32.ofInt 8) * (M 5 x2.toNatClampNeg)) + (M 6 x2.toNatClampNeg)), .int (((Int32.ofInt 8) * (M 6 x2.toNatClampNeg)) + (M 5 x2.toNatClampNeg))] [.int (M 7 x2.toNatClampNeg)] (mput M 73 ((((Int32.ofInt 8) * (M 5 x2.toNatClampNeg)) + (M 6 x2.toNatClampNeg)).toNatClampNeg) (if (M 8 x2.toNatClampNeg) < (M 73 ((((Int32.ofInt 8) * (M 5 x2.toNatClampNeg)) + (M 6 x2.toNatClampNeg)).toNatClampNeg)) then (M 8 x2.toNatClampNeg) else (M 73 ((((Int32.ofInt 8) * (M 5 x2.toNatClampNeg)) + (M 6 x2.toNatClampNeg)).toNatClampNeg)))) L Q from ⟨⟨rfl, (o_1)⟩, ?_⟩)
    refine wp_seg (pc' := 75) [.iconst 62] (by decide +kernel) (?_ : Wp E d 6 75 [.ref 72, .ref 4, .int x2, .int (((Int32.ofInt 8) * (M 5 x2.toNatClampNeg)) + (M 6 x2.toNatClampNeg)), .int (((Int32.ofInt 8) * (M 6 x2.toNatClampNeg)) + (M 5 x2.toNatClampNeg))] [.int (Int32.ofInt 62), .int (M 7 x2.toNatClampNeg)] (mput M 73 ((((Int32.ofInt 8) * (M 5 x2.toNatClampNeg)) + (M 6 x2.toNatClampNeg)).toNatClampNeg) (if (M 8 x2.toNatClampNeg) < (M 73 ((((Int32.ofInt 8) * (M 5 x2.toNatClampNeg)) + (M 6 x2.toNatClampNeg)).toNatClampNeg)) then (M 8 x2.toNatClampNeg) else (M 73 ((((Int32.ofInt 8) * (M 5 x2.toNatClampNeg)) + (M 6 x2.toNatClampNeg)).toNatClampNeg)))) L Q)
    refine wp_icmpeq (off := 26) 101 (by decide +kernel) (by decide) (fun c_2 => ?_) (fun c_2 => ?_)
    · exact wp_vret (by decide +kernel) rfl (by rw [g_X1_layTube_72, if_neg c_1, if_pos c_2] at hQ; exact hQ)
    · refine wp_seg (pc' := 91) [.aload 0, .getfield 64, .iload 4, .aload 0, .getfield 64, .iload 4, .iaload] (by decide +kernel) (show aok 73 0 (((Int32.ofInt 8) * (M 6 x2.toNatClampNeg)) + (M 5 x2.toNatClampNeg)) ∧ Wp E d 6 91 [.ref 72, .ref 4, .int x2, .int (((Int32.ofInt 8) * (M 5 x2.toNatClampNeg)) + (M 6 x2.toNatClampNeg)), .int (((Int32.ofInt 8) * (M 6 x2.toNatClampNeg)) + (M 5 x2.toNatClampNeg))] [.int ((mput M 73 ((((Int32.ofInt 8) * (M 5 x2.toNatClampNeg)) + (M 6 x2.toNatClampNeg)).toNatClampNeg) (if (M 8 x2.toNatClampNeg) < (M 73 ((((Int32.ofInt 8) * (M 5 x2.toNatClampNeg)) + (M 6 x2.toNatClampNeg)).toNatClampNeg)) then (M 8 x2.toNatClampNeg) else (M 73 ((((Int32.ofInt 8) * (M 5 x2.toNatClampNeg)) + (M 6 x2.toNatClampNeg)).toNatClampNeg)))) 73 ((((Int32.ofInt 8) * (M 6 x2.toNatClampNeg)) + (M 5 x2.toNatClampNeg)).toNatClampNeg)), .int (((Int32.ofInt 8) * (M 6 x2.toNatClampNeg)) + (M 5 x2.toNatClampNeg)), .ref 73] (mput M 73 ((((Int32.ofInt 8) * (M 5 x2.toNatClampNeg)) + (M 6 x2.toNatClampNeg)).toNatClampNeg) (if (M 8 x2.toNatClampNeg) < (M 73 ((((Int32.ofInt 8) * (M 5 x2.toNatClampNeg)) + (M 6 x2.toNatClampNeg)).toNatClampNeg)) then (M 8 x2.toNatClampNeg) else (M 73 ((((Int32.ofInt 8) * (M 5 x2.toNatClampNeg)) + (M 6 x2.toNatClampNeg)).toNatClampNeg)))) L Q from ⟨⟨rfl, (o_3 c_1 c_2)⟩, ?_⟩)
      refine wp_seg (pc' := 97) [.aload 1, .getfield 131, .iload 2, .iaload] (by decide +kernel) (show aok 8 0 x2 ∧ Wp E d 6 97 [.ref 72, .ref 4, .int x2, .int (((Int32.ofInt 8) * (M 5 x2.toNatClampNeg)) + (M 6 x2.toNatClampNeg)), .int (((Int32.ofInt 8) * (M 6 x2.toNatClampNeg)) + (M 5 x2.toNatClampNeg))] [.int (M 8 x2.toNatClampNeg), .int ((mput M 73 ((((Int32.ofInt 8) * (M 5 x2.toNatClampNeg)) + (M 6 x2.toNatClampNeg)).toNatClampNeg) (if (M 8 x2.toNatClampNeg) < (M 73 ((((Int32.ofInt 8) * (M 5 x2.toNatClampNeg)) + (M 6 x2.toNatClampNeg)).toNatClampNeg)) then (M 8 x2.toNatClampNeg) else (M 73 ((((Int32.ofInt 8) * (M 5 x2.toNatClampNeg)) + (M 6 x2.toNatClampNeg)).toNatClampNeg)))) 73 ((((Int32.ofInt 8) * (M 6 x2.toNatClampNeg)) + (M 5 x2.toNatClampNeg)).toNatClampNeg)), .int (((Int32.ofInt 8) * (M 6 x2.toNatClampNeg)) + (M 5 x2.toNatClampNeg)), .ref 73] (mput M 73 ((((Int32.ofInt 8) * (M 5 x2.toNatClampNeg)) + (M 6 x2.toNatClampNeg)).toNatClampNeg) (if (M 8 x2.toNatClampNeg) < (M 73 ((((Int32.ofInt 8) * (M 5 x2.toNatClampNeg)) + (M 6 x2.toNatClampNeg)).toNatClampNeg)) then (M 8 x2.toNatClampNeg) else (M 73 ((((Int32.ofInt 8) * (M 5 x2.toNatClampNeg)) + (M 6 x2.toNatClampNeg)).toNatClampNeg)))) L Q from ⟨⟨rfl, (o_1)⟩, ?_⟩)
      refine wp_seg (pc' := 101) [.invokestatic 1, .iastore] (by decide +kernel) (show aok 73 0 (((Int32.ofInt 8) * (M 6 x2.toNatClampNeg)) + (M 5 x2.toNatClampNeg)) ∧ Wp E d 6 101 [.ref 72, .ref 4, .int x2, .int (((Int32.ofInt 8) * (M 5 x2.toNatClampNeg)) + (M 6 x2.toNatClampNeg)), .int (((Int32.ofInt 8) * (M 6 x2.toNatClampNeg)) + (M 5 x2.toNatClampNeg))] [] (mput (mput M 73 ((((Int32.ofInt 8) * (M 5 x2.toNatClampNeg)) + (M 6 x2.toNatClampNeg)).toNatClampNeg) (if (M 8 x2.toNatClampNeg) < (M 73 ((((Int32.ofInt 8) * (M 5 x2.toNatClampNeg)) + (M 6 x2.toNatClampNeg)).toNatClampNeg)) then (M 8 x2.toNatClampNeg) else (M 73 ((((Int32.ofInt 8) * (M 5 x2.toNatClampNeg)) + (M 6 x2.toNatClampNeg)).toNatClampNeg)))) 73 ((((Int32.ofInt 8) * (M 6 x2.toNatClampNeg)) + (M 5 x2.toNatClampNeg)).toNatClampNeg) (if (M 8 x2.toNatClampNeg) < ((mput M 73 ((((Int32.ofInt 8) * (M 5 x2.toNatClampNeg)) + (M 6 x2.toNatClampNeg)).toNatClampNeg) (if (M 8 x2.toNatClampNeg) < (M 73 ((((Int32.ofInt 8) * (M 5 x2.toNatClampNeg)) + (M 6 x2.toNatClampNeg)).toNatClampNeg)) then (M 8 x2.toNatClampNeg) else (M 73 ((((Int32.ofInt 8) * (M 5 x2.toNatClampNeg)) + (M 6 x2.toNatClampNeg)).toNatClampNeg)))) 73 ((((Int32.ofInt 8) * (M 6 x2.toNatClampNeg)) + (M 5 x2.toNatClampNeg)).toNatClampNeg)) then (M 8 x2.toNatClampNeg) else ((mput M 73 ((((Int32.ofInt 8) * (M 5 x2.toNatClampNeg)) + (M 6 x2.toNatClampNeg)).toNatClampNeg) (if (M 8 x2.toNatClampNeg) < (M 73 ((((Int32.ofInt 8) * (M 5 x2.toNatClampNeg)) + (M 6 x2.toNatClampNeg)).toNatClampNeg)) then (M 8 x2.toNatClampNeg) else (M 73 ((((Int32.ofInt 8) * (M 5 x2.toNatClampNeg)) + (M 6 x2.toNatClampNeg)).toNatClampNeg)))) 73 ((((Int32.ofInt 8) * (M 6 x2.toNatClampNeg)) + (M 5 x2.toNatClampNeg)).toNatClampNeg)))) L Q from ⟨⟨rfl, (o_3 c_1 c_2)⟩, ?_⟩)
      exact wp_vret (by decide +kernel) rfl (by rw [g_X1_layTube_72, if_neg c_1, if_neg c_2] at hQ; exact hQ)

def f_X3_addWaiting (M : Mem) (x1 : Int32) (x2 : Int32) (x3 : Int32) (x4 : Int32) : Int32 := (if (M 3 8) < (Int32.ofInt 5) then Int32.ofInt 1 else Int32.ofInt 0)
def g_X3_addWaiting (M : Mem) (x1 : Int32) (x2 : Int32) (x3 : Int32) (x4 : Int32) : Mem := (if (M 3 8) < (Int32.ofInt 5) then (mput (mput (mput (mput (mput M 10 ((M 3 8).toNatClampNeg) x1) 11 ((M 3 8).toNatClampNeg) x2) 12 ((M 3 8).toNatClampNeg) x3) 13 ((M 3 8).toNatClampNeg) x4) 3 8 ((M 3 8) + (Int32.ofInt 1))) else M)
theorem z_X3_addWaiting (M : Mem) (x1 : Int32) (x2 : Int32) (x3 : Int32) (x4 : Int32) : f_X3_addWaiting M x1 x2 x3 x4 = 0 ∨ f_X3_addWaiting M x1 x2 x3 x4 = 1 := by
  unfold f_X3_addWaiting
  repeat' split
  all_goals first | exact Or.inl rfl | exact Or.inr rfl
theorem s_X3_addWaiting {E : VE} {d : Nat} {Q : QQ} {L : LMem} (M : Mem) (x1 : Int32) (x2 : Int32) (x3 : Int32) (x4 : Int32) (o_1 : (M 3 8) < (Int32.ofInt 5) → vp_in (M 3 8) 5) (hQ : Q (some (.int (f_X3_addWaiting M x1 x2 x3 x4))) (g_X3_addWaiting M x1 x2 x3 x4) L) : Wp E d 16 0 [.ref 3, .int x1, .int x2, .int x3, .int x4] [] M L Q := by
  refine wp_seg (pc' := 5) [.aload 0, .getfield 200, .iconst 5] (by decide +kernel) (?_ : Wp E d 16 5 [.ref 3, .int x1, .int x2, .int x3, .int x4] [.int (Int32.ofInt 5), .int (M 3 8)] M L Q)
  refine wp_icmplt (off := 5) 10 (by decide +kernel) (by decide) (fun c_1 => ?_) (fun c_1 => ?_)
  · refine wp_seg (pc' := 20) [.aload 0, .getfield 196, .aload 0, .getfield 200, .iload 1, .iastore] (by decide +kernel) (show aok 10 0 (M 3 8) ∧ Wp E d 16 20 [.ref 3, .int x1, .int x2, .int x3, .int x4] [] (mput M 10 ((M 3 8).toNatClampNeg) x1) L Q from ⟨⟨rfl, (o_1 c_1)⟩, ?_⟩)
    refine wp_seg (pc' := 30) [.aload 0, .getfield 197, .aload 0, .getfield 200, .iload 2, .iastore] (by decide +kernel) (show aok 11 0 (M 3 8) ∧ Wp E d 16 30 [.ref 3, .int x1, .int x2, .int x3, .int x4] [] (mput (mput M 10 ((M 3 8).toNatClampNeg) x1) 11 ((M 3 8).toNatClampNeg) x2) L Q from ⟨⟨rfl, (o_1 c_1)⟩, ?_⟩)
    refine wp_seg (pc' := 40) [.aload 0, .getfield 198, .aload 0, .getfield 200, .iload 3, .iastore] (by decide +kernel) (show aok 12 0 (M 3 8) ∧ Wp E d 16 40 [.ref 3, .int x1, .int x2, .int x3, .int x4] [] (mput (mput (mput M 10 ((M 3 8).toNatClampNeg) x1) 11 ((M 3 8).toNatClampNeg) x2) 12 ((M 3 8).toNatClampNeg) x3) L Q from ⟨⟨rfl, (o_1 c_1)⟩, ?_⟩)
    refine wp_seg (pc' := 51) [.aload 0, .getfield 199, .aload 0, .getfield 200, .iload 4, .iastore] (by decide +kernel) (show aok 13 0 (M 3 8) ∧ Wp E d 16 51 [.ref 3, .int x1, .int x2, .int x3, .int x4] [] (mput (mput (mput (mput M 10 ((M 3 8).toNatClampNeg) x1) 11 ((M 3 8).toNatClampNeg) x2) 12 ((M 3 8).toNatClampNeg) x3) 13 ((M 3 8).toNatClampNeg) x4) L Q from ⟨⟨rfl, (o_1 c_1)⟩, ?_⟩)
    refine wp_seg (pc' := 62) [.aload 0, .dup, .getfield 200, .iconst 1, .iadd, .putfield 200, .iconst 1] (by decide +kernel) (?_ : Wp E d 16 62 [.ref 3, .int x1, .int x2, .int x3, .int x4] [.int (Int32.ofInt 1)] (mput (mput (mput (mput (mput M 10 ((M 3 8).toNatClampNeg) x1) 11 ((M 3 8).toNatClampNeg) x2) 12 ((M 3 8).toNatClampNeg) x3) 13 ((M 3 8).toNatClampNeg) x4) 3 8 ((M 3 8) + (Int32.ofInt 1))) L Q)
    exact wp_zret (by decide +kernel) rfl (by decide) (by rw [f_X3_addWaiting, if_pos c_1, g_X3_addWaiting, if_pos c_1] at hQ; exact hQ)
  · refine wp_seg (pc' := 9) [.iconst 0] (by decide +kernel) (?_ : Wp E d 16 9 [.ref 3, .int x1, .int x2, .int x3, .int x4] [.int (Int32.ofInt 0)] M L Q)
    exact wp_zret (by decide +kernel) rfl (by decide) (by rw [f_X3_addWaiting, if_neg c_1, g_X3_addWaiting, if_neg c_1] at hQ; exact hQ)

def f_X9_say (M : Mem) (x1 : Int32) : Int32 := (if x1 < (Int32.ofInt 33) then Int32.ofInt (-2) else (if x1 ≤ (Int32.ofInt 126) then (if (f_X5_add M x1) = 0 then Int32.ofInt (-4) else (g_X5_add M x1) 1 1) else Int32.ofInt (-2)))
def g_X9_say (M : Mem) (x1 : Int32) : Mem := (if x1 < (Int32.ofInt 33) then M else (if x1 ≤ (Int32.ofInt 126) then (if (f_X5_add M x1) = 0 then (g_X5_add M x1) else (g_X5_add M x1)) else M))
theorem s_X9_say {E : VE} {d : Nat} {Q : QQ} {L : LMem} (M : Mem) (x1 : Int32) (o_1 : ¬ (x1 < (Int32.ofInt 33)) → x1 ≤ (Int32.ofInt 126) → ((M 1 1) < (Int32.ofInt 60) → vp_in (M 1 1) 60)) (hQ : Q (some (.int (f_X9_say M x1))) (g_X9_say M x1) L) : Wp E (d + 1) 60 0 [.ref 0, .int x1] [] M L Q := by
  refine wp_seg (pc' := 3) [.iload 1, .iconst 33] (by decide +kernel) (?_ : Wp E (d + 1) 60 3 [.ref 0, .int x1] [.int (Int32.ofInt 33), .int x1] M L Q)
  refine wp_icmplt (off := 9) 12 (by decide +kernel) (by decide) (fun c_1 => ?_) (fun c_1 => ?_)
  · refine wp_seg (pc' := 14) [.iconst (-2)] (by decide +kernel) (?_ : Wp E (d + 1) 60 14 [.ref 0, .int x1] [.int (Int32.ofInt (-2))] M L Q)
    exact wp_iret (by decide +kernel) rfl (by rw [f_X9_say, if_pos c_1, g_X9_say, if_pos c_1] at hQ; exact hQ)
  · refine wp_seg (pc' := 9) [.iload 1, .iconst 126] (by decide +kernel) (?_ : Wp E (d + 1) 60 9 [.ref 0, .int x1] [.int (Int32.ofInt 126), .int x1] M L Q)
    refine wp_icmple (off := 6) 15 (by decide +kernel) (by decide) (fun c_2 => ?_) (fun c_2 => ?_)
    · refine wp_seg (pc' := 20) [.aload 0, .getfield 576, .iload 1] (by decide +kernel) (?_ : Wp E (d + 1) 60 20 [.ref 0, .int x1] [.int x1, .ref 1] M L Q)
      refine wp_callV 27 1 [.int x1] (i := 78) (by decide +kernel) (by decide +kernel) (by decide +kernel) (by decide +kernel) rfl rfl rfl (rest := []) rfl rfl ?_
      refine s_X5_add M x1 (o_1 c_1 c_2) ?_
      show Wp E (d + 1) 60 23 [.ref 0, .int x1] [.int (f_X5_add M x1)] (g_X5_add M x1) L Q
      refine wp_ifeq (off := 13) 36 (by decide +kernel) (by decide) (fun c_3 => ?_) (fun c_3 => ?_)
      · refine wp_seg (pc' := 38) [.iconst (-4)] (by decide +kernel) (?_ : Wp E (d + 1) 60 38 [.ref 0, .int x1] [.int (Int32.ofInt (-4))] (g_X5_add M x1) L Q)
        exact wp_iret (by decide +kernel) rfl (by rw [f_X9_say, if_neg c_1, if_pos c_2, if_pos c_3, g_X9_say, if_neg c_1, if_pos c_2, if_pos c_3] at hQ; exact hQ)
      · refine wp_seg (pc' := 38) [.aload 0, .getfield 576, .getfield 321, .goto 0] (by decide +kernel) (?_ : Wp E (d + 1) 60 38 [.ref 0, .int x1] [.int ((g_X5_add M x1) 1 1)] (g_X5_add M x1) L Q)
        exact wp_iret (by decide +kernel) rfl (by rw [f_X9_say, if_neg c_1, if_pos c_2, if_neg c_3, g_X9_say, if_neg c_1, if_pos c_2, if_neg c_3] at hQ; exact hQ)
    · refine wp_seg (pc' := 14) [.iconst (-2)] (by decide +kernel) (?_ : Wp E (d + 1) 60 14 [.ref 0, .int x1] [.int (Int32.ofInt (-2))] M L Q)
      exact wp_iret (by decide +kernel) rfl (by rw [f_X9_say, if_neg c_1, if_neg c_2, g_X9_say, if_neg c_1, if_neg c_2] at hQ; exact hQ)

def f_X9_wipe (M : Mem) : Int32 := f_X5_empty M
def g_X9_wipe (M : Mem) : Mem := (g_X5_empty M)
theorem s_X9_wipe {E : VE} {d : Nat} {Q : QQ} {L : LMem} (M : Mem) (hQ : Q (some (.int (f_X9_wipe M))) (g_X9_wipe M) L) : Wp E (d + 1) 61 0 [.ref 0] [] M L Q := by
  refine wp_seg (pc' := 4) [.aload 0, .getfield 576] (by decide +kernel) (?_ : Wp E (d + 1) 61 4 [.ref 0] [.ref 1] M L Q)
  refine wp_callV 28 1 [] (i := 86) (by decide +kernel) (by decide +kernel) (by decide +kernel) (by decide +kernel) rfl rfl rfl (rest := []) rfl rfl ?_
  refine s_X5_empty M  ?_
  show Wp E (d + 1) 61 7 [.ref 0] [.int (f_X5_empty M)] (g_X5_empty M) L Q
  exact wp_iret (by decide +kernel) rfl hQ

def f_X9_set (M : Mem) (x1 : Int32) (x2 : Int32) : Int32 := (if x1 = 0 then (if (f_X9_within M x2 (Int32.ofInt 1) (Int32.ofInt 60)) = 0 then (if x1 = (Int32.ofInt 1) then (if (f_X9_within M x2 (Int32.ofInt 0) (Int32.ofInt 255)) = 0 then Int32.ofInt (-2) else M 3 2) else Int32.ofInt (-2)) else M 3 1) else (if x1 = (Int32.ofInt 1) then (if (f_X9_within M x2 (Int32.ofInt 0) (Int32.ofInt 255)) = 0 then Int32.ofInt (-2) else M 3 2) else Int32.ofInt (-2)))
def g_X9_set (M : Mem) (x1 : Int32) (x2 : Int32) : Mem := (if x1 = 0 then (if (f_X9_within M x2 (Int32.ofInt 1) (Int32.ofInt 60)) = 0 then (if x1 = (Int32.ofInt 1) then (if (f_X9_within M x2 (Int32.ofInt 0) (Int32.ofInt 255)) = 0 then M else (mput M 3 2 x2)) else M) else (mput M 3 1 x2)) else (if x1 = (Int32.ofInt 1) then (if (f_X9_within M x2 (Int32.ofInt 0) (Int32.ofInt 255)) = 0 then M else (mput M 3 2 x2)) else M))
theorem s_X9_set {E : VE} {d : Nat} {Q : QQ} {L : LMem} (M : Mem) (x1 : Int32) (x2 : Int32) (hQ : Q (some (.int (f_X9_set M x1 x2))) (g_X9_set M x1 x2) L) : Wp E (d + 1) 64 0 [.ref 0, .int x1, .int x2, .null] [] M L Q := by
  refine wp_seg (pc' := 1) [.iload 1] (by decide +kernel) (?_ : Wp E (d + 1) 64 1 [.ref 0, .int x1, .int x2, .null] [.int x1] M L Q)
  refine wp_ifne (off := 31) 32 (by decide +kernel) (by decide) (fun c_1 => ?_) (fun c_1 => ?_)
  · refine wp_seg (pc' := 34) [.iload 1, .iconst 1] (by decide +kernel) (?_ : Wp E (d + 1) 64 34 [.ref 0, .int x1, .int x2, .null] [.int (Int32.ofInt 1), .int x1] M L Q)
    refine wp_icmpne (off := 32) 66 (by decide +kernel) (by decide) (fun c_2 => ?_) (fun c_2 => ?_)
    · refine wp_seg (pc' := 68) [.iconst (-2)] (by decide +kernel) (?_ : Wp E (d + 1) 64 68 [.ref 0, .int x1, .int x2, .null] [.int (Int32.ofInt (-2))] M L Q)
      exact wp_iret (by decide +kernel) rfl (by rw [f_X9_set, if_neg c_1, if_neg c_2, g_X9_set, if_neg c_1, if_neg c_2] at hQ; exact hQ)
    · refine wp_seg (pc' := 42) [.iload 2, .iconst 0, .iconst 255] (by decide +kernel) (?_ : Wp E (d + 1) 64 42 [.ref 0, .int x1, .int x2, .null] [.int (Int32.ofInt 255), .int (Int32.ofInt 0), .int x2] M L Q)
      refine wp_callS 83 [.int x2, .int (Int32.ofInt 0), .int (Int32.ofInt 255)] (i := 126) (by decide +kernel) (by decide +kernel) (by decide +kernel) rfl rfl rfl (rest := []) rfl rfl ?_
      refine s_X9_within M x2 (Int32.ofInt 0) (Int32.ofInt 255)  ?_
      show Wp E (d + 1) 64 45 [.ref 0, .int x1, .int x2, .null] [.int (f_X9_within M x2 (Int32.ofInt 0) (Int32.ofInt 255))] M L Q
      refine wp_ifeq (off := 21) 66 (by decide +kernel) (by decide) (fun c_3 => ?_) (fun c_3 => ?_)
      · refine wp_seg (pc' := 68) [.iconst (-2)] (by decide +kernel) (?_ : Wp E (d + 1) 64 68 [.ref 0, .int x1, .int x2, .null] [.int (Int32.ofInt (-2))] M L Q)
        exact wp_iret (by decide +kernel) rfl (by rw [f_X9_set, if_neg c_1, if_pos c_2, if_pos c_3, g_X9_set, if_neg c_1, if_pos c_2, if_pos c_3] at hQ; exact hQ)
      · refine wp_seg (pc' := 65) [.aload 0, .getfield 577, .getfield 194, .istore 3, .aload 0, .getfield 577, .iload 2, .putfield 194, .iload 3] (by decide +kernel) (?_ : Wp E (d + 1) 64 65 [.ref 0, .int x1, .int x2, .int (M 3 2)] [.int (M 3 2)] (mput M 3 2 x2) L Q)
        exact wp_iret (by decide +kernel) rfl (by rw [f_X9_set, if_neg c_1, if_pos c_2, if_neg c_3, g_X9_set, if_neg c_1, if_pos c_2, if_neg c_3] at hQ; exact hQ)
  · refine wp_seg (pc' := 8) [.iload 2, .iconst 1, .iconst 60] (by decide +kernel) (?_ : Wp E (d + 1) 64 8 [.ref 0, .int x1, .int x2, .null] [.int (Int32.ofInt 60), .int (Int32.ofInt 1), .int x2] M L Q)
    refine wp_callS 83 [.int x2, .int (Int32.ofInt 1), .int (Int32.ofInt 60)] (i := 126) (by decide +kernel) (by decide +kernel) (by decide +kernel) rfl rfl rfl (rest := []) rfl rfl ?_
    refine s_X9_within M x2 (Int32.ofInt 1) (Int32.ofInt 60)  ?_
    show Wp E (d + 1) 64 11 [.ref 0, .int x1, .int x2, .null] [.int (f_X9_within M x2 (Int32.ofInt 1) (Int32.ofInt 60))] M L Q
    refine wp_ifeq (off := 21) 32 (by decide +kernel) (by decide) (fun c_4 => ?_) (fun c_4 => ?_)
    · refine wp_seg (pc' := 34) [.iload 1, .iconst 1] (by decide +kernel) (?_ : Wp E (d + 1) 64 34 [.ref 0, .int x1, .int x2, .null] [.int (Int32.ofInt 1), .int x1] M L Q)
      refine wp_icmpne (off := 32) 66 (by decide +kernel) (by decide) (fun c_5 => ?_) (fun c_5 => ?_)
      · refine wp_seg (pc' := 68) [.iconst (-2)] (by decide +kernel) (?_ : Wp E (d + 1) 64 68 [.ref 0, .int x1, .int x2, .null] [.int (Int32.ofInt (-2))] M L Q)
        exact wp_iret (by decide +kernel) rfl (by rw [f_X9_set, if_pos c_1, if_pos c_4, if_neg c_5, g_X9_set, if_pos c_1, if_pos c_4, if_neg c_5] at hQ; exact hQ)
      · refine wp_seg (pc' := 42) [.iload 2, .iconst 0, .iconst 255] (by decide +kernel) (?_ : Wp E (d + 1) 64 42 [.ref 0, .int x1, .int x2, .null] [.int (Int32.ofInt 255), .int (Int32.ofInt 0), .int x2] M L Q)
        refine wp_callS 83 [.int x2, .int (Int32.ofInt 0), .int (Int32.ofInt 255)] (i := 126) (by decide +kernel) (by decide +kernel) (by decide +kernel) rfl rfl rfl (rest := []) rfl rfl ?_
        refine s_X9_within M x2 (Int32.ofInt 0) (Int32.ofInt 255)  ?_
        show Wp E (d + 1) 64 45 [.ref 0, .int x1, .int x2, .null] [.int (f_X9_within M x2 (Int32.ofInt 0) (Int32.ofInt 255))] M L Q
        refine wp_ifeq (off := 21) 66 (by decide +kernel) (by decide) (fun c_6 => ?_) (fun c_6 => ?_)
        · refine wp_seg (pc' := 68) [.iconst (-2)] (by decide +kernel) (?_ : Wp E (d + 1) 64 68 [.ref 0, .int x1, .int x2, .null] [.int (Int32.ofInt (-2))] M L Q)
          exact wp_iret (by decide +kernel) rfl (by rw [f_X9_set, if_pos c_1, if_pos c_4, if_pos c_5, if_pos c_6, g_X9_set, if_pos c_1, if_pos c_4, if_pos c_5, if_pos c_6] at hQ; exact hQ)
        · refine wp_seg (pc' := 65) [.aload 0, .getfield 577, .getfield 194, .istore 3, .aload 0, .getfield 577, .iload 2, .putfield 194, .iload 3] (by decide +kernel) (?_ : Wp E (d + 1) 64 65 [.ref 0, .int x1, .int x2, .int (M 3 2)] [.int (M 3 2)] (mput M 3 2 x2) L Q)
          exact wp_iret (by decide +kernel) rfl (by rw [f_X9_set, if_pos c_1, if_pos c_4, if_pos c_5, if_neg c_6, g_X9_set, if_pos c_1, if_pos c_4, if_pos c_5, if_neg c_6] at hQ; exact hQ)
    · refine wp_seg (pc' := 31) [.aload 0, .getfield 577, .getfield 193, .istore 3, .aload 0, .getfield 577, .iload 2, .putfield 193, .iload 3] (by decide +kernel) (?_ : Wp E (d + 1) 64 31 [.ref 0, .int x1, .int x2, .int (M 3 1)] [.int (M 3 1)] (mput M 3 1 x2) L Q)
      exact wp_iret (by decide +kernel) rfl (by rw [f_X9_set, if_pos c_1, if_neg c_4, g_X9_set, if_pos c_1, if_neg c_4] at hQ; exact hQ)

def f_X9_know (M : Mem) (x1 : Int32) (x2 : Int32) : Int32 := (if (f_X9_isRoom M x1) = 0 then Int32.ofInt (-1) else (if (f_X9_within M x2 (Int32.ofInt 0) (Int32.ofInt 255)) = 0 then Int32.ofInt (-2) else M 9 x1.toNatClampNeg))
def g_X9_know (M : Mem) (x1 : Int32) (x2 : Int32) : Mem := (if (f_X9_isRoom M x1) = 0 then M else (if (f_X9_within M x2 (Int32.ofInt 0) (Int32.ofInt 255)) = 0 then M else (mput M 9 x1.toNatClampNeg x2)))
theorem s_X9_know {E : VE} {d : Nat} {Q : QQ} {L : LMem} (M : Mem) (x1 : Int32) (x2 : Int32) (o_1 : ¬ ((f_X9_isRoom M x1) = 0) → ¬ ((f_X9_within M x2 (Int32.ofInt 0) (Int32.ofInt 255)) = 0) → vp_in x1 8) (hQ : Q (some (.int (f_X9_know M x1 x2))) (g_X9_know M x1 x2) L) : Wp E (d + 2) 70 0 [.ref 0, .int x1, .int x2, .null] [] M L Q := by
  refine wp_seg (pc' := 1) [.iload 1] (by decide +kernel) (?_ : Wp E (d + 2) 70 1 [.ref 0, .int x1, .int x2, .null] [.int x1] M L Q)
  refine wp_callS 84 [.int x1] (i := 150) (by decide +kernel) (by decide +kernel) (by decide +kernel) rfl rfl rfl (rest := []) rfl rfl ?_
  refine s_X9_isRoom M x1  ?_
  show Wp E (d + 2) 70 4 [.ref 0, .int x1, .int x2, .null] [.int (f_X9_isRoom M x1)] M L Q
  refine wp_ifne (off := 5) 9 (by decide +kernel) (by decide) (fun c_1 => ?_) (fun c_1 => ?_)
  · refine wp_seg (pc' := 14) [.iload 2, .iconst 0, .iconst 255] (by decide +kernel) (?_ : Wp E (d + 2) 70 14 [.ref 0, .int x1, .int x2, .null] [.int (Int32.ofInt 255), .int (Int32.ofInt 0), .int x2] M L Q)
    refine wp_callS 83 [.int x2, .int (Int32.ofInt 0), .int (Int32.ofInt 255)] (i := 126) (by decide +kernel) (by decide +kernel) (by decide +kernel) rfl rfl rfl (rest := []) rfl rfl ?_
    refine s_X9_within M x2 (Int32.ofInt 0) (Int32.ofInt 255)  ?_
    show Wp E (d + 2) 70 17 [.ref 0, .int x1, .int x2, .null] [.int (f_X9_within M x2 (Int32.ofInt 0) (Int32.ofInt 255))] M L Q
    refine wp_ifne (off := 6) 23 (by decide +kernel) (by decide) (fun c_2 => ?_) (fun c_2 => ?_)
    · refine wp_seg (pc' := 32) [.aload 0, .getfield 577, .getfield 195, .iload 1, .iaload] (by decide +kernel) (show aok 9 0 x1 ∧ Wp E (d + 2) 70 32 [.ref 0, .int x1, .int x2, .null] [.int (M 9 x1.toNatClampNeg)] M L Q from ⟨⟨rfl, (o_1 c_1 c_2)⟩, ?_⟩)
      refine wp_seg (pc' := 43) [.istore 3, .aload 0, .getfield 577, .getfield 195, .iload 1, .iload 2, .iastore] (by decide +kernel) (show aok 9 0 x1 ∧ Wp E (d + 2) 70 43 [.ref 0, .int x1, .int x2, .int (M 9 x1.toNatClampNeg)] [] (mput M 9 x1.toNatClampNeg x2) L Q from ⟨⟨rfl, (o_1 c_1 c_2)⟩, ?_⟩)
      refine wp_seg (pc' := 44) [.iload 3] (by decide +kernel) (?_ : Wp E (d + 2) 70 44 [.ref 0, .int x1, .int x2, .int (M 9 x1.toNatClampNeg)] [.int (M 9 x1.toNatClampNeg)] (mput M 9 x1.toNatClampNeg x2) L Q)
      exact wp_iret (by decide +kernel) rfl (by rw [f_X9_know, if_neg c_1, if_neg c_2, g_X9_know, if_neg c_1, if_neg c_2] at hQ; exact hQ)
    · refine wp_seg (pc' := 22) [.iconst (-2)] (by decide +kernel) (?_ : Wp E (d + 2) 70 22 [.ref 0, .int x1, .int x2, .null] [.int (Int32.ofInt (-2))] M L Q)
      exact wp_iret (by decide +kernel) rfl (by rw [f_X9_know, if_neg c_1, if_pos c_2, g_X9_know, if_neg c_1, if_pos c_2] at hQ; exact hQ)
  · refine wp_seg (pc' := 8) [.iconst (-1)] (by decide +kernel) (?_ : Wp E (d + 2) 70 8 [.ref 0, .int x1, .int x2, .null] [.int (Int32.ofInt (-1))] M L Q)
    exact wp_iret (by decide +kernel) rfl (by rw [f_X9_know, if_pos c_1, g_X9_know, if_pos c_1] at hQ; exact hQ)

def f_X9_call (M : Mem) (x1 : Int32) (x2 : Int32) (x3 : Int32) (x4 : Int32) : Int32 := (if (f_X9_twoRooms M x1 x2) = 0 then Int32.ofInt (-1) else (if (f_X9_within M x3 (Int32.ofInt 1) (Int32.ofInt 9)) = 0 then Int32.ofInt (-2) else (if (f_X9_within M x4 (Int32.ofInt 1) (Int32.ofInt 60)) = 0 then Int32.ofInt (-2) else (if (f_X3_addWaiting M x1 x2 x3 x4) = 0 then Int32.ofInt (-4) else ((g_X3_addWaiting M x1 x2 x3 x4) 3 8) - (Int32.ofInt 1)))))
def g_X9_call (M : Mem) (x1 : Int32) (x2 : Int32) (x3 : Int32) (x4 : Int32) : Mem := (if (f_X9_twoRooms M x1 x2) = 0 then M else (if (f_X9_within M x3 (Int32.ofInt 1) (Int32.ofInt 9)) = 0 then M else (if (f_X9_within M x4 (Int32.ofInt 1) (Int32.ofInt 60)) = 0 then M else (if (f_X3_addWaiting M x1 x2 x3 x4) = 0 then (g_X3_addWaiting M x1 x2 x3 x4) else (g_X3_addWaiting M x1 x2 x3 x4)))))
theorem s_X9_call {E : VE} {d : Nat} {Q : QQ} {L : LMem} (M : Mem) (x1 : Int32) (x2 : Int32) (x3 : Int32) (x4 : Int32) (o_1 : ¬ ((f_X9_twoRooms M x1 x2) = 0) → ¬ ((f_X9_within M x3 (Int32.ofInt 1) (Int32.ofInt 9)) = 0) → ¬ ((f_X9_within M x4 (Int32.ofInt 1) (Int32.ofInt 60)) = 0) → ((M 3 8) < (Int32.ofInt 5) → vp_in (M 3 8) 5)) (hQ : Q (some (.int (f_X9_call M x1 x2 x3 x4))) (g_X9_call M x1 x2 x3 x4) L) : Wp E (d + 3) 72 0 [.ref 0, .int x1, .int x2, .int x3, .int x4] [] M L Q := by
  refine wp_seg (pc' := 2) [.iload 1, .iload 2] (by decide +kernel) (?_ : Wp E (d + 3) 72 2 [.ref 0, .int x1, .int x2, .int x3, .int x4] [.int x2, .int x1] M L Q)
  refine wp_callS 85 [.int x1, .int x2] (i := 136) (by decide +kernel) (by decide +kernel) (by decide +kernel) rfl rfl rfl (rest := []) rfl rfl ?_
  refine s_X9_twoRooms M x1 x2  ?_
  show Wp E (d + 3) 72 5 [.ref 0, .int x1, .int x2, .int x3, .int x4] [.int (f_X9_twoRooms M x1 x2)] M L Q
  refine wp_ifne (off := 5) 10 (by decide +kernel) (by decide) (fun c_1 => ?_) (fun c_1 => ?_)
  · refine wp_seg (pc' := 14) [.iload 3, .iconst 1, .iconst 9] (by decide +kernel) (?_ : Wp E (d + 3) 72 14 [.ref 0, .int x1, .int x2, .int x3, .int x4] [.int (Int32.ofInt 9), .int (Int32.ofInt 1), .int x3] M L Q)
    refine wp_callS 83 [.int x3, .int (Int32.ofInt 1), .int (Int32.ofInt 9)] (i := 126) (by decide +kernel) (by decide +kernel) (by decide +kernel) rfl rfl rfl (rest := []) rfl rfl ?_
    refine s_X9_within M x3 (Int32.ofInt 1) (Int32.ofInt 9)  ?_
    show Wp E (d + 3) 72 17 [.ref 0, .int x1, .int x2, .int x3, .int x4] [.int (f_X9_within M x3 (Int32.ofInt 1) (Int32.ofInt 9))] M L Q
    refine wp_ifeq (off := 14) 31 (by decide +kernel) (by decide) (fun c_2 => ?_) (fun c_2 => ?_)
    · refine wp_seg (pc' := 33) [.iconst (-2)] (by decide +kernel) (?_ : Wp E (d + 3) 72 33 [.ref 0, .int x1, .int x2, .int x3, .int x4] [.int (Int32.ofInt (-2))] M L Q)
      exact wp_iret (by decide +kernel) rfl (by rw [f_X9_call, if_neg c_1, if_pos c_2, g_X9_call, if_neg c_1, if_pos c_2] at hQ; exact hQ)
    · refine wp_seg (pc' := 25) [.iload 4, .iconst 1, .iconst 60] (by decide +kernel) (?_ : Wp E (d + 3) 72 25 [.ref 0, .int x1, .int x2, .int x3, .int x4] [.int (Int32.ofInt 60), .int (Int32.ofInt 1), .int x4] M L Q)
      refine wp_callS 83 [.int x4, .int (Int32.ofInt 1), .int (Int32.ofInt 60)] (i := 126) (by decide +kernel) (by decide +kernel) (by decide +kernel) rfl rfl rfl (rest := []) rfl rfl ?_
      refine s_X9_within M x4 (Int32.ofInt 1) (Int32.ofInt 60)  ?_
      show Wp E (d + 3) 72 28 [.ref 0, .int x1, .int x2, .int x3, .int x4] [.int (f_X9_within M x4 (Int32.ofInt 1) (Int32.ofInt 60))] M L Q
      refine wp_ifne (off := 6) 34 (by decide +kernel) (by decide) (fun c_3 => ?_) (fun c_3 => ?_)
      · refine wp_seg (pc' := 43) [.aload 0, .getfield 577, .iload 1, .iload 2, .iload 3, .iload 4] (by decide +kernel) (?_ : Wp E (d + 3) 72 43 [.ref 0, .int x1, .int x2, .int x3, .int x4] [.int x4, .int x3, .int x2, .int x1, .ref 3] M L Q)
        refine wp_callV 16 3 [.int x1, .int x2, .int x3, .int x4] (i := 186) (by decide +kernel) (by decide +kernel) (by decide +kernel) (by decide +kernel) rfl rfl rfl (rest := []) rfl rfl ?_
        refine s_X3_addWaiting M x1 x2 x3 x4 (o_1 c_1 c_2 c_3) ?_
        show Wp E (d + 3) 72 46 [.ref 0, .int x1, .int x2, .int x3, .int x4] [.int (f_X3_addWaiting M x1 x2 x3 x4)] (g_X3_addWaiting M x1 x2 x3 x4) L Q
        refine wp_ifeq (off := 15) 61 (by decide +kernel) (by decide) (fun c_4 => ?_) (fun c_4 => ?_)
        · refine wp_seg (pc' := 63) [.iconst (-4)] (by decide +kernel) (?_ : Wp E (d + 3) 72 63 [.ref 0, .int x1, .int x2, .int x3, .int x4] [.int (Int32.ofInt (-4))] (g_X3_addWaiting M x1 x2 x3 x4) L Q)
          exact wp_iret (by decide +kernel) rfl (by rw [f_X9_call, if_neg c_1, if_neg c_2, if_neg c_3, if_pos c_4, g_X9_call, if_neg c_1, if_neg c_2, if_neg c_3, if_pos c_4] at hQ; exact hQ)
        · refine wp_seg (pc' := 63) [.aload 0, .getfield 577, .getfield 200, .iconst 1, .isub, .goto 0] (by decide +kernel) (?_ : Wp E (d + 3) 72 63 [.ref 0, .int x1, .int x2, .int x3, .int x4] [.int (((g_X3_addWaiting M x1 x2 x3 x4) 3 8) - (Int32.ofInt 1))] (g_X3_addWaiting M x1 x2 x3 x4) L Q)
          exact wp_iret (by decide +kernel) rfl (by rw [f_X9_call, if_neg c_1, if_neg c_2, if_neg c_3, if_neg c_4, g_X9_call, if_neg c_1, if_neg c_2, if_neg c_3, if_neg c_4] at hQ; exact hQ)
      · refine wp_seg (pc' := 33) [.iconst (-2)] (by decide +kernel) (?_ : Wp E (d + 3) 72 33 [.ref 0, .int x1, .int x2, .int x3, .int x4] [.int (Int32.ofInt (-2))] M L Q)
        exact wp_iret (by decide +kernel) rfl (by rw [f_X9_call, if_neg c_1, if_neg c_2, if_pos c_3, g_X9_call, if_neg c_1, if_neg c_2, if_pos c_3] at hQ; exact hQ)
  · refine wp_seg (pc' := 9) [.iconst (-1)] (by decide +kernel) (?_ : Wp E (d + 3) 72 9 [.ref 0, .int x1, .int x2, .int x3, .int x4] [.int (Int32.ofInt (-1))] M L Q)
    exact wp_iret (by decide +kernel) rfl (by rw [f_X9_call, if_pos c_1, g_X9_call, if_pos c_1] at hQ; exact hQ)

def f_X9_clear (M : Mem) : Int32 := M 3 8
def g_X9_clear (M : Mem) : Mem := (mput M 3 8 (Int32.ofInt 0))
theorem s_X9_clear {E : VE} {d : Nat} {Q : QQ} {L : LMem} (M : Mem) (hQ : Q (some (.int (f_X9_clear M))) (g_X9_clear M) L) : Wp E d 73 0 [.ref 0, .null] [] M L Q := by
  refine wp_seg (pc' := 17) [.aload 0, .getfield 577, .getfield 200, .istore 1, .aload 0, .getfield 577, .iconst 0, .putfield 200, .iload 1] (by decide +kernel) (?_ : Wp E d 73 17 [.ref 0, .int (M 3 8)] [.int (M 3 8)] (mput M 3 8 (Int32.ofInt 0)) L Q)
  exact wp_iret (by decide +kernel) rfl hQ
end
section
def PL_X2_ofKind_4 (K : Int32 → Mem → LMem → Prop)  : Nat → Int32 → Int32 → Int32 → Mem → LMem → Prop
  | 0, _, _, _, _, _ => False
  | n_ + 1, v1, v2, v3, M, L => (((M 4 4) ≤ v3 → K v2 M L) ∧ (¬ ((M 4 4) ≤ v3) → (vp_in v3 12 ∧ (((M 7 v3.toNatClampNeg) = v1 → PL_X2_ofKind_4 K n_ v1 (v2 ||| ((Int32.ofInt 1) <<< (v3 &&& 31))) (v3 + Int32.ofInt 1) M L) ∧ (¬ ((M 7 v3.toNatClampNeg) = v1) → PL_X2_ofKind_4 K n_ v1 v2 (v3 + Int32.ofInt 1) M L)))))
theorem tl_X2_ofKind_4 {E : VE} {d : Nat} {Q : QQ} {K : Int32 → Mem → LMem → Prop}  (hK : ∀ (v : Int32) (M : Mem) (L : LMem), K v M L → Q (some (.int v)) M L)  : ∀ (n_ : Nat) (v1 : Int32) (v2 : Int32) (v3 : Int32) (M : Mem) (L : LMem), PL_X2_ofKind_4 K n_ v1 v2 v3 M L → Wp E d 14 4 [.ref 4, .int v1, .int v2, .int v3] [] M L Q := by
  intro n_
  induction n_ with
  | zero => intro v1 v2 v3 M L hP; exact False.elim hP
  | succ n_ ih =>
    intro v1 v2 v3 M L hP
    unfold PL_X2_ofKind_4 at hP
    refine wp_seg (pc' := 9) [.iload 3, .aload 0, .getfield 132] (by decide +kernel) (?_ : Wp E d 14 9 [.ref 4, .int v1, .int v2, .int v3] [.int (M 4 4), .int v3] M L Q)
    refine wp_icmpge (off := 25) 34 (by decide +kernel) (by decide) (fun c_1 => ?_) (fun c_1 => ?_)
    · have hP := hP.1 c_1
      refine wp_seg (pc' := 35) [.iload 2] (by decide +kernel) (?_ : Wp E d 14 35 [.ref 4, .int v1, .int v2, .int v3] [.int v2] M L Q)
      exact wp_iret (by decide +kernel) rfl (hK _ _ _ hP)
    · have hP := hP.2 c_1
      obtain ⟨a_2, hP⟩ := hP
      refine wp_seg (pc' := 18) [.aload 0, .getfield 130, .iload 3, .iaload] (by decide +kernel) (show aok 7 0 v3 ∧ Wp E d 14 18 [.ref 4, .int v1, .int v2, .int v3] [.int (M 7 v3.toNatClampNeg)] M L Q from ⟨⟨rfl, a_2⟩, ?_⟩)
      refine wp_seg (pc' := 19) [.iload 1] (by decide +kernel) (?_ : Wp E d 14 19 [.ref 4, .int v1, .int v2, .int v3] [.int v1, .int (M 7 v3.toNatClampNeg)] M L Q)
      refine wp_icmpne (off := 9) 28 (by decide +kernel) (by decide) (fun c_3 => ?_) (fun c_3 => ?_)
      · have hP := hP.2 c_3
        refine wp_seg (pc' := 4) [.iinc 3 1, .goto 0] (by decide +kernel) (?_ : Wp E d 14 4 [.ref 4, .int v1, .int v2, .int (v3 + Int32.ofInt 1)] [] M L Q)
        exact ih v1 v2 (v3 + Int32.ofInt 1) M L hP
      · have hP := hP.1 c_3
        refine wp_seg (pc' := 4) [.iload 2, .iconst 1, .iload 3, .ishl, .ior, .istore 2, .iinc 3 1, .goto 0] (by decide +kernel) (?_ : Wp E d 14 4 [.ref 4, .int v1, .int (v2 ||| ((Int32.ofInt 1) <<< (v3 &&& 31))), .int (v3 + Int32.ofInt 1)] [] M L Q)
        exact ih v1 (v2 ||| ((Int32.ofInt 1) <<< (v3 &&& 31))) (v3 + Int32.ofInt 1) M L hP
def P_X2_ofKind (x1 : Int32) (M : Mem) (L : LMem) (K : Int32 → Mem → LMem → Prop) : Prop := PL_X2_ofKind_4 K 100000 x1 (Int32.ofInt 0) (Int32.ofInt 0) M L
theorem t_X2_ofKind {E : VE} {d : Nat} {Q : QQ} {K : Int32 → Mem → LMem → Prop} {x1 : Int32} {M : Mem} {L : LMem} (hP : P_X2_ofKind x1 M L K) (hK : ∀ (v : Int32) (M : Mem) (L : LMem), K v M L → Q (some (.int v)) M L) : Wp E d 14 0 [.ref 4, .int x1, .null, .null] [] M L Q := by
  unfold P_X2_ofKind at hP
  refine wp_seg (pc' := 4) [.iconst 0, .istore 2, .iconst 0, .istore 3] (by decide +kernel) (?_ : Wp E d 14 4 [.ref 4, .int x1, .int (Int32.ofInt 0), .int (Int32.ofInt 0)] [] M L Q)
  exact tl_X2_ofKind_4 hK 100000 x1 (Int32.ofInt 0) (Int32.ofInt 0) M L hP

def PL_X5_houseFault_4 (K : Int32 → Mem → LMem → Prop)  : Nat → Int32 → Int32 → Mem → LMem → Prop
  | 0, _, _, _, _ => False
  | n_ + 1, v1, v2, M, L => (((Int32.ofInt 12) ≤ v2 → (((M 1 1) ≤ v1 → K (Int32.ofInt (-6)) M L) ∧ (¬ ((M 1 1) ≤ v1) → K v1 M L))) ∧ (¬ ((Int32.ofInt 12) ≤ v2) → (((M 1 1) ≤ v1 → K (Int32.ofInt (-6)) M L) ∧ (¬ ((M 1 1) ≤ v1) → (((f_X5_roomAt M v1) = 0 → K v1 M L) ∧ (¬ ((f_X5_roomAt M v1) = 0) → (((f_X5_kindAt M (v1 + (Int32.ofInt 1))) = 0 → K (v1 + (Int32.ofInt 1)) M L) ∧ (¬ ((f_X5_kindAt M (v1 + (Int32.ofInt 1))) = 0) → (((f_X5_otherRoomAt M (v1 + (Int32.ofInt 2)) v1) = 0 → K (v1 + (Int32.ofInt 2)) M L) ∧ (¬ ((f_X5_otherRoomAt M (v1 + (Int32.ofInt 2)) v1) = 0) → (((f_X5_digitAt M (v1 + (Int32.ofInt 3))) = 0 → K (v1 + (Int32.ofInt 3)) M L) ∧ (¬ ((f_X5_digitAt M (v1 + (Int32.ofInt 3))) = 0) → PL_X5_houseFault_4 K n_ (v1 + Int32.ofInt 4) (v2 + Int32.ofInt 1) M L))))))))))))
theorem tl_X5_houseFault_4 {E : VE} {d : Nat} {Q : QQ} {K : Int32 → Mem → LMem → Prop}  (hK : ∀ (v : Int32) (M : Mem) (L : LMem), K v M L → Q (some (.int v)) M L)  : ∀ (n_ : Nat) (v1 : Int32) (v2 : Int32) (M : Mem) (L : LMem), PL_X5_houseFault_4 K n_ v1 v2 M L → Wp E (d + 3) 36 4 [.ref 1, .int v1, .int v2] [] M L Q := by
  intro n_
  induction n_ with
  | zero => intro v1 v2 M L hP; exact False.elim hP
  | succ n_ ih =>
    intro v1 v2 M L hP
    unfold PL_X5_houseFault_4 at hP
    refine wp_seg (pc' := 7) [.iload 2, .iconst 12] (by decide +kernel) (?_ : Wp E (d + 3) 36 7 [.ref 1, .int v1, .int v2] [.int (Int32.ofInt 12), .int v2] M L Q)
    refine wp_icmpge (off := 73) 80 (by decide +kernel) (by decide) (fun c_1 => ?_) (fun c_1 => ?_)
    · have hP := hP.1 c_1
      refine wp_seg (pc' := 85) [.iload 1, .aload 0, .getfield 321] (by decide +kernel) (?_ : Wp E (d + 3) 36 85 [.ref 1, .int v1, .int v2] [.int (M 1 1), .int v1] M L Q)
      refine wp_icmpge (off := 7) 92 (by decide +kernel) (by decide) (fun c_2 => ?_) (fun c_2 => ?_)
      · have hP := hP.1 c_2
        refine wp_seg (pc' := 94) [.iconst (-6)] (by decide +kernel) (?_ : Wp E (d + 3) 36 94 [.ref 1, .int v1, .int v2] [.int (Int32.ofInt (-6))] M L Q)
        exact wp_iret (by decide +kernel) rfl (hK _ _ _ hP)
      · have hP := hP.2 c_2
        refine wp_seg (pc' := 94) [.iload 1, .goto 0] (by decide +kernel) (?_ : Wp E (d + 3) 36 94 [.ref 1, .int v1, .int v2] [.int v1] M L Q)
        exact wp_iret (by decide +kernel) rfl (hK _ _ _ hP)
    · have hP := hP.2 c_1
      refine wp_seg (pc' := 15) [.iload 1, .aload 0, .getfield 321] (by decide +kernel) (?_ : Wp E (d + 3) 36 15 [.ref 1, .int v1, .int v2] [.int (M 1 1), .int v1] M L Q)
      refine wp_icmpge (off := 65) 80 (by decide +kernel) (by decide) (fun c_3 => ?_) (fun c_3 => ?_)
      · have hP := hP.1 c_3
        refine wp_seg (pc' := 85) [.iload 1, .aload 0, .getfield 321] (by decide +kernel) (?_ : Wp E (d + 3) 36 85 [.ref 1, .int v1, .int v2] [.int (M 1 1), .int v1] M L Q)
        refine wp_icmpge (off := 7) 92 (by decide +kernel) (by decide) (fun c_4 => ?_) (fun c_4 => ?_)
        · skip
          refine wp_seg (pc' := 94) [.iconst (-6)] (by decide +kernel) (?_ : Wp E (d + 3) 36 94 [.ref 1, .int v1, .int v2] [.int (Int32.ofInt (-6))] M L Q)
          exact wp_iret (by decide +kernel) rfl (hK _ _ _ hP)
        · exact absurd c_3 c_4
      · have hP := hP.2 c_3
        refine wp_seg (pc' := 20) [.aload 0, .iload 1] (by decide +kernel) (?_ : Wp E (d + 3) 36 20 [.ref 1, .int v1, .int v2] [.int v1, .ref 1] M L Q)
        refine wp_callV 30 1 [.int v1] (i := 27) (by decide +kernel) (by decide +kernel) (by decide +kernel) (by decide +kernel) rfl rfl rfl (rest := []) rfl rfl ?_
        refine s_X5_roomAt M v1  ?_
        show Wp E (d + 3) 36 23 [.ref 1, .int v1, .int v2] [.int (f_X5_roomAt M v1)] M L Q
        refine wp_ifne (off := 5) 28 (by decide +kernel) (by decide) (fun c_5 => ?_) (fun c_5 => ?_)
        · have hP := hP.2 c_5
          refine wp_seg (pc' := 32) [.aload 0, .iload 1, .iconst 1, .iadd] (by decide +kernel) (?_ : Wp E (d + 3) 36 32 [.ref 1, .int v1, .int v2] [.int (v1 + (Int32.ofInt 1)), .ref 1] M L Q)
          refine wp_callV 33 1 [.int (v1 + (Int32.ofInt 1))] (i := 31) (by decide +kernel) (by decide +kernel) (by decide +kernel) (by decide +kernel) rfl rfl rfl (rest := []) rfl rfl ?_
          refine s_X5_kindAt M (v1 + (Int32.ofInt 1))  ?_
          show Wp E (d + 3) 36 35 [.ref 1, .int v1, .int v2] [.int (f_X5_kindAt M (v1 + (Int32.ofInt 1)))] M L Q
          refine wp_ifne (off := 7) 42 (by decide +kernel) (by decide) (fun c_6 => ?_) (fun c_6 => ?_)
          · have hP := hP.2 c_6
            refine wp_seg (pc' := 47) [.aload 0, .iload 1, .iconst 2, .iadd, .iload 1] (by decide +kernel) (?_ : Wp E (d + 3) 36 47 [.ref 1, .int v1, .int v2] [.int v1, .int (v1 + (Int32.ofInt 2)), .ref 1] M L Q)
            refine wp_callV 31 1 [.int (v1 + (Int32.ofInt 2)), .int v1] (i := 34) (by decide +kernel) (by decide +kernel) (by decide +kernel) (by decide +kernel) rfl rfl rfl (rest := []) rfl rfl ?_
            refine s_X5_otherRoomAt M (v1 + (Int32.ofInt 2)) v1  ?_
            show Wp E (d + 3) 36 50 [.ref 1, .int v1, .int v2] [.int (f_X5_otherRoomAt M (v1 + (Int32.ofInt 2)) v1)] M L Q
            refine wp_ifne (off := 7) 57 (by decide +kernel) (by decide) (fun c_7 => ?_) (fun c_7 => ?_)
            · have hP := hP.2 c_7
              refine wp_seg (pc' := 61) [.aload 0, .iload 1, .iconst 3, .iadd] (by decide +kernel) (?_ : Wp E (d + 3) 36 61 [.ref 1, .int v1, .int v2] [.int (v1 + (Int32.ofInt 3)), .ref 1] M L Q)
              refine wp_callV 32 1 [.int (v1 + (Int32.ofInt 3))] (i := 38) (by decide +kernel) (by decide +kernel) (by decide +kernel) (by decide +kernel) rfl rfl rfl (rest := []) rfl rfl ?_
              refine s_X5_digitAt M (v1 + (Int32.ofInt 3))  ?_
              show Wp E (d + 3) 36 64 [.ref 1, .int v1, .int v2] [.int (f_X5_digitAt M (v1 + (Int32.ofInt 3)))] M L Q
              refine wp_ifne (off := 7) 71 (by decide +kernel) (by decide) (fun c_8 => ?_) (fun c_8 => ?_)
              · have hP := hP.2 c_8
                refine wp_seg (pc' := 4) [.iinc 1 4, .iinc 2 1, .goto 0] (by decide +kernel) (?_ : Wp E (d + 3) 36 4 [.ref 1, .int (v1 + Int32.ofInt 4), .int (v2 + Int32.ofInt 1)] [] M L Q)
                exact ih (v1 + Int32.ofInt 4) (v2 + Int32.ofInt 1) M L hP
              · have hP := hP.1 c_8
                refine wp_seg (pc' := 70) [.iload 1, .iconst 3, .iadd] (by decide +kernel) (?_ : Wp E (d + 3) 36 70 [.ref 1, .int v1, .int v2] [.int (v1 + (Int32.ofInt 3))] M L Q)
                exact wp_iret (by decide +kernel) rfl (hK _ _ _ hP)
            · have hP := hP.1 c_7
              refine wp_seg (pc' := 56) [.iload 1, .iconst 2, .iadd] (by decide +kernel) (?_ : Wp E (d + 3) 36 56 [.ref 1, .int v1, .int v2] [.int (v1 + (Int32.ofInt 2))] M L Q)
              exact wp_iret (by decide +kernel) rfl (hK _ _ _ hP)
          · have hP := hP.1 c_6
            refine wp_seg (pc' := 41) [.iload 1, .iconst 1, .iadd] (by decide +kernel) (?_ : Wp E (d + 3) 36 41 [.ref 1, .int v1, .int v2] [.int (v1 + (Int32.ofInt 1))] M L Q)
            exact wp_iret (by decide +kernel) rfl (hK _ _ _ hP)
        · have hP := hP.1 c_5
          refine wp_seg (pc' := 27) [.iload 1] (by decide +kernel) (?_ : Wp E (d + 3) 36 27 [.ref 1, .int v1, .int v2] [.int v1] M L Q)
          exact wp_iret (by decide +kernel) rfl (hK _ _ _ hP)
def P_X5_houseFault (M : Mem) (L : LMem) (K : Int32 → Mem → LMem → Prop) : Prop := PL_X5_houseFault_4 K 100000 (Int32.ofInt 0) (Int32.ofInt 0) M L
theorem t_X5_houseFault {E : VE} {d : Nat} {Q : QQ} {K : Int32 → Mem → LMem → Prop} {M : Mem} {L : LMem} (hP : P_X5_houseFault M L K) (hK : ∀ (v : Int32) (M : Mem) (L : LMem), K v M L → Q (some (.int v)) M L) : Wp E (d + 3) 36 0 [.ref 1, .null, .null] [] M L Q := by
  unfold P_X5_houseFault at hP
  refine wp_seg (pc' := 4) [.iconst 0, .istore 1, .iconst 0, .istore 2] (by decide +kernel) (?_ : Wp E (d + 3) 36 4 [.ref 1, .int (Int32.ofInt 0), .int (Int32.ofInt 0)] [] M L Q)
  exact tl_X5_houseFault_4 hK 100000 (Int32.ofInt 0) (Int32.ofInt 0) M L hP

def PL_X5_dayFault_4 (K : Int32 → Mem → LMem → Prop)  : Nat → Int32 → Int32 → Mem → LMem → Prop
  | 0, _, _, _, _ => False
  | n_ + 1, v1, v2, M, L => (((Int32.ofInt 20) ≤ v2 → (((M 1 1) ≤ v1 → K (Int32.ofInt (-6)) M L) ∧ (¬ ((M 1 1) ≤ v1) → K v1 M L))) ∧ (¬ ((Int32.ofInt 20) ≤ v2) → (((M 1 1) ≤ v1 → K (Int32.ofInt (-6)) M L) ∧ (¬ ((M 1 1) ≤ v1) → (((f_X5_signAt M v1) = (Int32.ofInt 46) → (((f_X5_digitAt M (v1 + (Int32.ofInt 1))) = 0 → K (v1 + (Int32.ofInt 1)) M L) ∧ (¬ ((f_X5_digitAt M (v1 + (Int32.ofInt 1))) = 0) → PL_X5_dayFault_4 K n_ ((v1 + (Int32.ofInt 1)) + (Int32.ofInt 1)) (v2 + Int32.ofInt 1) M L))) ∧ (¬ ((f_X5_signAt M v1) = (Int32.ofInt 46)) → (((f_X5_roomAt M v1) = 0 → K v1 M L) ∧ (¬ ((f_X5_roomAt M v1) = 0) → (((f_X5_otherRoomAt M (v1 + (Int32.ofInt 1)) v1) = 0 → K (v1 + (Int32.ofInt 1)) M L) ∧ (¬ ((f_X5_otherRoomAt M (v1 + (Int32.ofInt 1)) v1) = 0) → (((f_X5_digitAt M (v1 + (Int32.ofInt 2))) = 0 → K (v1 + (Int32.ofInt 2)) M L) ∧ (¬ ((f_X5_digitAt M (v1 + (Int32.ofInt 2))) = 0) → PL_X5_dayFault_4 K n_ ((v1 + (Int32.ofInt 2)) + (Int32.ofInt 1)) (v2 + Int32.ofInt 1) M L))))))))))))
theorem tl_X5_dayFault_4 {E : VE} {d : Nat} {Q : QQ} {K : Int32 → Mem → LMem → Prop}  (hK : ∀ (v : Int32) (M : Mem) (L : LMem), K v M L → Q (some (.int v)) M L)  : ∀ (n_ : Nat) (v1 : Int32) (v2 : Int32) (M : Mem) (L : LMem), PL_X5_dayFault_4 K n_ v1 v2 M L → Wp E (d + 3) 37 4 [.ref 1, .int v1, .int v2, .null] [] M L Q := by
  intro n_
  induction n_ with
  | zero => intro v1 v2 M L hP; exact False.elim hP
  | succ n_ ih =>
    intro v1 v2 M L hP
    unfold PL_X5_dayFault_4 at hP
    refine wp_seg (pc' := 7) [.iload 2, .iconst 20] (by decide +kernel) (?_ : Wp E (d + 3) 37 7 [.ref 1, .int v1, .int v2, .null] [.int (Int32.ofInt 20), .int v2] M L Q)
    refine wp_icmpge (off := 74) 81 (by decide +kernel) (by decide) (fun c_1 => ?_) (fun c_1 => ?_)
    · have hP := hP.1 c_1
      refine wp_seg (pc' := 86) [.iload 1, .aload 0, .getfield 321] (by decide +kernel) (?_ : Wp E (d + 3) 37 86 [.ref 1, .int v1, .int v2, .null] [.int (M 1 1), .int v1] M L Q)
      refine wp_icmpge (off := 7) 93 (by decide +kernel) (by decide) (fun c_2 => ?_) (fun c_2 => ?_)
      · have hP := hP.1 c_2
        refine wp_seg (pc' := 95) [.iconst (-6)] (by decide +kernel) (?_ : Wp E (d + 3) 37 95 [.ref 1, .int v1, .int v2, .null] [.int (Int32.ofInt (-6))] M L Q)
        exact wp_iret (by decide +kernel) rfl (hK _ _ _ hP)
      · have hP := hP.2 c_2
        refine wp_seg (pc' := 95) [.iload 1, .goto 0] (by decide +kernel) (?_ : Wp E (d + 3) 37 95 [.ref 1, .int v1, .int v2, .null] [.int v1] M L Q)
        exact wp_iret (by decide +kernel) rfl (hK _ _ _ hP)
    · have hP := hP.2 c_1
      refine wp_seg (pc' := 15) [.iload 1, .aload 0, .getfield 321] (by decide +kernel) (?_ : Wp E (d + 3) 37 15 [.ref 1, .int v1, .int v2, .null] [.int (M 1 1), .int v1] M L Q)
      refine wp_icmpge (off := 66) 81 (by decide +kernel) (by decide) (fun c_3 => ?_) (fun c_3 => ?_)
      · have hP := hP.1 c_3
        refine wp_seg (pc' := 86) [.iload 1, .aload 0, .getfield 321] (by decide +kernel) (?_ : Wp E (d + 3) 37 86 [.ref 1, .int v1, .int v2, .null] [.int (M 1 1), .int v1] M L Q)
        refine wp_icmpge (off := 7) 93 (by decide +kernel) (by decide) (fun c_4 => ?_) (fun c_4 => ?_)
        · skip
          refine wp_seg (pc' := 95) [.iconst (-6)] (by decide +kernel) (?_ : Wp E (d + 3) 37 95 [.ref 1, .int v1, .int v2, .null] [.int (Int32.ofInt (-6))] M L Q)
          exact wp_iret (by decide +kernel) rfl (hK _ _ _ hP)
        · exact absurd c_3 c_4
      · have hP := hP.2 c_3
        refine wp_seg (pc' := 24) [.iload 1, .iconst 1, .iadd, .istore 3, .aload 0, .iload 1] (by decide +kernel) (?_ : Wp E (d + 3) 37 24 [.ref 1, .int v1, .int v2, .int (v1 + (Int32.ofInt 1))] [.int v1, .ref 1] M L Q)
        refine wp_callV 29 1 [.int v1] (i := 19) (by decide +kernel) (by decide +kernel) (by decide +kernel) (by decide +kernel) rfl rfl rfl (rest := []) rfl rfl ?_
        refine s_X5_signAt M v1  ?_
        show Wp E (d + 3) 37 27 [.ref 1, .int v1, .int v2, .int (v1 + (Int32.ofInt 1))] [.int (f_X5_signAt M v1)] M L Q
        refine wp_seg (pc' := 29) [.iconst 46] (by decide +kernel) (?_ : Wp E (d + 3) 37 29 [.ref 1, .int v1, .int v2, .int (v1 + (Int32.ofInt 1))] [.int (Int32.ofInt 46), .int (f_X5_signAt M v1)] M L Q)
        refine wp_icmpeq (off := 32) 61 (by decide +kernel) (by decide) (fun c_5 => ?_) (fun c_5 => ?_)
        · have hP := hP.1 c_5
          refine wp_seg (pc' := 63) [.aload 0, .iload 3] (by decide +kernel) (?_ : Wp E (d + 3) 37 63 [.ref 1, .int v1, .int v2, .int (v1 + (Int32.ofInt 1))] [.int (v1 + (Int32.ofInt 1)), .ref 1] M L Q)
          refine wp_callV 32 1 [.int (v1 + (Int32.ofInt 1))] (i := 38) (by decide +kernel) (by decide +kernel) (by decide +kernel) (by decide +kernel) rfl rfl rfl (rest := []) rfl rfl ?_
          refine s_X5_digitAt M (v1 + (Int32.ofInt 1))  ?_
          show Wp E (d + 3) 37 66 [.ref 1, .int v1, .int v2, .int (v1 + (Int32.ofInt 1))] [.int (f_X5_digitAt M (v1 + (Int32.ofInt 1)))] M L Q
          refine wp_ifne (off := 5) 71 (by decide +kernel) (by decide) (fun c_6 => ?_) (fun c_6 => ?_)
          · have hP := hP.2 c_6
            refine wp_seg (pc' := 4) [.iload 3, .iconst 1, .iadd, .istore 1, .iinc 2 1, .goto 0] (by decide +kernel) (?_ : Wp E (d + 3) 37 4 [.ref 1, .int ((v1 + (Int32.ofInt 1)) + (Int32.ofInt 1)), .int (v2 + Int32.ofInt 1), .int (v1 + (Int32.ofInt 1))] [] M L Q)
            refine wp_drop (lo := [.ref 1, .int ((v1 + (Int32.ofInt 1)) + (Int32.ofInt 1)), .int (v2 + Int32.ofInt 1), .null]) ⟨Or.inr rfl, Or.inr rfl, Or.inr rfl, Or.inl rfl, trivial⟩ ?_
            exact ih ((v1 + (Int32.ofInt 1)) + (Int32.ofInt 1)) (v2 + Int32.ofInt 1) M L hP
          · have hP := hP.1 c_6
            refine wp_seg (pc' := 70) [.iload 3] (by decide +kernel) (?_ : Wp E (d + 3) 37 70 [.ref 1, .int v1, .int v2, .int (v1 + (Int32.ofInt 1))] [.int (v1 + (Int32.ofInt 1))] M L Q)
            exact wp_iret (by decide +kernel) rfl (hK _ _ _ hP)
        · have hP := hP.2 c_5
          refine wp_seg (pc' := 34) [.aload 0, .iload 1] (by decide +kernel) (?_ : Wp E (d + 3) 37 34 [.ref 1, .int v1, .int v2, .int (v1 + (Int32.ofInt 1))] [.int v1, .ref 1] M L Q)
          refine wp_callV 30 1 [.int v1] (i := 27) (by decide +kernel) (by decide +kernel) (by decide +kernel) (by decide +kernel) rfl rfl rfl (rest := []) rfl rfl ?_
          refine s_X5_roomAt M v1  ?_
          show Wp E (d + 3) 37 37 [.ref 1, .int v1, .int v2, .int (v1 + (Int32.ofInt 1))] [.int (f_X5_roomAt M v1)] M L Q
          refine wp_ifne (off := 5) 42 (by decide +kernel) (by decide) (fun c_7 => ?_) (fun c_7 => ?_)
          · have hP := hP.2 c_7
            refine wp_seg (pc' := 47) [.aload 0, .iload 1, .iconst 1, .iadd, .iload 1] (by decide +kernel) (?_ : Wp E (d + 3) 37 47 [.ref 1, .int v1, .int v2, .int (v1 + (Int32.ofInt 1))] [.int v1, .int (v1 + (Int32.ofInt 1)), .ref 1] M L Q)
            refine wp_callV 31 1 [.int (v1 + (Int32.ofInt 1)), .int v1] (i := 34) (by decide +kernel) (by decide +kernel) (by decide +kernel) (by decide +kernel) rfl rfl rfl (rest := []) rfl rfl ?_
            refine s_X5_otherRoomAt M (v1 + (Int32.ofInt 1)) v1  ?_
            show Wp E (d + 3) 37 50 [.ref 1, .int v1, .int v2, .int (v1 + (Int32.ofInt 1))] [.int (f_X5_otherRoomAt M (v1 + (Int32.ofInt 1)) v1)] M L Q
            refine wp_ifne (off := 7) 57 (by decide +kernel) (by decide) (fun c_8 => ?_) (fun c_8 => ?_)
            · have hP := hP.2 c_8
              refine wp_seg (pc' := 63) [.iload 1, .iconst 2, .iadd, .istore 3, .aload 0, .iload 3] (by decide +kernel) (?_ : Wp E (d + 3) 37 63 [.ref 1, .int v1, .int v2, .int (v1 + (Int32.ofInt 2))] [.int (v1 + (Int32.ofInt 2)), .ref 1] M L Q)
              refine wp_callV 32 1 [.int (v1 + (Int32.ofInt 2))] (i := 38) (by decide +kernel) (by decide +kernel) (by decide +kernel) (by decide +kernel) rfl rfl rfl (rest := []) rfl rfl ?_
              refine s_X5_digitAt M (v1 + (Int32.ofInt 2))  ?_
              show Wp E (d + 3) 37 66 [.ref 1, .int v1, .int v2, .int (v1 + (Int32.ofInt 2))] [.int (f_X5_digitAt M (v1 + (Int32.ofInt 2)))] M L Q
              refine wp_ifne (off := 5) 71 (by decide +kernel) (by decide) (fun c_9 => ?_) (fun c_9 => ?_)
              · have hP := hP.2 c_9
                refine wp_seg (pc' := 4) [.iload 3, .iconst 1, .iadd, .istore 1, .iinc 2 1, .goto 0] (by decide +kernel) (?_ : Wp E (d + 3) 37 4 [.ref 1, .int ((v1 + (Int32.ofInt 2)) + (Int32.ofInt 1)), .int (v2 + Int32.ofInt 1), .int (v1 + (Int32.ofInt 2))] [] M L Q)
                refine wp_drop (lo := [.ref 1, .int ((v1 + (Int32.ofInt 2)) + (Int32.ofInt 1)), .int (v2 + Int32.ofInt 1), .null]) ⟨Or.inr rfl, Or.inr rfl, Or.inr rfl, Or.inl rfl, trivial⟩ ?_
                exact ih ((v1 + (Int32.ofInt 2)) + (Int32.ofInt 1)) (v2 + Int32.ofInt 1) M L hP
              · have hP := hP.1 c_9
                refine wp_seg (pc' := 70) [.iload 3] (by decide +kernel) (?_ : Wp E (d + 3) 37 70 [.ref 1, .int v1, .int v2, .int (v1 + (Int32.ofInt 2))] [.int (v1 + (Int32.ofInt 2))] M L Q)
                exact wp_iret (by decide +kernel) rfl (hK _ _ _ hP)
            · have hP := hP.1 c_8
              refine wp_seg (pc' := 56) [.iload 1, .iconst 1, .iadd] (by decide +kernel) (?_ : Wp E (d + 3) 37 56 [.ref 1, .int v1, .int v2, .int (v1 + (Int32.ofInt 1))] [.int (v1 + (Int32.ofInt 1))] M L Q)
              exact wp_iret (by decide +kernel) rfl (hK _ _ _ hP)
          · have hP := hP.1 c_7
            refine wp_seg (pc' := 41) [.iload 1] (by decide +kernel) (?_ : Wp E (d + 3) 37 41 [.ref 1, .int v1, .int v2, .int (v1 + (Int32.ofInt 1))] [.int v1] M L Q)
            exact wp_iret (by decide +kernel) rfl (hK _ _ _ hP)
def P_X5_dayFault (M : Mem) (L : LMem) (K : Int32 → Mem → LMem → Prop) : Prop := PL_X5_dayFault_4 K 100000 (Int32.ofInt 0) (Int32.ofInt 0) M L
theorem t_X5_dayFault {E : VE} {d : Nat} {Q : QQ} {K : Int32 → Mem → LMem → Prop} {M : Mem} {L : LMem} (hP : P_X5_dayFault M L K) (hK : ∀ (v : Int32) (M : Mem) (L : LMem), K v M L → Q (some (.int v)) M L) : Wp E (d + 3) 37 0 [.ref 1, .null, .null, .null] [] M L Q := by
  unfold P_X5_dayFault at hP
  refine wp_seg (pc' := 4) [.iconst 0, .istore 1, .iconst 0, .istore 2] (by decide +kernel) (?_ : Wp E (d + 3) 37 4 [.ref 1, .int (Int32.ofInt 0), .int (Int32.ofInt 0), .null] [] M L Q)
  exact tl_X5_dayFault_4 hK 100000 (Int32.ofInt 0) (Int32.ofInt 0) M L hP

def PL_X2_read_7 (K : Mem → LMem → Prop)  : Nat → Int32 → Mem → LMem → Prop
  | 0, _, _, _ => False
  | n_ + 1, v2, M, L => (((Int32.ofInt 12) ≤ v2 → K M L) ∧ (¬ ((Int32.ofInt 12) ≤ v2) → (((M 1 1) ≤ ((Int32.ofInt 4) * v2) → K M L) ∧ (¬ ((M 1 1) ≤ ((Int32.ofInt 4) * v2)) → (vp_in v2 12 ∧ PL_X2_read_7 K n_ (v2 + Int32.ofInt 1) (mput (mput (mput (mput (mput M 5 v2.toNatClampNeg (f_X5_roomOf M ((Int32.ofInt 4) * v2))) 7 v2.toNatClampNeg (f_X5_signAt (mput M 5 v2.toNatClampNeg (f_X5_roomOf M ((Int32.ofInt 4) * v2))) (((Int32.ofInt 4) * v2) + (Int32.ofInt 1)))) 6 v2.toNatClampNeg (f_X5_roomOf (mput (mput M 5 v2.toNatClampNeg (f_X5_roomOf M ((Int32.ofInt 4) * v2))) 7 v2.toNatClampNeg (f_X5_signAt (mput M 5 v2.toNatClampNeg (f_X5_roomOf M ((Int32.ofInt 4) * v2))) (((Int32.ofInt 4) * v2) + (Int32.ofInt 1)))) (((Int32.ofInt 4) * v2) + (Int32.ofInt 2)))) 8 v2.toNatClampNeg (f_X5_numberOf (mput (mput (mput M 5 v2.toNatClampNeg (f_X5_roomOf M ((Int32.ofInt 4) * v2))) 7 v2.toNatClampNeg (f_X5_signAt (mput M 5 v2.toNatClampNeg (f_X5_roomOf M ((Int32.ofInt 4) * v2))) (((Int32.ofInt 4) * v2) + (Int32.ofInt 1)))) 6 v2.toNatClampNeg (f_X5_roomOf (mput (mput M 5 v2.toNatClampNeg (f_X5_roomOf M ((Int32.ofInt 4) * v2))) 7 v2.toNatClampNeg (f_X5_signAt (mput M 5 v2.toNatClampNeg (f_X5_roomOf M ((Int32.ofInt 4) * v2))) (((Int32.ofInt 4) * v2) + (Int32.ofInt 1)))) (((Int32.ofInt 4) * v2) + (Int32.ofInt 2)))) (((Int32.ofInt 4) * v2) + (Int32.ofInt 3)))) 4 4 ((M 4 4) + (Int32.ofInt 1))) L)))))
theorem tl_X2_read_7 {E : VE} {d : Nat} {Q : QQ} {K : Mem → LMem → Prop}  (hK : ∀ (M : Mem) (L : LMem), K M L → Q none M L)  : ∀ (n_ : Nat) (v2 : Int32) (M : Mem) (L : LMem), PL_X2_read_7 K n_ v2 M L → Wp E (d + 2) 12 7 [.ref 4, .ref 1, .int v2] [] M L Q := by
  intro n_
  induction n_ with
  | zero => intro v2 M L hP; exact False.elim hP
  | succ n_ ih =>
    intro v2 M L hP
    unfold PL_X2_read_7 at hP
    refine wp_seg (pc' := 10) [.iload 2, .iconst 12] (by decide +kernel) (?_ : Wp E (d + 2) 12 10 [.ref 4, .ref 1, .int v2] [.int (Int32.ofInt 12), .int v2] M L Q)
    refine wp_icmpge (off := 87) 97 (by decide +kernel) (by decide) (fun c_1 => ?_) (fun c_1 => ?_)
    · have hP := hP.1 c_1
      exact wp_vret (by decide +kernel) rfl (hK _ _ hP)
    · have hP := hP.2 c_1
      refine wp_seg (pc' := 20) [.iconst 4, .iload 2, .imul, .aload 1, .getfield 321] (by decide +kernel) (?_ : Wp E (d + 2) 12 20 [.ref 4, .ref 1, .int v2] [.int (M 1 1), .int ((Int32.ofInt 4) * v2)] M L Q)
      refine wp_icmpge (off := 77) 97 (by decide +kernel) (by decide) (fun c_2 => ?_) (fun c_2 => ?_)
      · have hP := hP.1 c_2
        exact wp_vret (by decide +kernel) rfl (hK _ _ hP)
      · have hP := hP.2 c_2
        refine wp_seg (pc' := 32) [.aload 0, .getfield 128, .iload 2, .aload 1, .iconst 4, .iload 2, .imul] (by decide +kernel) (?_ : Wp E (d + 2) 12 32 [.ref 4, .ref 1, .int v2] [.int ((Int32.ofInt 4) * v2), .ref 1, .int v2, .ref 5] M L Q)
        refine wp_callV 34 1 [.int ((Int32.ofInt 4) * v2)] (i := 31) (by decide +kernel) (by decide +kernel) (by decide +kernel) (by decide +kernel) rfl rfl rfl (rest := [.int v2, .ref 5]) rfl rfl ?_
        refine s_X5_roomOf M ((Int32.ofInt 4) * v2)  ?_
        show Wp E (d + 2) 12 35 [.ref 4, .ref 1, .int v2] [.int (f_X5_roomOf M ((Int32.ofInt 4) * v2)), .int v2, .ref 5] M L Q
        obtain ⟨a_3, hP⟩ := hP
        refine wp_seg (pc' := 36) [.iastore] (by decide +kernel) (show aok 5 0 v2 ∧ Wp E (d + 2) 12 36 [.ref 4, .ref 1, .int v2] [] (mput M 5 v2.toNatClampNeg (f_X5_roomOf M ((Int32.ofInt 4) * v2))) L Q from ⟨⟨rfl, a_3⟩, ?_⟩)
        refine wp_seg (pc' := 47) [.aload 0, .getfield 130, .iload 2, .aload 1, .iconst 4, .iload 2, .imul, .iconst 1, .iadd] (by decide +kernel) (?_ : Wp E (d + 2) 12 47 [.ref 4, .ref 1, .int v2] [.int (((Int32.ofInt 4) * v2) + (Int32.ofInt 1)), .ref 1, .int v2, .ref 7] (mput M 5 v2.toNatClampNeg (f_X5_roomOf M ((Int32.ofInt 4) * v2))) L Q)
        refine wp_callV 29 1 [.int (((Int32.ofInt 4) * v2) + (Int32.ofInt 1))] (i := 35) (by decide +kernel) (by decide +kernel) (by decide +kernel) (by decide +kernel) rfl rfl rfl (rest := [.int v2, .ref 7]) rfl rfl ?_
        refine s_X5_signAt (mput M 5 v2.toNatClampNeg (f_X5_roomOf M ((Int32.ofInt 4) * v2))) (((Int32.ofInt 4) * v2) + (Int32.ofInt 1))  ?_
        show Wp E (d + 2) 12 50 [.ref 4, .ref 1, .int v2] [.int (f_X5_signAt (mput M 5 v2.toNatClampNeg (f_X5_roomOf M ((Int32.ofInt 4) * v2))) (((Int32.ofInt 4) * v2) + (Int32.ofInt 1))), .int v2, .ref 7] (mput M 5 v2.toNatClampNeg (f_X5_roomOf M ((Int32.ofInt 4) * v2))) L Q
        refine wp_seg (pc' := 51) [.iastore] (by decide +kernel) (show aok 7 0 v2 ∧ Wp E (d + 2) 12 51 [.ref 4, .ref 1, .int v2] [] (mput (mput M 5 v2.toNatClampNeg (f_X5_roomOf M ((Int32.ofInt 4) * v2))) 7 v2.toNatClampNeg (f_X5_signAt (mput M 5 v2.toNatClampNeg (f_X5_roomOf M ((Int32.ofInt 4) * v2))) (((Int32.ofInt 4) * v2) + (Int32.ofInt 1)))) L Q from ⟨⟨rfl, a_3⟩, ?_⟩)
        refine wp_seg (pc' := 62) [.aload 0, .getfield 129, .iload 2, .aload 1, .iconst 4, .iload 2, .imul, .iconst 2, .iadd] (by decide +kernel) (?_ : Wp E (d + 2) 12 62 [.ref 4, .ref 1, .int v2] [.int (((Int32.ofInt 4) * v2) + (Int32.ofInt 2)), .ref 1, .int v2, .ref 6] (mput (mput M 5 v2.toNatClampNeg (f_X5_roomOf M ((Int32.ofInt 4) * v2))) 7 v2.toNatClampNeg (f_X5_signAt (mput M 5 v2.toNatClampNeg (f_X5_roomOf M ((Int32.ofInt 4) * v2))) (((Int32.ofInt 4) * v2) + (Int32.ofInt 1)))) L Q)
        refine wp_callV 34 1 [.int (((Int32.ofInt 4) * v2) + (Int32.ofInt 2))] (i := 31) (by decide +kernel) (by decide +kernel) (by decide +kernel) (by decide +kernel) rfl rfl rfl (rest := [.int v2, .ref 6]) rfl rfl ?_
        refine s_X5_roomOf (mput (mput M 5 v2.toNatClampNeg (f_X5_roomOf M ((Int32.ofInt 4) * v2))) 7 v2.toNatClampNeg (f_X5_signAt (mput M 5 v2.toNatClampNeg (f_X5_roomOf M ((Int32.ofInt 4) * v2))) (((Int32.ofInt 4) * v2) + (Int32.ofInt 1)))) (((Int32.ofInt 4) * v2) + (Int32.ofInt 2))  ?_
        show Wp E (d + 2) 12 65 [.ref 4, .ref 1, .int v2] [.int (f_X5_roomOf (mput (mput M 5 v2.toNatClampNeg (f_X5_roomOf M ((Int32.ofInt 4) * v2))) 7 v2.toNatClampNeg (f_X5_signAt (mput M 5 v2.toNatClampNeg (f_X5_roomOf M ((Int32.ofInt 4) * v2))) (((Int32.ofInt 4) * v2) + (Int32.ofInt 1)))) (((Int32.ofInt 4) * v2) + (Int32.ofInt 2))), .int v2, .ref 6] (mput (mput M 5 v2.toNatClampNeg (f_X5_roomOf M ((Int32.ofInt 4) * v2))) 7 v2.toNatClampNeg (f_X5_signAt (mput M 5 v2.toNatClampNeg (f_X5_roomOf M ((Int32.ofInt 4) * v2))) (((Int32.ofInt 4) * v2) + (Int32.ofInt 1)))) L Q
        refine wp_seg (pc' := 66) [.iastore] (by decide +kernel) (show aok 6 0 v2 ∧ Wp E (d + 2) 12 66 [.ref 4, .ref 1, .int v2] [] (mput (mput (mput M 5 v2.toNatClampNeg (f_X5_roomOf M ((Int32.ofInt 4) * v2))) 7 v2.toNatClampNeg (f_X5_signAt (mput M 5 v2.toNatClampNeg (f_X5_roomOf M ((Int32.ofInt 4) * v2))) (((Int32.ofInt 4) * v2) + (Int32.ofInt 1)))) 6 v2.toNatClampNeg (f_X5_roomOf (mput (mput M 5 v2.toNatClampNeg (f_X5_roomOf M ((Int32.ofInt 4) * v2))) 7 v2.toNatClampNeg (f_X5_signAt (mput M 5 v2.toNatClampNeg (f_X5_roomOf M ((Int32.ofInt 4) * v2))) (((Int32.ofInt 4) * v2) + (Int32.ofInt 1)))) (((Int32.ofInt 4) * v2) + (Int32.ofInt 2)))) L Q from ⟨⟨rfl, a_3⟩, ?_⟩)
        refine wp_seg (pc' := 77) [.aload 0, .getfield 131, .iload 2, .aload 1, .iconst 4, .iload 2, .imul, .iconst 3, .iadd] (by decide +kernel) (?_ : Wp E (d + 2) 12 77 [.ref 4, .ref 1, .int v2] [.int (((Int32.ofInt 4) * v2) + (Int32.ofInt 3)), .ref 1, .int v2, .ref 8] (mput (mput (mput M 5 v2.toNatClampNeg (f_X5_roomOf M ((Int32.ofInt 4) * v2))) 7 v2.toNatClampNeg (f_X5_signAt (mput M 5 v2.toNatClampNeg (f_X5_roomOf M ((Int32.ofInt 4) * v2))) (((Int32.ofInt 4) * v2) + (Int32.ofInt 1)))) 6 v2.toNatClampNeg (f_X5_roomOf (mput (mput M 5 v2.toNatClampNeg (f_X5_roomOf M ((Int32.ofInt 4) * v2))) 7 v2.toNatClampNeg (f_X5_signAt (mput M 5 v2.toNatClampNeg (f_X5_roomOf M ((Int32.ofInt 4) * v2))) (((Int32.ofInt 4) * v2) + (Int32.ofInt 1)))) (((Int32.ofInt 4) * v2) + (Int32.ofInt 2)))) L Q)
        refine wp_callV 35 1 [.int (((Int32.ofInt 4) * v2) + (Int32.ofInt 3))] (i := 38) (by decide +kernel) (by decide +kernel) (by decide +kernel) (by decide +kernel) rfl rfl rfl (rest := [.int v2, .ref 8]) rfl rfl ?_
        refine s_X5_numberOf (mput (mput (mput M 5 v2.toNatClampNeg (f_X5_roomOf M ((Int32.ofInt 4) * v2))) 7 v2.toNatClampNeg (f_X5_signAt (mput M 5 v2.toNatClampNeg (f_X5_roomOf M ((Int32.ofInt 4) * v2))) (((Int32.ofInt 4) * v2) + (Int32.ofInt 1)))) 6 v2.toNatClampNeg (f_X5_roomOf (mput (mput M 5 v2.toNatClampNeg (f_X5_roomOf M ((Int32.ofInt 4) * v2))) 7 v2.toNatClampNeg (f_X5_signAt (mput M 5 v2.toNatClampNeg (f_X5_roomOf M ((Int32.ofInt 4) * v2))) (((Int32.ofInt 4) * v2) + (Int32.ofInt 1)))) (((Int32.ofInt 4) * v2) + (Int32.ofInt 2)))) (((Int32.ofInt 4) * v2) + (Int32.ofInt 3))  ?_
        show Wp E (d + 2) 12 80 [.ref 4, .ref 1, .int v2] [.int (f_X5_numberOf (mput (mput (mput M 5 v2.toNatClampNeg (f_X5_roomOf M ((Int32.ofInt 4) * v2))) 7 v2.toNatClampNeg (f_X5_signAt (mput M 5 v2.toNatClampNeg (f_X5_roomOf M ((Int32.ofInt 4) * v2))) (((Int32.ofInt 4) * v2) + (Int32.ofInt 1)))) 6 v2.toNatClampNeg (f_X5_roomOf (mput (mput M 5 v2.toNatClampNeg (f_X5_roomOf M ((Int32.ofInt 4) * v2))) 7 v2.toNatClampNeg (f_X5_signAt (mput M 5 v2.toNatClampNeg (f_X5_roomOf M ((Int32.ofInt 4) * v2))) (((Int32.ofInt 4) * v2) + (Int32.ofInt 1)))) (((Int32.ofInt 4) * v2) + (Int32.ofInt 2)))) (((Int32.ofInt 4) * v2) + (Int32.ofInt 3))), .int v2, .ref 8] (mput (mput (mput M 5 v2.toNatClampNeg (f_X5_roomOf M ((Int32.ofInt 4) * v2))) 7 v2.toNatClampNeg (f_X5_signAt (mput M 5 v2.toNatClampNeg (f_X5_roomOf M ((Int32.ofInt 4) * v2))) (((Int32.ofInt 4) * v2) + (Int32.ofInt 1)))) 6 v2.toNatClampNeg (f_X5_roomOf (mput (mput M 5 v2.toNatClampNeg (f_X5_roomOf M ((Int32.ofInt 4) * v2))) 7 v2.toNatClampNeg (f_X5_signAt (mput M 5 v2.toNatClampNeg (f_X5_roomOf M ((Int32.ofInt 4) * v2))) (((Int32.ofInt 4) * v2) + (Int32.ofInt 1)))) (((Int32.ofInt 4) * v2) + (Int32.ofInt 2)))) L Q
        refine wp_seg (pc' := 81) [.iastore] (by decide +kernel) (show aok 8 0 v2 ∧ Wp E (d + 2) 12 81 [.ref 4, .ref 1, .int v2] [] (mput (mput (mput (mput M 5 v2.toNatClampNeg (f_X5_roomOf M ((Int32.ofInt 4) * v2))) 7 v2.toNatClampNeg (f_X5_signAt (mput M 5 v2.toNatClampNeg (f_X5_roomOf M ((Int32.ofInt 4) * v2))) (((Int32.ofInt 4) * v2) + (Int32.ofInt 1)))) 6 v2.toNatClampNeg (f_X5_roomOf (mput (mput M 5 v2.toNatClampNeg (f_X5_roomOf M ((Int32.ofInt 4) * v2))) 7 v2.toNatClampNeg (f_X5_signAt (mput M 5 v2.toNatClampNeg (f_X5_roomOf M ((Int32.ofInt 4) * v2))) (((Int32.ofInt 4) * v2) + (Int32.ofInt 1)))) (((Int32.ofInt 4) * v2) + (Int32.ofInt 2)))) 8 v2.toNatClampNeg (f_X5_numberOf (mput (mput (mput M 5 v2.toNatClampNeg (f_X5_roomOf M ((Int32.ofInt 4) * v2))) 7 v2.toNatClampNeg (f_X5_signAt (mput M 5 v2.toNatClampNeg (f_X5_roomOf M ((Int32.ofInt 4) * v2))) (((Int32.ofInt 4) * v2) + (Int32.ofInt 1)))) 6 v2.toNatClampNeg (f_X5_roomOf (mput (mput M 5 v2.toNatClampNeg (f_X5_roomOf M ((Int32.ofInt 4) * v2))) 7 v2.toNatClampNeg (f_X5_signAt (mput M 5 v2.toNatClampNeg (f_X5_roomOf M ((Int32.ofInt 4) * v2))) (((Int32.ofInt 4) * v2) + (Int32.ofInt 1)))) (((Int32.ofInt 4) * v2) + (Int32.ofInt 2)))) (((Int32.ofInt 4) * v2) + (Int32.ofInt 3)))) L Q from ⟨⟨rfl, a_3⟩, ?_⟩)
        refine wp_seg (pc' := 7) [.aload 0, .dup, .getfield 132, .iconst 1, .iadd, .putfield 132, .iinc 2 1, .goto 0] (by decide +kernel) (?_ : Wp E (d + 2) 12 7 [.ref 4, .ref 1, .int (v2 + Int32.ofInt 1)] [] (mput (mput (mput (mput (mput M 5 v2.toNatClampNeg (f_X5_roomOf M ((Int32.ofInt 4) * v2))) 7 v2.toNatClampNeg (f_X5_signAt (mput M 5 v2.toNatClampNeg (f_X5_roomOf M ((Int32.ofInt 4) * v2))) (((Int32.ofInt 4) * v2) + (Int32.ofInt 1)))) 6 v2.toNatClampNeg (f_X5_roomOf (mput (mput M 5 v2.toNatClampNeg (f_X5_roomOf M ((Int32.ofInt 4) * v2))) 7 v2.toNatClampNeg (f_X5_signAt (mput M 5 v2.toNatClampNeg (f_X5_roomOf M ((Int32.ofInt 4) * v2))) (((Int32.ofInt 4) * v2) + (Int32.ofInt 1)))) (((Int32.ofInt 4) * v2) + (Int32.ofInt 2)))) 8 v2.toNatClampNeg (f_X5_numberOf (mput (mput (mput M 5 v2.toNatClampNeg (f_X5_roomOf M ((Int32.ofInt 4) * v2))) 7 v2.toNatClampNeg (f_X5_signAt (mput M 5 v2.toNatClampNeg (f_X5_roomOf M ((Int32.ofInt 4) * v2))) (((Int32.ofInt 4) * v2) + (Int32.ofInt 1)))) 6 v2.toNatClampNeg (f_X5_roomOf (mput (mput M 5 v2.toNatClampNeg (f_X5_roomOf M ((Int32.ofInt 4) * v2))) 7 v2.toNatClampNeg (f_X5_signAt (mput M 5 v2.toNatClampNeg (f_X5_roomOf M ((Int32.ofInt 4) * v2))) (((Int32.ofInt 4) * v2) + (Int32.ofInt 1)))) (((Int32.ofInt 4) * v2) + (Int32.ofInt 2)))) (((Int32.ofInt 4) * v2) + (Int32.ofInt 3)))) 4 4 ((M 4 4) + (Int32.ofInt 1))) L Q)
        exact ih (v2 + Int32.ofInt 1) (mput (mput (mput (mput (mput M 5 v2.toNatClampNeg (f_X5_roomOf M ((Int32.ofInt 4) * v2))) 7 v2.toNatClampNeg (f_X5_signAt (mput M 5 v2.toNatClampNeg (f_X5_roomOf M ((Int32.ofInt 4) * v2))) (((Int32.ofInt 4) * v2) + (Int32.ofInt 1)))) 6 v2.toNatClampNeg (f_X5_roomOf (mput (mput M 5 v2.toNatClampNeg (f_X5_roomOf M ((Int32.ofInt 4) * v2))) 7 v2.toNatClampNeg (f_X5_signAt (mput M 5 v2.toNatClampNeg (f_X5_roomOf M ((Int32.ofInt 4) * v2))) (((Int32.ofInt 4) * v2) + (Int32.ofInt 1)))) (((Int32.ofInt 4) * v2) + (Int32.ofInt 2)))) 8 v2.toNatClampNeg (f_X5_numberOf (mput (mput (mput M 5 v2.toNatClampNeg (f_X5_roomOf M ((Int32.ofInt 4) * v2))) 7 v2.toNatClampNeg (f_X5_signAt (mput M 5 v2.toNatClampNeg (f_X5_roomOf M ((Int32.ofInt 4) * v2))) (((Int32.ofInt 4) * v2) + (Int32.ofInt 1)))) 6 v2.toNatClampNeg (f_X5_roomOf (mput (mput M 5 v2.toNatClampNeg (f_X5_roomOf M ((Int32.ofInt 4) * v2))) 7 v2.toNatClampNeg (f_X5_signAt (mput M 5 v2.toNatClampNeg (f_X5_roomOf M ((Int32.ofInt 4) * v2))) (((Int32.ofInt 4) * v2) + (Int32.ofInt 1)))) (((Int32.ofInt 4) * v2) + (Int32.ofInt 2)))) (((Int32.ofInt 4) * v2) + (Int32.ofInt 3)))) 4 4 ((M 4 4) + (Int32.ofInt 1))) L hP
def P_X2_read (M : Mem) (L : LMem) (K : Mem → LMem → Prop) : Prop := PL_X2_read_7 K 100000 (Int32.ofInt 0) (mput M 4 4 (Int32.ofInt 0)) L
theorem t_X2_read {E : VE} {d : Nat} {Q : QQ} {K : Mem → LMem → Prop} {M : Mem} {L : LMem} (hP : P_X2_read M L K) (hK : ∀ (M : Mem) (L : LMem), K M L → Q none M L) : Wp E (d + 2) 12 0 [.ref 4, .ref 1, .null] [] M L Q := by
  unfold P_X2_read at hP
  refine wp_seg (pc' := 7) [.aload 0, .iconst 0, .putfield 132, .iconst 0, .istore 2] (by decide +kernel) (?_ : Wp E (d + 2) 12 7 [.ref 4, .ref 1, .int (Int32.ofInt 0)] [] (mput M 4 4 (Int32.ofInt 0)) L Q)
  exact tl_X2_read_7 hK 100000 (Int32.ofInt 0) (mput M 4 4 (Int32.ofInt 0)) L hP

def P_X3_beginTries (M : Mem) (L : LMem) (K : Mem → LMem → Prop) : Prop := P_X2_ofKind (Int32.ofInt 120) (mput M 3 9 (Int32.ofInt 0)) L (fun v_3 M_1 L_2 => K (mput M_1 3 10 (((((Int32.ofInt 1) <<< ((M 4 4) &&& 31)) - (Int32.ofInt 1)) &&& (v_3 ^^^ (Int32.ofInt (-1)))) ||| (Int32.ofInt 4096))) L_2)
theorem t_X3_beginTries {E : VE} {d : Nat} {Q : QQ} {K : Mem → LMem → Prop} {M : Mem} {L : LMem} (hP : P_X3_beginTries M L K) (hK : ∀ (M : Mem) (L : LMem), K M L → Q none M L) : Wp E (d + 1) 15 0 [.ref 3] [] M L Q := by
  unfold P_X3_beginTries at hP
  refine wp_seg (pc' := 23) [.aload 0, .iconst 0, .putfield 201, .aload 0, .iconst 1, .aload 0, .getfield 192, .getfield 132, .ishl, .iconst 1, .isub, .aload 0, .getfield 192, .iconst 120] (by decide +kernel) (?_ : Wp E (d + 1) 15 23 [.ref 3] [.int (Int32.ofInt 120), .ref 4, .int (((Int32.ofInt 1) <<< ((M 4 4) &&& 31)) - (Int32.ofInt 1)), .ref 3] (mput M 3 9 (Int32.ofInt 0)) L Q)
  refine wp_callV 14 4 [.int (Int32.ofInt 120)] (i := 63) (by decide +kernel) (by decide +kernel) (by decide +kernel) (by decide +kernel) rfl rfl rfl (rest := [.int (((Int32.ofInt 1) <<< ((M 4 4) &&& 31)) - (Int32.ofInt 1)), .ref 3]) rfl rfl ?_
  refine t_X2_ofKind hP (fun v_3 M_1 L_2 hP => ?_)
  show Wp E (d + 1) 15 26 [.ref 3] [.int v_3, .int (((Int32.ofInt 1) <<< ((M 4 4) &&& 31)) - (Int32.ofInt 1)), .ref 3] M_1 L_2 Q
  refine wp_seg (pc' := 36) [.iconst (-1), .ixor, .iand, .iconst 4096, .ior, .putfield 202] (by decide +kernel) (?_ : Wp E (d + 1) 15 36 [.ref 3] [] (mput M_1 3 10 (((((Int32.ofInt 1) <<< ((M 4 4) &&& 31)) - (Int32.ofInt 1)) &&& (v_3 ^^^ (Int32.ofInt (-1)))) ||| (Int32.ofInt 4096))) L_2 Q)
  exact wp_vret (by decide +kernel) rfl (hK _ _ hP)

def PL_X6_aim_59 (K : Mem → LMem → Prop) (C_41 : Int32 → Int32 → Int32 → Int32 → Mem → LMem → Prop) : Nat → Int32 → Int32 → Int32 → Int32 → Int32 → Mem → LMem → Prop
  | 0, _, _, _, _, _, _, _ => False
  | n_ + 1, v2, v3, v4, v5, v6, M, L => (((M 4 4) ≤ v6 → C_41 v2 v3 v4 (v5 + Int32.ofInt 1) M L) ∧ (¬ ((M 4 4) ≤ v6) → ((((v3 >>> (v6 &&& 31)) &&& (Int32.ofInt 1)) = 0 → ((vp_in v6 12) ∧ (((vp_in v6 12)) ∧ ((¬ ((M 7 v6.toNatClampNeg) = (Int32.ofInt 120)) → vp_in (M 6 v6.toNatClampNeg) 8) ∧ ((¬ ((M 7 v6.toNatClampNeg) = (Int32.ofInt 120)) → vp_in (M 5 v6.toNatClampNeg) 8) ∧ (((f_X6_bringsNearer M v6) = 0 → PL_X6_aim_59 K C_41 n_ v2 v3 v4 v5 (v6 + Int32.ofInt 1) (g_X6_bringsNearer M v6) L) ∧ (¬ ((f_X6_bringsNearer M v6) = 0) → PL_X6_aim_59 K C_41 n_ v2 v3 (Int32.ofInt 1) v5 (v6 + Int32.ofInt 1) (g_X6_bringsNearer M v6) L))))))) ∧ (¬ (((v3 >>> (v6 &&& 31)) &&& (Int32.ofInt 1)) = 0) → PL_X6_aim_59 K C_41 n_ v2 v3 v4 v5 (v6 + Int32.ofInt 1) M L))))
theorem tl_X6_aim_59 {E : VE} {d : Nat} {Q : QQ} {K : Mem → LMem → Prop} {C_41 : Int32 → Int32 → Int32 → Int32 → Mem → LMem → Prop} (hK : ∀ (M : Mem) (L : LMem), K M L → Q none M L) (hC_41 : ∀ (v2 : Int32) (v3 : Int32) (v4 : Int32) (v5 : Int32) (M : Mem) (L : LMem), C_41 v2 v3 v4 v5 M L → Wp E (d + 2) 39 41 [.ref 37, .ref 4, .int v2, .int v3, .int v4, .int v5, .null] [] M L Q) : ∀ (n_ : Nat) (v2 : Int32) (v3 : Int32) (v4 : Int32) (v5 : Int32) (v6 : Int32) (M : Mem) (L : LMem), PL_X6_aim_59 K C_41 n_ v2 v3 v4 v5 v6 M L → Wp E (d + 2) 39 59 [.ref 37, .ref 4, .int v2, .int v3, .int v4, .int v5, .int v6] [] M L Q := by
  intro n_
  induction n_ with
  | zero => intro v2 v3 v4 v5 v6 M L hP; exact False.elim hP
  | succ n_ ih =>
    intro v2 v3 v4 v5 v6 M L hP
    unfold PL_X6_aim_59 at hP
    refine wp_seg (pc' := 65) [.iload 6, .aload 1, .getfield 132] (by decide +kernel) (?_ : Wp E (d + 2) 39 65 [.ref 37, .ref 4, .int v2, .int v3, .int v4, .int v5, .int v6] [.int (M 4 4), .int v6] M L Q)
    refine wp_icmpge (off := 31) 96 (by decide +kernel) (by decide) (fun c_4 => ?_) (fun c_4 => ?_)
    · have hP := hP.1 c_4
      refine wp_seg (pc' := 41) [.iinc 5 1, .goto 0] (by decide +kernel) (?_ : Wp E (d + 2) 39 41 [.ref 37, .ref 4, .int v2, .int v3, .int v4, .int (v5 + Int32.ofInt 1), .int v6] [] M L Q)
      refine wp_drop (lo := [.ref 37, .ref 4, .int v2, .int v3, .int v4, .int (v5 + Int32.ofInt 1), .null]) ⟨Or.inr rfl, Or.inr rfl, Or.inr rfl, Or.inr rfl, Or.inr rfl, Or.inr rfl, Or.inl rfl, trivial⟩ ?_
      exact hC_41 v2 v3 v4 (v5 + Int32.ofInt 1) M L hP
    · have hP := hP.2 c_4
      refine wp_seg (pc' := 74) [.iload 3, .iload 6, .ishr, .iconst 1, .iand] (by decide +kernel) (?_ : Wp E (d + 2) 39 74 [.ref 37, .ref 4, .int v2, .int v3, .int v4, .int v5, .int v6] [.int ((v3 >>> (v6 &&& 31)) &&& (Int32.ofInt 1))] M L Q)
      refine wp_ifne (off := 16) 90 (by decide +kernel) (by decide) (fun c_5 => ?_) (fun c_5 => ?_)
      · have hP := hP.2 c_5
        refine wp_seg (pc' := 59) [.iinc 6 1, .goto 0] (by decide +kernel) (?_ : Wp E (d + 2) 39 59 [.ref 37, .ref 4, .int v2, .int v3, .int v4, .int v5, .int (v6 + Int32.ofInt 1)] [] M L Q)
        exact ih v2 v3 v4 v5 (v6 + Int32.ofInt 1) M L hP
      · have hP := hP.1 c_5
        refine wp_seg (pc' := 81) [.aload 0, .aload 1, .iload 6] (by decide +kernel) (?_ : Wp E (d + 2) 39 81 [.ref 37, .ref 4, .int v2, .int v3, .int v4, .int v5, .int v6] [.int v6, .ref 4, .ref 37] M L Q)
        refine wp_callV 40 37 [.ref 4, .int v6] (i := 42) (by decide +kernel) (by decide +kernel) (by decide +kernel) (by decide +kernel) rfl rfl rfl (rest := []) rfl rfl ?_
        obtain ⟨a_6, hP⟩ := hP
        obtain ⟨a_7, hP⟩ := hP
        obtain ⟨a_8, hP⟩ := hP
        obtain ⟨a_9, hP⟩ := hP
        refine s_X6_bringsNearer M v6 a_6 a_7 a_8 a_9 ?_
        show Wp E (d + 2) 39 84 [.ref 37, .ref 4, .int v2, .int v3, .int v4, .int v5, .int v6] [.int (f_X6_bringsNearer M v6)] (g_X6_bringsNearer M v6) L Q
        refine wp_ifeq (off := 6) 90 (by decide +kernel) (by decide) (fun c_10 => ?_) (fun c_10 => ?_)
        · have hP := hP.1 c_10
          refine wp_seg (pc' := 59) [.iinc 6 1, .goto 0] (by decide +kernel) (?_ : Wp E (d + 2) 39 59 [.ref 37, .ref 4, .int v2, .int v3, .int v4, .int v5, .int (v6 + Int32.ofInt 1)] [] (g_X6_bringsNearer M v6) L Q)
          exact ih v2 v3 v4 v5 (v6 + Int32.ofInt 1) (g_X6_bringsNearer M v6) L hP
        · have hP := hP.2 c_10
          refine wp_seg (pc' := 59) [.iconst 1, .istore 4, .iinc 6 1, .goto 0] (by decide +kernel) (?_ : Wp E (d + 2) 39 59 [.ref 37, .ref 4, .int v2, .int v3, .int (Int32.ofInt 1), .int v5, .int (v6 + Int32.ofInt 1)] [] (g_X6_bringsNearer M v6) L Q)
          exact ih v2 v3 (Int32.ofInt 1) v5 (v6 + Int32.ofInt 1) (g_X6_bringsNearer M v6) L hP
def PL_X6_aim_41 (K : Mem → LMem → Prop)  : Nat → Int32 → Int32 → Int32 → Int32 → Mem → LMem → Prop
  | 0, _, _, _, _, _, _ => False
  | n_ + 1, v2, v3, v4, v5, M, L => (((Int32.ofInt 8) ≤ v5 → K M L) ∧ (¬ ((Int32.ofInt 8) ≤ v5) → ((v4 = 0 → K M L) ∧ (¬ (v4 = 0) → PL_X6_aim_59 K (PL_X6_aim_41 K n_) 100000 v2 v3 (Int32.ofInt 0) v5 (Int32.ofInt 0) M L))))
theorem tl_X6_aim_41 {E : VE} {d : Nat} {Q : QQ} {K : Mem → LMem → Prop}  (hK : ∀ (M : Mem) (L : LMem), K M L → Q none M L)  : ∀ (n_ : Nat) (v2 : Int32) (v3 : Int32) (v4 : Int32) (v5 : Int32) (M : Mem) (L : LMem), PL_X6_aim_41 K n_ v2 v3 v4 v5 M L → Wp E (d + 2) 39 41 [.ref 37, .ref 4, .int v2, .int v3, .int v4, .int v5, .null] [] M L Q := by
  intro n_
  induction n_ with
  | zero => intro v2 v3 v4 v5 M L hP; exact False.elim hP
  | succ n_ ih =>
    intro v2 v3 v4 v5 M L hP
    unfold PL_X6_aim_41 at hP
    refine wp_seg (pc' := 45) [.iload 5, .iconst 8] (by decide +kernel) (?_ : Wp E (d + 2) 39 45 [.ref 37, .ref 4, .int v2, .int v3, .int v4, .int v5, .null] [.int (Int32.ofInt 8), .int v5] M L Q)
    refine wp_icmpge (off := 57) 102 (by decide +kernel) (by decide) (fun c_2 => ?_) (fun c_2 => ?_)
    · have hP := hP.1 c_2
      exact wp_vret (by decide +kernel) rfl (hK _ _ hP)
    · have hP := hP.2 c_2
      refine wp_seg (pc' := 50) [.iload 4] (by decide +kernel) (?_ : Wp E (d + 2) 39 50 [.ref 37, .ref 4, .int v2, .int v3, .int v4, .int v5, .null] [.int v4] M L Q)
      refine wp_ifeq (off := 52) 102 (by decide +kernel) (by decide) (fun c_3 => ?_) (fun c_3 => ?_)
      · have hP := hP.1 c_3
        exact wp_vret (by decide +kernel) rfl (hK _ _ hP)
      · have hP := hP.2 c_3
        refine wp_seg (pc' := 59) [.iconst 0, .istore 4, .iconst 0, .istore 6] (by decide +kernel) (?_ : Wp E (d + 2) 39 59 [.ref 37, .ref 4, .int v2, .int v3, .int (Int32.ofInt 0), .int v5, .int (Int32.ofInt 0)] [] M L Q)
        exact tl_X6_aim_59 hK (fun v2 v3 v4 v5 M L hP => ih v2 v3 v4 v5 M L hP) 100000 v2 v3 (Int32.ofInt 0) v5 (Int32.ofInt 0) M L hP
def PL_X6_aim_3 (K : Mem → LMem → Prop)  : Nat → Int32 → Int32 → Int32 → Mem → LMem → Prop
  | 0, _, _, _, _, _ => False
  | n_ + 1, v2, v3, v4, M, L => (((Int32.ofInt 8) ≤ v4 → PL_X6_aim_41 K 100000 v2 v3 (Int32.ofInt 1) (Int32.ofInt 0) M L) ∧ (¬ ((Int32.ofInt 8) ≤ v4) → ((v4 = v2 → (vp_in v4 8 ∧ PL_X6_aim_3 K n_ v2 v3 (v4 + Int32.ofInt 1) (mput M 38 v4.toNatClampNeg (Int32.ofInt 0)) L)) ∧ (¬ (v4 = v2) → (vp_in v4 8 ∧ PL_X6_aim_3 K n_ v2 v3 (v4 + Int32.ofInt 1) (mput M 38 v4.toNatClampNeg (Int32.ofInt 1048576)) L)))))
theorem tl_X6_aim_3 {E : VE} {d : Nat} {Q : QQ} {K : Mem → LMem → Prop}  (hK : ∀ (M : Mem) (L : LMem), K M L → Q none M L)  : ∀ (n_ : Nat) (v2 : Int32) (v3 : Int32) (v4 : Int32) (M : Mem) (L : LMem), PL_X6_aim_3 K n_ v2 v3 v4 M L → Wp E (d + 2) 39 3 [.ref 37, .ref 4, .int v2, .int v3, .int v4, .null, .null] [] M L Q := by
  intro n_
  induction n_ with
  | zero => intro v2 v3 v4 M L hP; exact False.elim hP
  | succ n_ ih =>
    intro v2 v3 v4 M L hP
    unfold PL_X6_aim_3 at hP
    refine wp_seg (pc' := 7) [.iload 4, .iconst 8] (by decide +kernel) (?_ : Wp E (d + 2) 39 7 [.ref 37, .ref 4, .int v2, .int v3, .int v4, .null, .null] [.int (Int32.ofInt 8), .int v4] M L Q)
    refine wp_icmpge (off := 28) 35 (by decide +kernel) (by decide) (fun c_1 => ?_) (fun c_1 => ?_)
    · have hP := hP.1 c_1
      refine wp_seg (pc' := 41) [.iconst 1, .istore 4, .iconst 0, .istore 5] (by decide +kernel) (?_ : Wp E (d + 2) 39 41 [.ref 37, .ref 4, .int v2, .int v3, .int (Int32.ofInt 1), .int (Int32.ofInt 0), .null] [] M L Q)
      exact tl_X6_aim_41 hK 100000 v2 v3 (Int32.ofInt 1) (Int32.ofInt 0) M L hP
    · have hP := hP.2 c_1
      refine wp_seg (pc' := 19) [.aload 0, .getfield 384, .iload 4, .iload 4, .iload 2] (by decide +kernel) (?_ : Wp E (d + 2) 39 19 [.ref 37, .ref 4, .int v2, .int v3, .int v4, .null, .null] [.int v2, .int v4, .int v4, .ref 38] M L Q)
      refine wp_icmpne (off := 7) 26 (by decide +kernel) (by decide) (fun c_11 => ?_) (fun c_11 => ?_)
      · have hP := hP.2 c_11
        obtain ⟨a_12, hP⟩ := hP
        refine wp_seg (pc' := 29) [.iconst 1048576, .iastore] (by decide +kernel) (show aok 38 0 v4 ∧ Wp E (d + 2) 39 29 [.ref 37, .ref 4, .int v2, .int v3, .int v4, .null, .null] [] (mput M 38 v4.toNatClampNeg (Int32.ofInt 1048576)) L Q from ⟨⟨rfl, a_12⟩, ?_⟩)
        refine wp_seg (pc' := 3) [.iinc 4 1, .goto 0] (by decide +kernel) (?_ : Wp E (d + 2) 39 3 [.ref 37, .ref 4, .int v2, .int v3, .int (v4 + Int32.ofInt 1), .null, .null] [] (mput M 38 v4.toNatClampNeg (Int32.ofInt 1048576)) L Q)
        exact ih v2 v3 (v4 + Int32.ofInt 1) (mput M 38 v4.toNatClampNeg (Int32.ofInt 1048576)) L hP
      · have hP := hP.1 c_11
        obtain ⟨a_13, hP⟩ := hP
        refine wp_seg (pc' := 29) [.iconst 0, .goto 0, .iastore] (by decide +kernel) (show aok 38 0 v4 ∧ Wp E (d + 2) 39 29 [.ref 37, .ref 4, .int v2, .int v3, .int v4, .null, .null] [] (mput M 38 v4.toNatClampNeg (Int32.ofInt 0)) L Q from ⟨⟨rfl, a_13⟩, ?_⟩)
        refine wp_seg (pc' := 3) [.iinc 4 1, .goto 0] (by decide +kernel) (?_ : Wp E (d + 2) 39 3 [.ref 37, .ref 4, .int v2, .int v3, .int (v4 + Int32.ofInt 1), .null, .null] [] (mput M 38 v4.toNatClampNeg (Int32.ofInt 0)) L Q)
        exact ih v2 v3 (v4 + Int32.ofInt 1) (mput M 38 v4.toNatClampNeg (Int32.ofInt 0)) L hP
def P_X6_aim (x2 : Int32) (x3 : Int32) (M : Mem) (L : LMem) (K : Mem → LMem → Prop) : Prop := PL_X6_aim_3 K 100000 x2 x3 (Int32.ofInt 0) M L
theorem t_X6_aim {E : VE} {d : Nat} {Q : QQ} {K : Mem → LMem → Prop} {x2 : Int32} {x3 : Int32} {M : Mem} {L : LMem} (hP : P_X6_aim x2 x3 M L K) (hK : ∀ (M : Mem) (L : LMem), K M L → Q none M L) : Wp E (d + 2) 39 0 [.ref 37, .ref 4, .int x2, .int x3, .null, .null, .null] [] M L Q := by
  unfold P_X6_aim at hP
  refine wp_seg (pc' := 3) [.iconst 0, .istore 4] (by decide +kernel) (?_ : Wp E (d + 2) 39 3 [.ref 37, .ref 4, .int x2, .int x3, .int (Int32.ofInt 0), .null, .null] [] M L Q)
  exact tl_X6_aim_3 hK 100000 x2 x3 (Int32.ofInt 0) M L hP

def PL_X6_nextTube_3 (K : Int32 → Mem → LMem → Prop)  : Nat → Int32 → Int32 → Int32 → Mem → LMem → Prop
  | 0, _, _, _, _, _ => False
  | n_ + 1, v2, v3, v4, M, L => (((M 4 4) ≤ v4 → K (Int32.ofInt (-6)) M L) ∧ (¬ ((M 4 4) ≤ v4) → ((vp_in v4 12) ∧ ((((v3 >>> (v4 &&& 31)) &&& (Int32.ofInt 1)) = 0 → (((f_X2_beyond M v4 v2) = (Int32.ofInt (-6)) → PL_X6_nextTube_3 K n_ v2 v3 (v4 + Int32.ofInt 1) M L) ∧ (¬ ((f_X2_beyond M v4 v2) = (Int32.ofInt (-6))) → (vp_in (f_X2_beyond M v4 v2) 8 ∧ (vp_in v2 8 ∧ ((((M 38 ((f_X2_beyond M v4 v2).toNatClampNeg)) + (f_X6_stepOf M v4)) = (M 38 v2.toNatClampNeg) → K v4 M L) ∧ (¬ (((M 38 ((f_X2_beyond M v4 v2).toNatClampNeg)) + (f_X6_stepOf M v4)) = (M 38 v2.toNatClampNeg)) → PL_X6_nextTube_3 K n_ v2 v3 (v4 + Int32.ofInt 1) M L))))))) ∧ (¬ (((v3 >>> (v4 &&& 31)) &&& (Int32.ofInt 1)) = 0) → PL_X6_nextTube_3 K n_ v2 v3 (v4 + Int32.ofInt 1) M L)))))
theorem tl_X6_nextTube_3 {E : VE} {d : Nat} {Q : QQ} {K : Int32 → Mem → LMem → Prop}  (hK : ∀ (v : Int32) (M : Mem) (L : LMem), K v M L → Q (some (.int v)) M L)  : ∀ (n_ : Nat) (v2 : Int32) (v3 : Int32) (v4 : Int32) (M : Mem) (L : LMem), PL_X6_nextTube_3 K n_ v2 v3 v4 M L → Wp E (d + 1) 43 3 [.ref 37, .ref 4, .int v2, .int v3, .int v4, .null] [] M L Q := by
  intro n_
  induction n_ with
  | zero => intro v2 v3 v4 M L hP; exact False.elim hP
  | succ n_ ih =>
    intro v2 v3 v4 M L hP
    unfold PL_X6_nextTube_3 at hP
    refine wp_seg (pc' := 9) [.iload 4, .aload 1, .getfield 132] (by decide +kernel) (?_ : Wp E (d + 1) 43 9 [.ref 37, .ref 4, .int v2, .int v3, .int v4, .null] [.int (M 4 4), .int v4] M L Q)
    refine wp_icmpge (off := 60) 69 (by decide +kernel) (by decide) (fun c_1 => ?_) (fun c_1 => ?_)
    · have hP := hP.1 c_1
      refine wp_seg (pc' := 71) [.iconst (-6)] (by decide +kernel) (?_ : Wp E (d + 1) 43 71 [.ref 37, .ref 4, .int v2, .int v3, .int v4, .null] [.int (Int32.ofInt (-6))] M L Q)
      exact wp_iret (by decide +kernel) rfl (hK _ _ _ hP)
    · have hP := hP.2 c_1
      refine wp_seg (pc' := 16) [.aload 1, .iload 4, .iload 2] (by decide +kernel) (?_ : Wp E (d + 1) 43 16 [.ref 37, .ref 4, .int v2, .int v3, .int v4, .null] [.int v2, .int v4, .ref 4] M L Q)
      refine wp_callV 13 4 [.int v4, .int v2] (i := 75) (by decide +kernel) (by decide +kernel) (by decide +kernel) (by decide +kernel) rfl rfl rfl (rest := []) rfl rfl ?_
      obtain ⟨a_2, hP⟩ := hP
      refine s_X2_beyond M v4 v2 a_2 ?_
      show Wp E (d + 1) 43 19 [.ref 37, .ref 4, .int v2, .int v3, .int v4, .null] [.int (f_X2_beyond M v4 v2)] M L Q
      refine wp_seg (pc' := 27) [.istore 5, .iload 3, .iload 4, .ishr, .iconst 1, .iand] (by decide +kernel) (?_ : Wp E (d + 1) 43 27 [.ref 37, .ref 4, .int v2, .int v3, .int v4, .int (f_X2_beyond M v4 v2)] [.int ((v3 >>> (v4 &&& 31)) &&& (Int32.ofInt 1))] M L Q)
      refine wp_ifne (off := 36) 63 (by decide +kernel) (by decide) (fun c_3 => ?_) (fun c_3 => ?_)
      · have hP := hP.2 c_3
        refine wp_seg (pc' := 3) [.iinc 4 1, .goto 0] (by decide +kernel) (?_ : Wp E (d + 1) 43 3 [.ref 37, .ref 4, .int v2, .int v3, .int (v4 + Int32.ofInt 1), .int (f_X2_beyond M v4 v2)] [] M L Q)
        refine wp_drop (lo := [.ref 37, .ref 4, .int v2, .int v3, .int (v4 + Int32.ofInt 1), .null]) ⟨Or.inr rfl, Or.inr rfl, Or.inr rfl, Or.inr rfl, Or.inr rfl, Or.inl rfl, trivial⟩ ?_
        exact ih v2 v3 (v4 + Int32.ofInt 1) M L hP
      · have hP := hP.1 c_3
        refine wp_seg (pc' := 34) [.iload 5, .iconst (-6)] (by decide +kernel) (?_ : Wp E (d + 1) 43 34 [.ref 37, .ref 4, .int v2, .int v3, .int v4, .int (f_X2_beyond M v4 v2)] [.int (Int32.ofInt (-6)), .int (f_X2_beyond M v4 v2)] M L Q)
        refine wp_icmpeq (off := 29) 63 (by decide +kernel) (by decide) (fun c_4 => ?_) (fun c_4 => ?_)
        · have hP := hP.1 c_4
          refine wp_seg (pc' := 3) [.iinc 4 1, .goto 0] (by decide +kernel) (?_ : Wp E (d + 1) 43 3 [.ref 37, .ref 4, .int v2, .int v3, .int (v4 + Int32.ofInt 1), .int (f_X2_beyond M v4 v2)] [] M L Q)
          refine wp_drop (lo := [.ref 37, .ref 4, .int v2, .int v3, .int (v4 + Int32.ofInt 1), .null]) ⟨Or.inr rfl, Or.inr rfl, Or.inr rfl, Or.inr rfl, Or.inr rfl, Or.inl rfl, trivial⟩ ?_
          exact ih v2 v3 (v4 + Int32.ofInt 1) M L hP
        · have hP := hP.2 c_4
          obtain ⟨a_5, hP⟩ := hP
          refine wp_seg (pc' := 44) [.aload 0, .getfield 384, .iload 5, .iaload] (by decide +kernel) (show aok 38 0 (f_X2_beyond M v4 v2) ∧ Wp E (d + 1) 43 44 [.ref 37, .ref 4, .int v2, .int v3, .int v4, .int (f_X2_beyond M v4 v2)] [.int (M 38 ((f_X2_beyond M v4 v2).toNatClampNeg))] M L Q from ⟨⟨rfl, a_5⟩, ?_⟩)
          refine wp_seg (pc' := 47) [.aload 1, .iload 4] (by decide +kernel) (?_ : Wp E (d + 1) 43 47 [.ref 37, .ref 4, .int v2, .int v3, .int v4, .int (f_X2_beyond M v4 v2)] [.int v4, .ref 4, .int (M 38 ((f_X2_beyond M v4 v2).toNatClampNeg))] M L Q)
          refine wp_callS 41 [.ref 4, .int v4] (i := 55) (by decide +kernel) (by decide +kernel) (by decide +kernel) rfl rfl rfl (rest := [.int (M 38 ((f_X2_beyond M v4 v2).toNatClampNeg))]) rfl rfl ?_
          refine s_X6_stepOf M v4 a_2 ?_
          show Wp E (d + 1) 43 50 [.ref 37, .ref 4, .int v2, .int v3, .int v4, .int (f_X2_beyond M v4 v2)] [.int (f_X6_stepOf M v4), .int (M 38 ((f_X2_beyond M v4 v2).toNatClampNeg))] M L Q
          obtain ⟨a_6, hP⟩ := hP
          refine wp_seg (pc' := 57) [.iadd, .aload 0, .getfield 384, .iload 2, .iaload] (by decide +kernel) (show aok 38 0 v2 ∧ Wp E (d + 1) 43 57 [.ref 37, .ref 4, .int v2, .int v3, .int v4, .int (f_X2_beyond M v4 v2)] [.int (M 38 v2.toNatClampNeg), .int ((M 38 ((f_X2_beyond M v4 v2).toNatClampNeg)) + (f_X6_stepOf M v4))] M L Q from ⟨⟨rfl, a_6⟩, ?_⟩)
          refine wp_icmpne (off := 6) 63 (by decide +kernel) (by decide) (fun c_7 => ?_) (fun c_7 => ?_)
          · have hP := hP.2 c_7
            refine wp_seg (pc' := 3) [.iinc 4 1, .goto 0] (by decide +kernel) (?_ : Wp E (d + 1) 43 3 [.ref 37, .ref 4, .int v2, .int v3, .int (v4 + Int32.ofInt 1), .int (f_X2_beyond M v4 v2)] [] M L Q)
            refine wp_drop (lo := [.ref 37, .ref 4, .int v2, .int v3, .int (v4 + Int32.ofInt 1), .null]) ⟨Or.inr rfl, Or.inr rfl, Or.inr rfl, Or.inr rfl, Or.inr rfl, Or.inl rfl, trivial⟩ ?_
            exact ih v2 v3 (v4 + Int32.ofInt 1) M L hP
          · have hP := hP.1 c_7
            refine wp_seg (pc' := 62) [.iload 4] (by decide +kernel) (?_ : Wp E (d + 1) 43 62 [.ref 37, .ref 4, .int v2, .int v3, .int v4, .int (f_X2_beyond M v4 v2)] [.int v4] M L Q)
            exact wp_iret (by decide +kernel) rfl (hK _ _ _ hP)
def P_X6_nextTube (x2 : Int32) (x3 : Int32) (M : Mem) (L : LMem) (K : Int32 → Mem → LMem → Prop) : Prop := PL_X6_nextTube_3 K 100000 x2 x3 (Int32.ofInt 0) M L
theorem t_X6_nextTube {E : VE} {d : Nat} {Q : QQ} {K : Int32 → Mem → LMem → Prop} {x2 : Int32} {x3 : Int32} {M : Mem} {L : LMem} (hP : P_X6_nextTube x2 x3 M L K) (hK : ∀ (v : Int32) (M : Mem) (L : LMem), K v M L → Q (some (.int v)) M L) : Wp E (d + 1) 43 0 [.ref 37, .ref 4, .int x2, .int x3, .null, .null] [] M L Q := by
  unfold P_X6_nextTube at hP
  refine wp_seg (pc' := 3) [.iconst 0, .istore 4] (by decide +kernel) (?_ : Wp E (d + 1) 43 3 [.ref 37, .ref 4, .int x2, .int x3, .int (Int32.ofInt 0), .null] [] M L Q)
  exact tl_X6_nextTube_3 hK 100000 x2 x3 (Int32.ofInt 0) M L hP

def PL_X6_walk_45 (K : Int32 → Mem → LMem → Prop)  : Nat → Int32 → Int32 → Int32 → Int32 → Int32 → Mem → LMem → Prop
  | 0, _, _, _, _, _, _, _ => False
  | n_ + 1, v2, v3, v4, v5, v6, M, L => (((Int32.ofInt 8) ≤ v6 → ((v5 = v3 → K (Int32.ofInt 1) M L) ∧ (¬ (v5 = v3) → K (Int32.ofInt 0) M L))) ∧ (¬ ((Int32.ofInt 8) ≤ v6) → ((v5 = v3 → K (Int32.ofInt 1) M L) ∧ (¬ (v5 = v3) → P_X6_nextTube v5 v4 M L (fun v_9 M_7 L_8 => ((v_9 = (Int32.ofInt (-6)) → K (Int32.ofInt 0) M_7 L_8) ∧ (¬ (v_9 = (Int32.ofInt (-6))) → ((vp_in v_9 12) ∧ (vp_in (M_7 37 3) 8 ∧ (vp_in v6 8 ∧ (vp_in v_9 12 ∧ PL_X6_walk_45 K n_ v2 v3 v4 (f_X2_beyond M_7 v_9 v5) (v6 + Int32.ofInt 1) (mput (mput (mput (mput (mput M_7 39 ((M_7 37 3).toNatClampNeg) v_9) 37 3 v6) 40 v6.toNatClampNeg (f_X2_beyond M_7 v_9 v5)) 37 4 ((M_7 37 4) + (M_7 8 v_9.toNatClampNeg))) 37 5 ((M_7 37 5) ||| ((Int32.ofInt 1) <<< (v_9 &&& 31)))) L_8)))))))))))
theorem tl_X6_walk_45 {E : VE} {d : Nat} {Q : QQ} {K : Int32 → Mem → LMem → Prop}  (hK : ∀ (v : Int32) (M : Mem) (L : LMem), K v M L → Q (some (.int v)) M L)  : ∀ (n_ : Nat) (v2 : Int32) (v3 : Int32) (v4 : Int32) (v5 : Int32) (v6 : Int32) (M : Mem) (L : LMem), PL_X6_walk_45 K n_ v2 v3 v4 v5 v6 M L → Wp E (d + 2) 42 45 [.ref 37, .ref 3, .int v2, .int v3, .int v4, .int v5, .int v6, .null] [] M L Q := by
  intro n_
  induction n_ with
  | zero => intro v2 v3 v4 v5 v6 M L hP; exact False.elim hP
  | succ n_ ih =>
    intro v2 v3 v4 v5 v6 M L hP
    unfold PL_X6_walk_45 at hP
    refine wp_seg (pc' := 49) [.iload 6, .iconst 8] (by decide +kernel) (?_ : Wp E (d + 2) 42 49 [.ref 37, .ref 3, .int v2, .int v3, .int v4, .int v5, .int v6, .null] [.int (Int32.ofInt 8), .int v6] M L Q)
    refine wp_icmpge (off := 109) 158 (by decide +kernel) (by decide) (fun c_3 => ?_) (fun c_3 => ?_)
    · have hP := hP.1 c_3
      refine wp_seg (pc' := 161) [.iload 5, .iload 3] (by decide +kernel) (?_ : Wp E (d + 2) 42 161 [.ref 37, .ref 3, .int v2, .int v3, .int v4, .int v5, .int v6, .null] [.int v3, .int v5] M L Q)
      refine wp_icmpne (off := 7) 168 (by decide +kernel) (by decide) (fun c_4 => ?_) (fun c_4 => ?_)
      · have hP := hP.2 c_4
        refine wp_seg (pc' := 169) [.iconst 0] (by decide +kernel) (?_ : Wp E (d + 2) 42 169 [.ref 37, .ref 3, .int v2, .int v3, .int v4, .int v5, .int v6, .null] [.int (Int32.ofInt 0)] M L Q)
        exact wp_zret (by decide +kernel) rfl (by decide) (hK _ _ _ hP)
      · have hP := hP.1 c_4
        refine wp_seg (pc' := 169) [.iconst 1, .goto 0] (by decide +kernel) (?_ : Wp E (d + 2) 42 169 [.ref 37, .ref 3, .int v2, .int v3, .int v4, .int v5, .int v6, .null] [.int (Int32.ofInt 1)] M L Q)
        exact wp_zret (by decide +kernel) rfl (by decide) (hK _ _ _ hP)
    · have hP := hP.2 c_3
      refine wp_seg (pc' := 55) [.iload 5, .iload 3] (by decide +kernel) (?_ : Wp E (d + 2) 42 55 [.ref 37, .ref 3, .int v2, .int v3, .int v4, .int v5, .int v6, .null] [.int v3, .int v5] M L Q)
      refine wp_icmpeq (off := 103) 158 (by decide +kernel) (by decide) (fun c_5 => ?_) (fun c_5 => ?_)
      · have hP := hP.1 c_5
        refine wp_seg (pc' := 161) [.iload 5, .iload 3] (by decide +kernel) (?_ : Wp E (d + 2) 42 161 [.ref 37, .ref 3, .int v2, .int v3, .int v4, .int v5, .int v6, .null] [.int v3, .int v5] M L Q)
        refine wp_icmpne (off := 7) 168 (by decide +kernel) (by decide) (fun c_6 => ?_) (fun c_6 => ?_)
        · exact absurd c_5 c_6
        · skip
          refine wp_seg (pc' := 169) [.iconst 1, .goto 0] (by decide +kernel) (?_ : Wp E (d + 2) 42 169 [.ref 37, .ref 3, .int v2, .int v3, .int v4, .int v5, .int v6, .null] [.int (Int32.ofInt 1)] M L Q)
          exact wp_zret (by decide +kernel) rfl (by decide) (hK _ _ _ hP)
      · have hP := hP.2 c_5
        refine wp_seg (pc' := 67) [.aload 0, .aload 1, .getfield 192, .iload 5, .iload 4] (by decide +kernel) (?_ : Wp E (d + 2) 42 67 [.ref 37, .ref 3, .int v2, .int v3, .int v4, .int v5, .int v6, .null] [.int v4, .int v5, .ref 4, .ref 37] M L Q)
        refine wp_callV 43 37 [.ref 4, .int v5, .int v4] (i := 71) (by decide +kernel) (by decide +kernel) (by decide +kernel) (by decide +kernel) rfl rfl rfl (rest := []) rfl rfl ?_
        refine t_X6_nextTube hP (fun v_9 M_7 L_8 hP => ?_)
        show Wp E (d + 2) 42 70 [.ref 37, .ref 3, .int v2, .int v3, .int v4, .int v5, .int v6, .null] [.int v_9] M_7 L_8 Q
        refine wp_seg (pc' := 76) [.istore 7, .iload 7, .iconst (-6)] (by decide +kernel) (?_ : Wp E (d + 2) 42 76 [.ref 37, .ref 3, .int v2, .int v3, .int v4, .int v5, .int v6, .int v_9] [.int (Int32.ofInt (-6)), .int v_9] M_7 L_8 Q)
        refine wp_icmpne (off := 5) 81 (by decide +kernel) (by decide) (fun c_10 => ?_) (fun c_10 => ?_)
        · have hP := hP.2 c_10
          refine wp_seg (pc' := 89) [.aload 1, .getfield 192, .iload 7, .iload 5] (by decide +kernel) (?_ : Wp E (d + 2) 42 89 [.ref 37, .ref 3, .int v2, .int v3, .int v4, .int v5, .int v6, .int v_9] [.int v5, .int v_9, .ref 4] M_7 L_8 Q)
          refine wp_callV 13 4 [.int v_9, .int v5] (i := 75) (by decide +kernel) (by decide +kernel) (by decide +kernel) (by decide +kernel) rfl rfl rfl (rest := []) rfl rfl ?_
          obtain ⟨a_11, hP⟩ := hP
          refine s_X2_beyond M_7 v_9 v5 a_11 ?_
          show Wp E (d + 2) 42 92 [.ref 37, .ref 3, .int v2, .int v3, .int v4, .int v5, .int v6, .int v_9] [.int (f_X2_beyond M_7 v_9 v5)] M_7 L_8 Q
          obtain ⟨a_12, hP⟩ := hP
          refine wp_seg (pc' := 105) [.istore 5, .aload 0, .getfield 385, .aload 0, .getfield 387, .iload 7, .iastore] (by decide +kernel) (show aok 39 0 (M_7 37 3) ∧ Wp E (d + 2) 42 105 [.ref 37, .ref 3, .int v2, .int v3, .int v4, .int (f_X2_beyond M_7 v_9 v5), .int v6, .int v_9] [] (mput M_7 39 ((M_7 37 3).toNatClampNeg) v_9) L_8 Q from ⟨⟨rfl, a_12⟩, ?_⟩)
          obtain ⟨a_13, hP⟩ := hP
          refine wp_seg (pc' := 120) [.aload 0, .iload 6, .putfield 387, .aload 0, .getfield 386, .iload 6, .iload 5, .iastore] (by decide +kernel) (show aok 40 0 v6 ∧ Wp E (d + 2) 42 120 [.ref 37, .ref 3, .int v2, .int v3, .int v4, .int (f_X2_beyond M_7 v_9 v5), .int v6, .int v_9] [] (mput (mput (mput M_7 39 ((M_7 37 3).toNatClampNeg) v_9) 37 3 v6) 40 v6.toNatClampNeg (f_X2_beyond M_7 v_9 v5)) L_8 Q from ⟨⟨rfl, a_13⟩, ?_⟩)
          obtain ⟨a_14, hP⟩ := hP
          refine wp_seg (pc' := 135) [.aload 0, .dup, .getfield 388, .aload 1, .getfield 192, .getfield 131, .iload 7, .iaload] (by decide +kernel) (show aok 8 0 v_9 ∧ Wp E (d + 2) 42 135 [.ref 37, .ref 3, .int v2, .int v3, .int v4, .int (f_X2_beyond M_7 v_9 v5), .int v6, .int v_9] [.int (M_7 8 v_9.toNatClampNeg), .int (M_7 37 4), .ref 37] (mput (mput (mput M_7 39 ((M_7 37 3).toNatClampNeg) v_9) 37 3 v6) 40 v6.toNatClampNeg (f_X2_beyond M_7 v_9 v5)) L_8 Q from ⟨⟨rfl, a_14⟩, ?_⟩)
          refine wp_seg (pc' := 45) [.iadd, .putfield 388, .aload 0, .dup, .getfield 389, .iconst 1, .iload 7, .ishl, .ior, .putfield 389, .iinc 6 1, .goto 0] (by decide +kernel) (?_ : Wp E (d + 2) 42 45 [.ref 37, .ref 3, .int v2, .int v3, .int v4, .int (f_X2_beyond M_7 v_9 v5), .int (v6 + Int32.ofInt 1), .int v_9] [] (mput (mput (mput (mput (mput M_7 39 ((M_7 37 3).toNatClampNeg) v_9) 37 3 v6) 40 v6.toNatClampNeg (f_X2_beyond M_7 v_9 v5)) 37 4 ((M_7 37 4) + (M_7 8 v_9.toNatClampNeg))) 37 5 ((M_7 37 5) ||| ((Int32.ofInt 1) <<< (v_9 &&& 31)))) L_8 Q)
          refine wp_drop (lo := [.ref 37, .ref 3, .int v2, .int v3, .int v4, .int (f_X2_beyond M_7 v_9 v5), .int (v6 + Int32.ofInt 1), .null]) ⟨Or.inr rfl, Or.inr rfl, Or.inr rfl, Or.inr rfl, Or.inr rfl, Or.inr rfl, Or.inr rfl, Or.inl rfl, trivial⟩ ?_
          exact ih v2 v3 v4 (f_X2_beyond M_7 v_9 v5) (v6 + Int32.ofInt 1) (mput (mput (mput (mput (mput M_7 39 ((M_7 37 3).toNatClampNeg) v_9) 37 3 v6) 40 v6.toNatClampNeg (f_X2_beyond M_7 v_9 v5)) 37 4 ((M_7 37 4) + (M_7 8 v_9.toNatClampNeg))) 37 5 ((M_7 37 5) ||| ((Int32.ofInt 1) <<< (v_9 &&& 31)))) L_8 hP
        · have hP := hP.1 c_10
          refine wp_seg (pc' := 80) [.iconst 0] (by decide +kernel) (?_ : Wp E (d + 2) 42 80 [.ref 37, .ref 3, .int v2, .int v3, .int v4, .int v5, .int v6, .int v_9] [.int (Int32.ofInt 0)] M_7 L_8 Q)
          exact wp_zret (by decide +kernel) rfl (by decide) (hK _ _ _ hP)
def P_X6_walk (x2 : Int32) (x3 : Int32) (x4 : Int32) (M : Mem) (L : LMem) (K : Int32 → Mem → LMem → Prop) : Prop := (vp_in x2 8 ∧ ((((M 38 x2.toNatClampNeg) >>> ((Int32.ofInt 4) &&& 31)) ≤ (M 3 1) → PL_X6_walk_45 K 100000 x2 x3 x4 x2 (Int32.ofInt 1) (mput (mput (mput (mput M 37 3 (Int32.ofInt 0)) 37 4 (Int32.ofInt 0)) 37 5 (Int32.ofInt 0)) 40 ((Int32.ofInt 0).toNatClampNeg) x2) L) ∧ (¬ (((M 38 x2.toNatClampNeg) >>> ((Int32.ofInt 4) &&& 31)) ≤ (M 3 1)) → K (Int32.ofInt 0) (mput (mput (mput (mput M 37 3 (Int32.ofInt 0)) 37 4 (Int32.ofInt 0)) 37 5 (Int32.ofInt 0)) 40 ((Int32.ofInt 0).toNatClampNeg) x2) L)))
theorem t_X6_walk {E : VE} {d : Nat} {Q : QQ} {K : Int32 → Mem → LMem → Prop} {x2 : Int32} {x3 : Int32} {x4 : Int32} {M : Mem} {L : LMem} (hP : P_X6_walk x2 x3 x4 M L K) (hK : ∀ (v : Int32) (M : Mem) (L : LMem), K v M L → Q (some (.int v)) M L) : Wp E (d + 2) 42 0 [.ref 37, .ref 3, .int x2, .int x3, .int x4, .null, .null, .null] [] M L Q := by
  unfold P_X6_walk at hP
  refine wp_seg (pc' := 22) [.aload 0, .iconst 0, .putfield 387, .aload 0, .iconst 0, .putfield 388, .aload 0, .iconst 0, .putfield 389, .aload 0, .getfield 386, .iconst 0, .iload 2, .iastore] (by decide +kernel) (show aok 40 0 (Int32.ofInt 0) ∧ Wp E (d + 2) 42 22 [.ref 37, .ref 3, .int x2, .int x3, .int x4, .null, .null, .null] [] (mput (mput (mput (mput M 37 3 (Int32.ofInt 0)) 37 4 (Int32.ofInt 0)) 37 5 (Int32.ofInt 0)) 40 ((Int32.ofInt 0).toNatClampNeg) x2) L Q from ⟨⟨rfl, (vp_lit 0 8 (by decide))⟩, ?_⟩)
  obtain ⟨a_1, hP⟩ := hP
  refine wp_seg (pc' := 28) [.aload 0, .getfield 384, .iload 2, .iaload] (by decide +kernel) (show aok 38 0 x2 ∧ Wp E (d + 2) 42 28 [.ref 37, .ref 3, .int x2, .int x3, .int x4, .null, .null, .null] [.int (M 38 x2.toNatClampNeg)] (mput (mput (mput (mput M 37 3 (Int32.ofInt 0)) 37 4 (Int32.ofInt 0)) 37 5 (Int32.ofInt 0)) 40 ((Int32.ofInt 0).toNatClampNeg) x2) L Q from ⟨⟨rfl, a_1⟩, ?_⟩)
  refine wp_seg (pc' := 34) [.iconst 4, .ishr, .aload 1, .getfield 193] (by decide +kernel) (?_ : Wp E (d + 2) 42 34 [.ref 37, .ref 3, .int x2, .int x3, .int x4, .null, .null, .null] [.int (M 3 1), .int ((M 38 x2.toNatClampNeg) >>> ((Int32.ofInt 4) &&& 31))] (mput (mput (mput (mput M 37 3 (Int32.ofInt 0)) 37 4 (Int32.ofInt 0)) 37 5 (Int32.ofInt 0)) 40 ((Int32.ofInt 0).toNatClampNeg) x2) L Q)
  refine wp_icmple (off := 5) 39 (by decide +kernel) (by decide) (fun c_2 => ?_) (fun c_2 => ?_)
  · have hP := hP.1 c_2
    refine wp_seg (pc' := 45) [.iload 2, .istore 5, .iconst 1, .istore 6] (by decide +kernel) (?_ : Wp E (d + 2) 42 45 [.ref 37, .ref 3, .int x2, .int x3, .int x4, .int x2, .int (Int32.ofInt 1), .null] [] (mput (mput (mput (mput M 37 3 (Int32.ofInt 0)) 37 4 (Int32.ofInt 0)) 37 5 (Int32.ofInt 0)) 40 ((Int32.ofInt 0).toNatClampNeg) x2) L Q)
    exact tl_X6_walk_45 hK 100000 x2 x3 x4 x2 (Int32.ofInt 1) (mput (mput (mput (mput M 37 3 (Int32.ofInt 0)) 37 4 (Int32.ofInt 0)) 37 5 (Int32.ofInt 0)) 40 ((Int32.ofInt 0).toNatClampNeg) x2) L hP
  · have hP := hP.2 c_2
    refine wp_seg (pc' := 38) [.iconst 0] (by decide +kernel) (?_ : Wp E (d + 2) 42 38 [.ref 37, .ref 3, .int x2, .int x3, .int x4, .null, .null, .null] [.int (Int32.ofInt 0)] (mput (mput (mput (mput M 37 3 (Int32.ofInt 0)) 37 4 (Int32.ofInt 0)) 37 5 (Int32.ofInt 0)) 40 ((Int32.ofInt 0).toNatClampNeg) x2) L Q)
    exact wp_zret (by decide +kernel) rfl (by decide) (hK _ _ _ hP)

def P_X6_find (x2 : Int32) (x3 : Int32) (x4 : Int32) (M : Mem) (L : LMem) (K : Int32 → Mem → LMem → Prop) : Prop := P_X6_aim x3 x4 M L (fun M_1 L_2 => P_X6_walk x2 x3 x4 M_1 L_2 (fun v_5 M_3 L_4 => ((v_5 = 0 ∨ v_5 = 1) ∧ K v_5 M_3 L_4)))
theorem t_X6_find {E : VE} {d : Nat} {Q : QQ} {K : Int32 → Mem → LMem → Prop} {x2 : Int32} {x3 : Int32} {x4 : Int32} {M : Mem} {L : LMem} (hP : P_X6_find x2 x3 x4 M L K) (hK : ∀ (v : Int32) (M : Mem) (L : LMem), K v M L → Q (some (.int v)) M L) : Wp E (d + 3) 38 0 [.ref 37, .ref 3, .int x2, .int x3, .int x4] [] M L Q := by
  unfold P_X6_find at hP
  refine wp_seg (pc' := 8) [.aload 0, .aload 1, .getfield 192, .iload 3, .iload 4] (by decide +kernel) (?_ : Wp E (d + 3) 38 8 [.ref 37, .ref 3, .int x2, .int x3, .int x4] [.int x4, .int x3, .ref 4, .ref 37] M L Q)
  refine wp_callV 39 37 [.ref 4, .int x3, .int x4] (i := 27) (by decide +kernel) (by decide +kernel) (by decide +kernel) (by decide +kernel) rfl rfl rfl (rest := []) rfl rfl ?_
  refine t_X6_aim hP (fun M_1 L_2 hP => ?_)
  show Wp E (d + 3) 38 11 [.ref 37, .ref 3, .int x2, .int x3, .int x4] [] M_1 L_2 Q
  refine wp_seg (pc' := 17) [.aload 0, .aload 1, .iload 2, .iload 3, .iload 4] (by decide +kernel) (?_ : Wp E (d + 3) 38 17 [.ref 37, .ref 3, .int x2, .int x3, .int x4] [.int x4, .int x3, .int x2, .ref 3, .ref 37] M_1 L_2 Q)
  refine wp_callV 42 37 [.ref 3, .int x2, .int x3, .int x4] (i := 31) (by decide +kernel) (by decide +kernel) (by decide +kernel) (by decide +kernel) rfl rfl rfl (rest := []) rfl rfl ?_
  refine t_X6_walk hP (fun v_5 M_3 L_4 hP => ?_)
  show Wp E (d + 3) 38 20 [.ref 37, .ref 3, .int x2, .int x3, .int x4] [.int v_5] M_3 L_4 Q
  obtain ⟨a_6, hP⟩ := hP
  exact wp_zret (by decide +kernel) rfl a_6 (hK _ _ _ hP)

def PL_X6_loudness_8 (K : Int32 → Mem → LMem → Prop)  : Nat → Int32 → Int32 → Int32 → Mem → LMem → Prop
  | 0, _, _, _, _, _ => False
  | n_ + 1, v2, v3, v4, M, L => (((M 37 3) < v4 → K (Int32.ofInt (-6)) M L) ∧ (¬ ((M 37 3) < v4) → (vp_in v4 8 ∧ (((M 40 v4.toNatClampNeg) = v2 → K v3 M L) ∧ (¬ ((M 40 v4.toNatClampNeg) = v2) → (((M 37 3) ≤ v4 → PL_X6_loudness_8 K n_ v2 v3 (v4 + Int32.ofInt 1) M L) ∧ (¬ ((M 37 3) ≤ v4) → (vp_in (M 39 v4.toNatClampNeg) 12 ∧ PL_X6_loudness_8 K n_ v2 (v3 - (M 8 ((M 39 v4.toNatClampNeg).toNatClampNeg))) (v4 + Int32.ofInt 1) M L))))))))
theorem tl_X6_loudness_8 {E : VE} {d : Nat} {Q : QQ} {K : Int32 → Mem → LMem → Prop}  (hK : ∀ (v : Int32) (M : Mem) (L : LMem), K v M L → Q (some (.int v)) M L)  : ∀ (n_ : Nat) (v2 : Int32) (v3 : Int32) (v4 : Int32) (M : Mem) (L : LMem), PL_X6_loudness_8 K n_ v2 v3 v4 M L → Wp E d 44 8 [.ref 37, .ref 3, .int v2, .int v3, .int v4] [] M L Q := by
  intro n_
  induction n_ with
  | zero => intro v2 v3 v4 M L hP; exact False.elim hP
  | succ n_ ih =>
    intro v2 v3 v4 M L hP
    unfold PL_X6_loudness_8 at hP
    refine wp_seg (pc' := 14) [.iload 4, .aload 0, .getfield 387] (by decide +kernel) (?_ : Wp E d 44 14 [.ref 37, .ref 3, .int v2, .int v3, .int v4] [.int (M 37 3), .int v4] M L Q)
    refine wp_icmpgt (off := 49) 63 (by decide +kernel) (by decide) (fun c_1 => ?_) (fun c_1 => ?_)
    · have hP := hP.1 c_1
      refine wp_seg (pc' := 65) [.iconst (-6)] (by decide +kernel) (?_ : Wp E d 44 65 [.ref 37, .ref 3, .int v2, .int v3, .int v4] [.int (Int32.ofInt (-6))] M L Q)
      exact wp_iret (by decide +kernel) rfl (hK _ _ _ hP)
    · have hP := hP.2 c_1
      obtain ⟨a_2, hP⟩ := hP
      refine wp_seg (pc' := 24) [.aload 0, .getfield 386, .iload 4, .iaload] (by decide +kernel) (show aok 40 0 v4 ∧ Wp E d 44 24 [.ref 37, .ref 3, .int v2, .int v3, .int v4] [.int (M 40 v4.toNatClampNeg)] M L Q from ⟨⟨rfl, a_2⟩, ?_⟩)
      refine wp_seg (pc' := 25) [.iload 2] (by decide +kernel) (?_ : Wp E d 44 25 [.ref 37, .ref 3, .int v2, .int v3, .int v4] [.int v2, .int (M 40 v4.toNatClampNeg)] M L Q)
      refine wp_icmpne (off := 5) 30 (by decide +kernel) (by decide) (fun c_3 => ?_) (fun c_3 => ?_)
      · have hP := hP.2 c_3
        refine wp_seg (pc' := 36) [.iload 4, .aload 0, .getfield 387] (by decide +kernel) (?_ : Wp E d 44 36 [.ref 37, .ref 3, .int v2, .int v3, .int v4] [.int (M 37 3), .int v4] M L Q)
        refine wp_icmpge (off := 21) 57 (by decide +kernel) (by decide) (fun c_4 => ?_) (fun c_4 => ?_)
        · have hP := hP.1 c_4
          refine wp_seg (pc' := 8) [.iinc 4 1, .goto 0] (by decide +kernel) (?_ : Wp E d 44 8 [.ref 37, .ref 3, .int v2, .int v3, .int (v4 + Int32.ofInt 1)] [] M L Q)
          exact ih v2 v3 (v4 + Int32.ofInt 1) M L hP
        · have hP := hP.2 c_4
          refine wp_seg (pc' := 54) [.iload 3, .aload 1, .getfield 192, .getfield 131, .aload 0, .getfield 385, .iload 4, .iaload] (by decide +kernel) (show aok 39 0 v4 ∧ Wp E d 44 54 [.ref 37, .ref 3, .int v2, .int v3, .int v4] [.int (M 39 v4.toNatClampNeg), .ref 8, .int v3] M L Q from ⟨⟨rfl, a_2⟩, ?_⟩)
          obtain ⟨a_5, hP⟩ := hP
          refine wp_seg (pc' := 55) [.iaload] (by decide +kernel) (show aok 8 0 (M 39 v4.toNatClampNeg) ∧ Wp E d 44 55 [.ref 37, .ref 3, .int v2, .int v3, .int v4] [.int (M 8 ((M 39 v4.toNatClampNeg).toNatClampNeg)), .int v3] M L Q from ⟨⟨rfl, a_5⟩, ?_⟩)
          refine wp_seg (pc' := 8) [.isub, .istore 3, .iinc 4 1, .goto 0] (by decide +kernel) (?_ : Wp E d 44 8 [.ref 37, .ref 3, .int v2, .int (v3 - (M 8 ((M 39 v4.toNatClampNeg).toNatClampNeg))), .int (v4 + Int32.ofInt 1)] [] M L Q)
          exact ih v2 (v3 - (M 8 ((M 39 v4.toNatClampNeg).toNatClampNeg))) (v4 + Int32.ofInt 1) M L hP
      · have hP := hP.1 c_3
        refine wp_seg (pc' := 29) [.iload 3] (by decide +kernel) (?_ : Wp E d 44 29 [.ref 37, .ref 3, .int v2, .int v3, .int v4] [.int v3] M L Q)
        exact wp_iret (by decide +kernel) rfl (hK _ _ _ hP)
def P_X6_loudness (x2 : Int32) (M : Mem) (L : LMem) (K : Int32 → Mem → LMem → Prop) : Prop := PL_X6_loudness_8 K 100000 x2 (M 3 1) (Int32.ofInt 0) M L
theorem t_X6_loudness {E : VE} {d : Nat} {Q : QQ} {K : Int32 → Mem → LMem → Prop} {x2 : Int32} {M : Mem} {L : LMem} (hP : P_X6_loudness x2 M L K) (hK : ∀ (v : Int32) (M : Mem) (L : LMem), K v M L → Q (some (.int v)) M L) : Wp E d 44 0 [.ref 37, .ref 3, .int x2, .null, .null] [] M L Q := by
  unfold P_X6_loudness at hP
  refine wp_seg (pc' := 8) [.aload 1, .getfield 193, .istore 3, .iconst 0, .istore 4] (by decide +kernel) (?_ : Wp E d 44 8 [.ref 37, .ref 3, .int x2, .int (M 3 1), .int (Int32.ofInt 0)] [] M L Q)
  exact tl_X6_loudness_8 hK 100000 x2 (M 3 1) (Int32.ofInt 0) M L hP

def PL_X6_hearers_15 (K : Int32 → Mem → LMem → Prop)  : Nat → Int32 → Int32 → Int32 → Mem → LMem → Prop
  | 0, _, _, _, _, _ => False
  | n_ + 1, v2, v3, v4, M, L => (((M 37 3) ≤ v4 → K v3 M L) ∧ (¬ ((M 37 3) ≤ v4) → ((v4 ≤ 0 → (vp_in v4 8 ∧ (vp_in (M 39 v4.toNatClampNeg) 12 ∧ (((M 7 ((M 39 v4.toNatClampNeg).toNatClampNeg)) = (Int32.ofInt 126) → (vp_in (v4 + (Int32.ofInt 1)) 8 ∧ PL_X6_hearers_15 K n_ v2 (v3 ||| (((Int32.ofInt 1) <<< ((M 40 v4.toNatClampNeg) &&& 31)) ||| ((Int32.ofInt 1) <<< ((M 40 ((v4 + (Int32.ofInt 1)).toNatClampNeg)) &&& 31)))) (v4 + Int32.ofInt 1) M L)) ∧ (¬ ((M 7 ((M 39 v4.toNatClampNeg).toNatClampNeg)) = (Int32.ofInt 126)) → PL_X6_hearers_15 K n_ v2 v3 (v4 + Int32.ofInt 1) M L))))) ∧ (¬ (v4 ≤ 0) → (vp_in v4 8 ∧ ((((v2 >>> ((M 40 v4.toNatClampNeg) &&& 31)) &&& (Int32.ofInt 1)) = 0 → (vp_in (M 39 v4.toNatClampNeg) 12 ∧ (((M 7 ((M 39 v4.toNatClampNeg).toNatClampNeg)) = (Int32.ofInt 126) → (vp_in (v4 + (Int32.ofInt 1)) 8 ∧ PL_X6_hearers_15 K n_ v2 ((v3 ||| ((Int32.ofInt 1) <<< ((M 40 v4.toNatClampNeg) &&& 31))) ||| (((Int32.ofInt 1) <<< ((M 40 v4.toNatClampNeg) &&& 31)) ||| ((Int32.ofInt 1) <<< ((M 40 ((v4 + (Int32.ofInt 1)).toNatClampNeg)) &&& 31)))) (v4 + Int32.ofInt 1) M L)) ∧ (¬ ((M 7 ((M 39 v4.toNatClampNeg).toNatClampNeg)) = (Int32.ofInt 126)) → PL_X6_hearers_15 K n_ v2 (v3 ||| ((Int32.ofInt 1) <<< ((M 40 v4.toNatClampNeg) &&& 31))) (v4 + Int32.ofInt 1) M L)))) ∧ (¬ (((v2 >>> ((M 40 v4.toNatClampNeg) &&& 31)) &&& (Int32.ofInt 1)) = 0) → (vp_in (M 39 v4.toNatClampNeg) 12 ∧ (((M 7 ((M 39 v4.toNatClampNeg).toNatClampNeg)) = (Int32.ofInt 126) → (vp_in (v4 + (Int32.ofInt 1)) 8 ∧ PL_X6_hearers_15 K n_ v2 (v3 ||| (((Int32.ofInt 1) <<< ((M 40 v4.toNatClampNeg) &&& 31)) ||| ((Int32.ofInt 1) <<< ((M 40 ((v4 + (Int32.ofInt 1)).toNatClampNeg)) &&& 31)))) (v4 + Int32.ofInt 1) M L)) ∧ (¬ ((M 7 ((M 39 v4.toNatClampNeg).toNatClampNeg)) = (Int32.ofInt 126)) → PL_X6_hearers_15 K n_ v2 v3 (v4 + Int32.ofInt 1) M L))))))))))
theorem tl_X6_hearers_15 {E : VE} {d : Nat} {Q : QQ} {K : Int32 → Mem → LMem → Prop}  (hK : ∀ (v : Int32) (M : Mem) (L : LMem), K v M L → Q (some (.int v)) M L)  : ∀ (n_ : Nat) (v2 : Int32) (v3 : Int32) (v4 : Int32) (M : Mem) (L : LMem), PL_X6_hearers_15 K n_ v2 v3 v4 M L → Wp E d 45 15 [.ref 37, .ref 4, .int v2, .int v3, .int v4] [] M L Q := by
  intro n_
  induction n_ with
  | zero => intro v2 v3 v4 M L hP; exact False.elim hP
  | succ n_ ih =>
    intro v2 v3 v4 M L hP
    unfold PL_X6_hearers_15 at hP
    refine wp_seg (pc' := 21) [.iload 4, .aload 0, .getfield 387] (by decide +kernel) (?_ : Wp E d 45 21 [.ref 37, .ref 4, .int v2, .int v3, .int v4] [.int (M 37 3), .int v4] M L Q)
    refine wp_icmpge (off := 81) 102 (by decide +kernel) (by decide) (fun c_2 => ?_) (fun c_2 => ?_)
    · have hP := hP.1 c_2
      refine wp_seg (pc' := 103) [.iload 3] (by decide +kernel) (?_ : Wp E d 45 103 [.ref 37, .ref 4, .int v2, .int v3, .int v4] [.int v3] M L Q)
      exact wp_iret (by decide +kernel) rfl (hK _ _ _ hP)
    · have hP := hP.2 c_2
      refine wp_seg (pc' := 26) [.iload 4] (by decide +kernel) (?_ : Wp E d 45 26 [.ref 37, .ref 4, .int v2, .int v3, .int v4] [.int v4] M L Q)
      refine wp_ifle (off := 29) 55 (by decide +kernel) (by decide) (fun c_3 => ?_) (fun c_3 => ?_)
      · have hP := hP.1 c_3
        obtain ⟨a_4, hP⟩ := hP
        refine wp_seg (pc' := 66) [.aload 1, .getfield 130, .aload 0, .getfield 385, .iload 4, .iaload] (by decide +kernel) (show aok 39 0 v4 ∧ Wp E d 45 66 [.ref 37, .ref 4, .int v2, .int v3, .int v4] [.int (M 39 v4.toNatClampNeg), .ref 7] M L Q from ⟨⟨rfl, a_4⟩, ?_⟩)
        obtain ⟨a_5, hP⟩ := hP
        refine wp_seg (pc' := 67) [.iaload] (by decide +kernel) (show aok 7 0 (M 39 v4.toNatClampNeg) ∧ Wp E d 45 67 [.ref 37, .ref 4, .int v2, .int v3, .int v4] [.int (M 7 ((M 39 v4.toNatClampNeg).toNatClampNeg))] M L Q from ⟨⟨rfl, a_5⟩, ?_⟩)
        refine wp_seg (pc' := 69) [.iconst 126] (by decide +kernel) (?_ : Wp E d 45 69 [.ref 37, .ref 4, .int v2, .int v3, .int v4] [.int (Int32.ofInt 126), .int (M 7 ((M 39 v4.toNatClampNeg).toNatClampNeg))] M L Q)
        refine wp_icmpne (off := 27) 96 (by decide +kernel) (by decide) (fun c_6 => ?_) (fun c_6 => ?_)
        · have hP := hP.2 c_6
          refine wp_seg (pc' := 15) [.iinc 4 1, .goto 0] (by decide +kernel) (?_ : Wp E d 45 15 [.ref 37, .ref 4, .int v2, .int v3, .int (v4 + Int32.ofInt 1)] [] M L Q)
          exact ih v2 v3 (v4 + Int32.ofInt 1) M L hP
        · have hP := hP.1 c_6
          refine wp_seg (pc' := 81) [.iload 3, .iconst 1, .aload 0, .getfield 386, .iload 4, .iaload] (by decide +kernel) (show aok 40 0 v4 ∧ Wp E d 45 81 [.ref 37, .ref 4, .int v2, .int v3, .int v4] [.int (M 40 v4.toNatClampNeg), .int (Int32.ofInt 1), .int v3] M L Q from ⟨⟨rfl, a_4⟩, ?_⟩)
          obtain ⟨a_7, hP⟩ := hP
          refine wp_seg (pc' := 92) [.ishl, .iconst 1, .aload 0, .getfield 386, .iload 4, .iconst 1, .iadd, .iaload] (by decide +kernel) (show aok 40 0 (v4 + (Int32.ofInt 1)) ∧ Wp E d 45 92 [.ref 37, .ref 4, .int v2, .int v3, .int v4] [.int (M 40 ((v4 + (Int32.ofInt 1)).toNatClampNeg)), .int (Int32.ofInt 1), .int ((Int32.ofInt 1) <<< ((M 40 v4.toNatClampNeg) &&& 31)), .int v3] M L Q from ⟨⟨rfl, a_7⟩, ?_⟩)
          refine wp_seg (pc' := 15) [.ishl, .ior, .ior, .istore 3, .iinc 4 1, .goto 0] (by decide +kernel) (?_ : Wp E d 45 15 [.ref 37, .ref 4, .int v2, .int (v3 ||| (((Int32.ofInt 1) <<< ((M 40 v4.toNatClampNeg) &&& 31)) ||| ((Int32.ofInt 1) <<< ((M 40 ((v4 + (Int32.ofInt 1)).toNatClampNeg)) &&& 31)))), .int (v4 + Int32.ofInt 1)] [] M L Q)
          exact ih v2 (v3 ||| (((Int32.ofInt 1) <<< ((M 40 v4.toNatClampNeg) &&& 31)) ||| ((Int32.ofInt 1) <<< ((M 40 ((v4 + (Int32.ofInt 1)).toNatClampNeg)) &&& 31)))) (v4 + Int32.ofInt 1) M L hP
      · have hP := hP.2 c_3
        obtain ⟨a_8, hP⟩ := hP
        refine wp_seg (pc' := 37) [.iload 2, .aload 0, .getfield 386, .iload 4, .iaload] (by decide +kernel) (show aok 40 0 v4 ∧ Wp E d 45 37 [.ref 37, .ref 4, .int v2, .int v3, .int v4] [.int (M 40 v4.toNatClampNeg), .int v2] M L Q from ⟨⟨rfl, a_8⟩, ?_⟩)
        refine wp_seg (pc' := 40) [.ishr, .iconst 1, .iand] (by decide +kernel) (?_ : Wp E d 45 40 [.ref 37, .ref 4, .int v2, .int v3, .int v4] [.int ((v2 >>> ((M 40 v4.toNatClampNeg) &&& 31)) &&& (Int32.ofInt 1))] M L Q)
        refine wp_ifne (off := 15) 55 (by decide +kernel) (by decide) (fun c_9 => ?_) (fun c_9 => ?_)
        · have hP := hP.2 c_9
          refine wp_seg (pc' := 66) [.aload 1, .getfield 130, .aload 0, .getfield 385, .iload 4, .iaload] (by decide +kernel) (show aok 39 0 v4 ∧ Wp E d 45 66 [.ref 37, .ref 4, .int v2, .int v3, .int v4] [.int (M 39 v4.toNatClampNeg), .ref 7] M L Q from ⟨⟨rfl, a_8⟩, ?_⟩)
          obtain ⟨a_10, hP⟩ := hP
          refine wp_seg (pc' := 67) [.iaload] (by decide +kernel) (show aok 7 0 (M 39 v4.toNatClampNeg) ∧ Wp E d 45 67 [.ref 37, .ref 4, .int v2, .int v3, .int v4] [.int (M 7 ((M 39 v4.toNatClampNeg).toNatClampNeg))] M L Q from ⟨⟨rfl, a_10⟩, ?_⟩)
          refine wp_seg (pc' := 69) [.iconst 126] (by decide +kernel) (?_ : Wp E d 45 69 [.ref 37, .ref 4, .int v2, .int v3, .int v4] [.int (Int32.ofInt 126), .int (M 7 ((M 39 v4.toNatClampNeg).toNatClampNeg))] M L Q)
          refine wp_icmpne (off := 27) 96 (by decide +kernel) (by decide) (fun c_11 => ?_) (fun c_11 => ?_)
          · have hP := hP.2 c_11
            refine wp_seg (pc' := 15) [.iinc 4 1, .goto 0] (by decide +kernel) (?_ : Wp E d 45 15 [.ref 37, .ref 4, .int v2, .int v3, .int (v4 + Int32.ofInt 1)] [] M L Q)
            exact ih v2 v3 (v4 + Int32.ofInt 1) M L hP
          · have hP := hP.1 c_11
            refine wp_seg (pc' := 81) [.iload 3, .iconst 1, .aload 0, .getfield 386, .iload 4, .iaload] (by decide +kernel) (show aok 40 0 v4 ∧ Wp E d 45 81 [.ref 37, .ref 4, .int v2, .int v3, .int v4] [.int (M 40 v4.toNatClampNeg), .int (Int32.ofInt 1), .int v3] M L Q from ⟨⟨rfl, a_8⟩, ?_⟩)
            obtain ⟨a_12, hP⟩ := hP
            refine wp_seg (pc' := 92) [.ishl, .iconst 1, .aload 0, .getfield 386, .iload 4, .iconst 1, .iadd, .iaload] (by decide +kernel) (show aok 40 0 (v4 + (Int32.ofInt 1)) ∧ Wp E d 45 92 [.ref 37, .ref 4, .int v2, .int v3, .int v4] [.int (M 40 ((v4 + (Int32.ofInt 1)).toNatClampNeg)), .int (Int32.ofInt 1), .int ((Int32.ofInt 1) <<< ((M 40 v4.toNatClampNeg) &&& 31)), .int v3] M L Q from ⟨⟨rfl, a_12⟩, ?_⟩)
            refine wp_seg (pc' := 15) [.ishl, .ior, .ior, .istore 3, .iinc 4 1, .goto 0] (by decide +kernel) (?_ : Wp E d 45 15 [.ref 37, .ref 4, .int v2, .int (v3 ||| (((Int32.ofInt 1) <<< ((M 40 v4.toNatClampNeg) &&& 31)) ||| ((Int32.ofInt 1) <<< ((M 40 ((v4 + (Int32.ofInt 1)).toNatClampNeg)) &&& 31)))), .int (v4 + Int32.ofInt 1)] [] M L Q)
            exact ih v2 (v3 ||| (((Int32.ofInt 1) <<< ((M 40 v4.toNatClampNeg) &&& 31)) ||| ((Int32.ofInt 1) <<< ((M 40 ((v4 + (Int32.ofInt 1)).toNatClampNeg)) &&& 31)))) (v4 + Int32.ofInt 1) M L hP
        · have hP := hP.1 c_9
          refine wp_seg (pc' := 52) [.iload 3, .iconst 1, .aload 0, .getfield 386, .iload 4, .iaload] (by decide +kernel) (show aok 40 0 v4 ∧ Wp E d 45 52 [.ref 37, .ref 4, .int v2, .int v3, .int v4] [.int (M 40 v4.toNatClampNeg), .int (Int32.ofInt 1), .int v3] M L Q from ⟨⟨rfl, a_8⟩, ?_⟩)
          refine wp_seg (pc' := 66) [.ishl, .ior, .istore 3, .aload 1, .getfield 130, .aload 0, .getfield 385, .iload 4, .iaload] (by decide +kernel) (show aok 39 0 v4 ∧ Wp E d 45 66 [.ref 37, .ref 4, .int v2, .int (v3 ||| ((Int32.ofInt 1) <<< ((M 40 v4.toNatClampNeg) &&& 31))), .int v4] [.int (M 39 v4.toNatClampNeg), .ref 7] M L Q from ⟨⟨rfl, a_8⟩, ?_⟩)
          obtain ⟨a_13, hP⟩ := hP
          refine wp_seg (pc' := 67) [.iaload] (by decide +kernel) (show aok 7 0 (M 39 v4.toNatClampNeg) ∧ Wp E d 45 67 [.ref 37, .ref 4, .int v2, .int (v3 ||| ((Int32.ofInt 1) <<< ((M 40 v4.toNatClampNeg) &&& 31))), .int v4] [.int (M 7 ((M 39 v4.toNatClampNeg).toNatClampNeg))] M L Q from ⟨⟨rfl, a_13⟩, ?_⟩)
          refine wp_seg (pc' := 69) [.iconst 126] (by decide +kernel) (?_ : Wp E d 45 69 [.ref 37, .ref 4, .int v2, .int (v3 ||| ((Int32.ofInt 1) <<< ((M 40 v4.toNatClampNeg) &&& 31))), .int v4] [.int (Int32.ofInt 126), .int (M 7 ((M 39 v4.toNatClampNeg).toNatClampNeg))] M L Q)
          refine wp_icmpne (off := 27) 96 (by decide +kernel) (by decide) (fun c_14 => ?_) (fun c_14 => ?_)
          · have hP := hP.2 c_14
            refine wp_seg (pc' := 15) [.iinc 4 1, .goto 0] (by decide +kernel) (?_ : Wp E d 45 15 [.ref 37, .ref 4, .int v2, .int (v3 ||| ((Int32.ofInt 1) <<< ((M 40 v4.toNatClampNeg) &&& 31))), .int (v4 + Int32.ofInt 1)] [] M L Q)
            exact ih v2 (v3 ||| ((Int32.ofInt 1) <<< ((M 40 v4.toNatClampNeg) &&& 31))) (v4 + Int32.ofInt 1) M L hP
          · have hP := hP.1 c_14
            refine wp_seg (pc' := 81) [.iload 3, .iconst 1, .aload 0, .getfield 386, .iload 4, .iaload] (by decide +kernel) (show aok 40 0 v4 ∧ Wp E d 45 81 [.ref 37, .ref 4, .int v2, .int (v3 ||| ((Int32.ofInt 1) <<< ((M 40 v4.toNatClampNeg) &&& 31))), .int v4] [.int (M 40 v4.toNatClampNeg), .int (Int32.ofInt 1), .int (v3 ||| ((Int32.ofInt 1) <<< ((M 40 v4.toNatClampNeg) &&& 31)))] M L Q from ⟨⟨rfl, a_8⟩, ?_⟩)
            obtain ⟨a_15, hP⟩ := hP
            refine wp_seg (pc' := 92) [.ishl, .iconst 1, .aload 0, .getfield 386, .iload 4, .iconst 1, .iadd, .iaload] (by decide +kernel) (show aok 40 0 (v4 + (Int32.ofInt 1)) ∧ Wp E d 45 92 [.ref 37, .ref 4, .int v2, .int (v3 ||| ((Int32.ofInt 1) <<< ((M 40 v4.toNatClampNeg) &&& 31))), .int v4] [.int (M 40 ((v4 + (Int32.ofInt 1)).toNatClampNeg)), .int (Int32.ofInt 1), .int ((Int32.ofInt 1) <<< ((M 40 v4.toNatClampNeg) &&& 31)), .int (v3 ||| ((Int32.ofInt 1) <<< ((M 40 v4.toNatClampNeg) &&& 31)))] M L Q from ⟨⟨rfl, a_15⟩, ?_⟩)
            refine wp_seg (pc' := 15) [.ishl, .ior, .ior, .istore 3, .iinc 4 1, .goto 0] (by decide +kernel) (?_ : Wp E d 45 15 [.ref 37, .ref 4, .int v2, .int ((v3 ||| ((Int32.ofInt 1) <<< ((M 40 v4.toNatClampNeg) &&& 31))) ||| (((Int32.ofInt 1) <<< ((M 40 v4.toNatClampNeg) &&& 31)) ||| ((Int32.ofInt 1) <<< ((M 40 ((v4 + (Int32.ofInt 1)).toNatClampNeg)) &&& 31)))), .int (v4 + Int32.ofInt 1)] [] M L Q)
            exact ih v2 ((v3 ||| ((Int32.ofInt 1) <<< ((M 40 v4.toNatClampNeg) &&& 31))) ||| (((Int32.ofInt 1) <<< ((M 40 v4.toNatClampNeg) &&& 31)) ||| ((Int32.ofInt 1) <<< ((M 40 ((v4 + (Int32.ofInt 1)).toNatClampNeg)) &&& 31)))) (v4 + Int32.ofInt 1) M L hP
def P_X6_hearers (x2 : Int32) (M : Mem) (L : LMem) (K : Int32 → Mem → LMem → Prop) : Prop := (vp_in (M 37 3) 8 ∧ PL_X6_hearers_15 K 100000 x2 ((Int32.ofInt 1) <<< ((M 40 ((M 37 3).toNatClampNeg)) &&& 31)) (Int32.ofInt 0) M L)
theorem t_X6_hearers {E : VE} {d : Nat} {Q : QQ} {K : Int32 → Mem → LMem → Prop} {x2 : Int32} {M : Mem} {L : LMem} (hP : P_X6_hearers x2 M L K) (hK : ∀ (v : Int32) (M : Mem) (L : LMem), K v M L → Q (some (.int v)) M L) : Wp E d 45 0 [.ref 37, .ref 4, .int x2, .null, .null] [] M L Q := by
  unfold P_X6_hearers at hP
  obtain ⟨a_1, hP⟩ := hP
  refine wp_seg (pc' := 10) [.iconst 1, .aload 0, .getfield 386, .aload 0, .getfield 387, .iaload] (by decide +kernel) (show aok 40 0 (M 37 3) ∧ Wp E d 45 10 [.ref 37, .ref 4, .int x2, .null, .null] [.int (M 40 ((M 37 3).toNatClampNeg)), .int (Int32.ofInt 1)] M L Q from ⟨⟨rfl, a_1⟩, ?_⟩)
  refine wp_seg (pc' := 15) [.ishl, .istore 3, .iconst 0, .istore 4] (by decide +kernel) (?_ : Wp E d 45 15 [.ref 37, .ref 4, .int x2, .int ((Int32.ofInt 1) <<< ((M 40 ((M 37 3).toNatClampNeg)) &&& 31)), .int (Int32.ofInt 0)] [] M L Q)
  exact tl_X6_hearers_15 hK 100000 x2 ((Int32.ofInt 1) <<< ((M 40 ((M 37 3).toNatClampNeg)) &&& 31)) (Int32.ofInt 0) M L hP
end
section
def PL_X0_goingOn_4 (K : Int32 → Mem → LMem → Prop)  : Nat → Int32 → Int32 → Mem → LMem → Prop
  | 0, _, _, _, _ => False
  | n_ + 1, v1, v2, M, L => (((M 41 7) ≤ v2 → K v1 M L) ∧ (¬ ((M 41 7) ≤ v2) → (vp_in v2 20 ∧ (((M 47 v2.toNatClampNeg) = 0 → PL_X0_goingOn_4 K n_ (v1 + Int32.ofInt 1) (v2 + Int32.ofInt 1) M L) ∧ (¬ ((M 47 v2.toNatClampNeg) = 0) → PL_X0_goingOn_4 K n_ v1 (v2 + Int32.ofInt 1) M L)))))
theorem tl_X0_goingOn_4 {E : VE} {d : Nat} {Q : QQ} {K : Int32 → Mem → LMem → Prop}  (hK : ∀ (v : Int32) (M : Mem) (L : LMem), K v M L → Q (some (.int v)) M L)  : ∀ (n_ : Nat) (v1 : Int32) (v2 : Int32) (M : Mem) (L : LMem), PL_X0_goingOn_4 K n_ v1 v2 M L → Wp E d 3 4 [.ref 41, .int v1, .int v2] [] M L Q := by
  intro n_
  induction n_ with
  | zero => intro v1 v2 M L hP; exact False.elim hP
  | succ n_ ih =>
    intro v1 v2 M L hP
    unfold PL_X0_goingOn_4 at hP
    refine wp_seg (pc' := 9) [.iload 2, .aload 0, .getfield 7] (by decide +kernel) (?_ : Wp E d 3 9 [.ref 41, .int v1, .int v2] [.int (M 41 7), .int v2] M L Q)
    refine wp_icmpge (off := 21) 30 (by decide +kernel) (by decide) (fun c_1 => ?_) (fun c_1 => ?_)
    · have hP := hP.1 c_1
      refine wp_seg (pc' := 31) [.iload 1] (by decide +kernel) (?_ : Wp E d 3 31 [.ref 41, .int v1, .int v2] [.int v1] M L Q)
      exact wp_iret (by decide +kernel) rfl (hK _ _ _ hP)
    · have hP := hP.2 c_1
      obtain ⟨a_2, hP⟩ := hP
      refine wp_seg (pc' := 18) [.aload 0, .getfield 5, .iload 2, .baload] (by decide +kernel) (show (aok 47 1 v2 ∨ aok 47 3 v2) ∧ Wp E d 3 18 [.ref 41, .int v1, .int v2] [.int (M 47 v2.toNatClampNeg)] M L Q from ⟨Or.inl ⟨rfl, a_2⟩, ?_⟩)
      refine wp_ifne (off := 6) 24 (by decide +kernel) (by decide) (fun c_3 => ?_) (fun c_3 => ?_)
      · have hP := hP.2 c_3
        refine wp_seg (pc' := 4) [.iinc 2 1, .goto 0] (by decide +kernel) (?_ : Wp E d 3 4 [.ref 41, .int v1, .int (v2 + Int32.ofInt 1)] [] M L Q)
        exact ih v1 (v2 + Int32.ofInt 1) M L hP
      · have hP := hP.1 c_3
        refine wp_seg (pc' := 4) [.iinc 1 1, .iinc 2 1, .goto 0] (by decide +kernel) (?_ : Wp E d 3 4 [.ref 41, .int (v1 + Int32.ofInt 1), .int (v2 + Int32.ofInt 1)] [] M L Q)
        exact ih (v1 + Int32.ofInt 1) (v2 + Int32.ofInt 1) M L hP
def P_X0_goingOn (M : Mem) (L : LMem) (K : Int32 → Mem → LMem → Prop) : Prop := PL_X0_goingOn_4 K 100000 (Int32.ofInt 0) (Int32.ofInt 0) M L
theorem t_X0_goingOn {E : VE} {d : Nat} {Q : QQ} {K : Int32 → Mem → LMem → Prop} {M : Mem} {L : LMem} (hP : P_X0_goingOn M L K) (hK : ∀ (v : Int32) (M : Mem) (L : LMem), K v M L → Q (some (.int v)) M L) : Wp E d 3 0 [.ref 41, .null, .null] [] M L Q := by
  unfold P_X0_goingOn at hP
  refine wp_seg (pc' := 4) [.iconst 0, .istore 1, .iconst 0, .istore 2] (by decide +kernel) (?_ : Wp E d 3 4 [.ref 41, .int (Int32.ofInt 0), .int (Int32.ofInt 0)] [] M L Q)
  exact tl_X0_goingOn_4 hK 100000 (Int32.ofInt 0) (Int32.ofInt 0) M L hP

def PL_X0_endCalls_41 (K : Mem → LMem → Prop) (C_2 : Int32 → Mem → LMem → Prop) : Nat → Int32 → Int32 → Mem → LMem → Prop
  | 0, _, _, _, _ => False
  | n_ + 1, v1, v2, M, L => (((Int32.ofInt 8) ≤ v2 → C_2 (v1 + Int32.ofInt 1) M L) ∧ (¬ ((Int32.ofInt 8) ≤ v2) → (vp_in v1 20 ∧ (((((M 45 v1.toNatClampNeg) >>> (v2 &&& 31)) &&& (Int32.ofInt 1)) = 0 → PL_X0_endCalls_41 K C_2 n_ v1 (v2 + Int32.ofInt 1) M L) ∧ (¬ ((((M 45 v1.toNatClampNeg) >>> (v2 &&& 31)) &&& (Int32.ofInt 1)) = 0) → (vp_in v2 8 ∧ PL_X0_endCalls_41 K C_2 n_ v1 (v2 + Int32.ofInt 1) (mput M 48 v2.toNatClampNeg ((M 48 v2.toNatClampNeg) ||| (M 46 v1.toNatClampNeg))) L))))))
theorem tl_X0_endCalls_41 {E : VE} {d : Nat} {Q : QQ} {K : Mem → LMem → Prop} {C_2 : Int32 → Mem → LMem → Prop} (hK : ∀ (M : Mem) (L : LMem), K M L → Q none M L) (hC_2 : ∀ (v1 : Int32) (M : Mem) (L : LMem), C_2 v1 M L → Wp E d 4 2 [.ref 41, .int v1, .null] [] M L Q) : ∀ (n_ : Nat) (v1 : Int32) (v2 : Int32) (M : Mem) (L : LMem), PL_X0_endCalls_41 K C_2 n_ v1 v2 M L → Wp E d 4 41 [.ref 41, .int v1, .int v2] [] M L Q := by
  intro n_
  induction n_ with
  | zero => intro v1 v2 M L hP; exact False.elim hP
  | succ n_ ih =>
    intro v1 v2 M L hP
    unfold PL_X0_endCalls_41 at hP
    refine wp_seg (pc' := 44) [.iload 2, .iconst 8] (by decide +kernel) (?_ : Wp E d 4 44 [.ref 41, .int v1, .int v2] [.int (Int32.ofInt 8), .int v2] M L Q)
    refine wp_icmpge (off := 37) 81 (by decide +kernel) (by decide) (fun c_5 => ?_) (fun c_5 => ?_)
    · have hP := hP.1 c_5
      refine wp_seg (pc' := 2) [.iinc 1 1, .goto 0] (by decide +kernel) (?_ : Wp E d 4 2 [.ref 41, .int (v1 + Int32.ofInt 1), .int v2] [] M L Q)
      refine wp_drop (lo := [.ref 41, .int (v1 + Int32.ofInt 1), .null]) ⟨Or.inr rfl, Or.inr rfl, Or.inl rfl, trivial⟩ ?_
      exact hC_2 (v1 + Int32.ofInt 1) M L hP
    · have hP := hP.2 c_5
      obtain ⟨a_6, hP⟩ := hP
      refine wp_seg (pc' := 53) [.aload 0, .getfield 3, .iload 1, .iaload] (by decide +kernel) (show aok 45 0 v1 ∧ Wp E d 4 53 [.ref 41, .int v1, .int v2] [.int (M 45 v1.toNatClampNeg)] M L Q from ⟨⟨rfl, a_6⟩, ?_⟩)
      refine wp_seg (pc' := 57) [.iload 2, .ishr, .iconst 1, .iand] (by decide +kernel) (?_ : Wp E d 4 57 [.ref 41, .int v1, .int v2] [.int (((M 45 v1.toNatClampNeg) >>> (v2 &&& 31)) &&& (Int32.ofInt 1))] M L Q)
      refine wp_ifeq (off := 18) 75 (by decide +kernel) (by decide) (fun c_7 => ?_) (fun c_7 => ?_)
      · have hP := hP.1 c_7
        refine wp_seg (pc' := 41) [.iinc 2 1, .goto 0] (by decide +kernel) (?_ : Wp E d 4 41 [.ref 41, .int v1, .int (v2 + Int32.ofInt 1)] [] M L Q)
        exact ih v1 (v2 + Int32.ofInt 1) M L hP
      · have hP := hP.2 c_7
        obtain ⟨a_8, hP⟩ := hP
        refine wp_seg (pc' := 67) [.aload 0, .getfield 6, .iload 2, .dup2, .iaload] (by decide +kernel) (show aok 48 0 v2 ∧ Wp E d 4 67 [.ref 41, .int v1, .int v2] [.int (M 48 v2.toNatClampNeg), .int v2, .ref 48] M L Q from ⟨⟨rfl, a_8⟩, ?_⟩)
        refine wp_seg (pc' := 73) [.aload 0, .getfield 4, .iload 1, .iaload] (by decide +kernel) (show aok 46 0 v1 ∧ Wp E d 4 73 [.ref 41, .int v1, .int v2] [.int (M 46 v1.toNatClampNeg), .int (M 48 v2.toNatClampNeg), .int v2, .ref 48] M L Q from ⟨⟨rfl, a_6⟩, ?_⟩)
        refine wp_seg (pc' := 75) [.ior, .iastore] (by decide +kernel) (show aok 48 0 v2 ∧ Wp E d 4 75 [.ref 41, .int v1, .int v2] [] (mput M 48 v2.toNatClampNeg ((M 48 v2.toNatClampNeg) ||| (M 46 v1.toNatClampNeg))) L Q from ⟨⟨rfl, a_8⟩, ?_⟩)
        refine wp_seg (pc' := 41) [.iinc 2 1, .goto 0] (by decide +kernel) (?_ : Wp E d 4 41 [.ref 41, .int v1, .int (v2 + Int32.ofInt 1)] [] (mput M 48 v2.toNatClampNeg ((M 48 v2.toNatClampNeg) ||| (M 46 v1.toNatClampNeg))) L Q)
        exact ih v1 (v2 + Int32.ofInt 1) (mput M 48 v2.toNatClampNeg ((M 48 v2.toNatClampNeg) ||| (M 46 v1.toNatClampNeg))) L hP
def PL_X0_endCalls_2 (K : Mem → LMem → Prop)  : Nat → Int32 → Mem → LMem → Prop
  | 0, _, _, _ => False
  | n_ + 1, v1, M, L => (((M 41 7) ≤ v1 → K M L) ∧ (¬ ((M 41 7) ≤ v1) → (vp_in v1 20 ∧ (((M 47 v1.toNatClampNeg) = 0 → (((M 41 8) < (M 43 v1.toNatClampNeg) → PL_X0_endCalls_2 K n_ (v1 + Int32.ofInt 1) M L) ∧ (¬ ((M 41 8) < (M 43 v1.toNatClampNeg)) → PL_X0_endCalls_41 K (PL_X0_endCalls_2 K n_) 100000 v1 (Int32.ofInt 0) (mput M 47 v1.toNatClampNeg (vp_nar .boolean (Int32.ofInt 1))) L))) ∧ (¬ ((M 47 v1.toNatClampNeg) = 0) → PL_X0_endCalls_2 K n_ (v1 + Int32.ofInt 1) M L)))))
theorem tl_X0_endCalls_2 {E : VE} {d : Nat} {Q : QQ} {K : Mem → LMem → Prop}  (hK : ∀ (M : Mem) (L : LMem), K M L → Q none M L)  : ∀ (n_ : Nat) (v1 : Int32) (M : Mem) (L : LMem), PL_X0_endCalls_2 K n_ v1 M L → Wp E d 4 2 [.ref 41, .int v1, .null] [] M L Q := by
  intro n_
  induction n_ with
  | zero => intro v1 M L hP; exact False.elim hP
  | succ n_ ih =>
    intro v1 M L hP
    unfold PL_X0_endCalls_2 at hP
    refine wp_seg (pc' := 7) [.iload 1, .aload 0, .getfield 7] (by decide +kernel) (?_ : Wp E d 4 7 [.ref 41, .int v1, .null] [.int (M 41 7), .int v1] M L Q)
    refine wp_icmpge (off := 80) 87 (by decide +kernel) (by decide) (fun c_1 => ?_) (fun c_1 => ?_)
    · have hP := hP.1 c_1
      exact wp_vret (by decide +kernel) rfl (hK _ _ hP)
    · have hP := hP.2 c_1
      obtain ⟨a_2, hP⟩ := hP
      refine wp_seg (pc' := 16) [.aload 0, .getfield 5, .iload 1, .baload] (by decide +kernel) (show (aok 47 1 v1 ∨ aok 47 3 v1) ∧ Wp E d 4 16 [.ref 41, .int v1, .null] [.int (M 47 v1.toNatClampNeg)] M L Q from ⟨Or.inl ⟨rfl, a_2⟩, ?_⟩)
      refine wp_ifne (off := 65) 81 (by decide +kernel) (by decide) (fun c_3 => ?_) (fun c_3 => ?_)
      · have hP := hP.2 c_3
        refine wp_seg (pc' := 2) [.iinc 1 1, .goto 0] (by decide +kernel) (?_ : Wp E d 4 2 [.ref 41, .int (v1 + Int32.ofInt 1), .null] [] M L Q)
        exact ih (v1 + Int32.ofInt 1) M L hP
      · have hP := hP.1 c_3
        refine wp_seg (pc' := 25) [.aload 0, .getfield 1, .iload 1, .iaload] (by decide +kernel) (show aok 43 0 v1 ∧ Wp E d 4 25 [.ref 41, .int v1, .null] [.int (M 43 v1.toNatClampNeg)] M L Q from ⟨⟨rfl, a_2⟩, ?_⟩)
        refine wp_seg (pc' := 29) [.aload 0, .getfield 8] (by decide +kernel) (?_ : Wp E d 4 29 [.ref 41, .int v1, .null] [.int (M 41 8), .int (M 43 v1.toNatClampNeg)] M L Q)
        refine wp_icmpgt (off := 52) 81 (by decide +kernel) (by decide) (fun c_4 => ?_) (fun c_4 => ?_)
        · have hP := hP.1 c_4
          refine wp_seg (pc' := 2) [.iinc 1 1, .goto 0] (by decide +kernel) (?_ : Wp E d 4 2 [.ref 41, .int (v1 + Int32.ofInt 1), .null] [] M L Q)
          exact ih (v1 + Int32.ofInt 1) M L hP
        · have hP := hP.2 c_4
          refine wp_seg (pc' := 39) [.aload 0, .getfield 5, .iload 1, .iconst 1, .bastore] (by decide +kernel) (Or.inl (show aok 47 1 v1 ∧ Wp E d 4 39 [.ref 41, .int v1, .null] [] (mput M 47 v1.toNatClampNeg (vp_nar .boolean (Int32.ofInt 1))) L Q from ⟨⟨rfl, a_2⟩, ?_⟩))
          refine wp_seg (pc' := 41) [.iconst 0, .istore 2] (by decide +kernel) (?_ : Wp E d 4 41 [.ref 41, .int v1, .int (Int32.ofInt 0)] [] (mput M 47 v1.toNatClampNeg (vp_nar .boolean (Int32.ofInt 1))) L Q)
          exact tl_X0_endCalls_41 hK (fun v1 M L hP => ih v1 M L hP) 100000 v1 (Int32.ofInt 0) (mput M 47 v1.toNatClampNeg (vp_nar .boolean (Int32.ofInt 1))) L hP
def P_X0_endCalls (M : Mem) (L : LMem) (K : Mem → LMem → Prop) : Prop := PL_X0_endCalls_2 K 100000 (Int32.ofInt 0) M L
theorem t_X0_endCalls {E : VE} {d : Nat} {Q : QQ} {K : Mem → LMem → Prop} {M : Mem} {L : LMem} (hP : P_X0_endCalls M L K) (hK : ∀ (M : Mem) (L : LMem), K M L → Q none M L) : Wp E d 4 0 [.ref 41, .null, .null] [] M L Q := by
  unfold P_X0_endCalls at hP
  refine wp_seg (pc' := 2) [.iconst 0, .istore 1] (by decide +kernel) (?_ : Wp E d 4 2 [.ref 41, .int (Int32.ofInt 0), .null] [] M L Q)
  exact tl_X0_endCalls_2 hK 100000 (Int32.ofInt 0) M L hP

def PL_X0_whyNot_12 (K : Int32 → Mem → LMem → Prop)  : Nat → Int32 → Int32 → Int32 → Int32 → Int32 → Int32 → Mem → LMem → Prop
  | 0, _, _, _, _, _, _, _, _ => False
  | n_ + 1, v1, v2, v5, v6, v7, v8, M, L => (((M 41 7) ≤ v8 → P_X6_find v1 v2 (Int32.ofInt 0) M L (fun v_4 M_2 L_3 => ((v_4 = 0 → K (Int32.ofInt 1) M_2 L_3) ∧ (¬ (v_4 = 0) → ((((v5 >>> (v1 &&& 31)) &&& (Int32.ofInt 1)) = 0 → ((((v5 >>> (v2 &&& 31)) &&& (Int32.ofInt 1)) = 0 → P_X2_ofKind (Int32.ofInt 61) M_2 L_3 (fun v_10 M_8 L_9 => P_X6_find v1 v2 (f_X9_takenOf M_8 v6 v7 v_10) M_8 L_9 (fun v_13 M_11 L_12 => ((v_13 = 0 → K (Int32.ofInt 4) M_11 L_12) ∧ (¬ (v_13 = 0) → K (Int32.ofInt 0) M_11 L_12))))) ∧ (¬ (((v5 >>> (v2 &&& 31)) &&& (Int32.ofInt 1)) = 0) → K (Int32.ofInt 3) M_2 L_3))) ∧ (¬ (((v5 >>> (v1 &&& 31)) &&& (Int32.ofInt 1)) = 0) → K (Int32.ofInt 2) M_2 L_3)))))) ∧ (¬ ((M 41 7) ≤ v8) → (vp_in v8 20 ∧ (((M 47 v8.toNatClampNeg) = 0 → PL_X0_whyNot_12 K n_ v1 v2 (v5 ||| (M 42 v8.toNatClampNeg)) (v6 ||| (M 44 v8.toNatClampNeg)) (v7 ||| (v6 &&& (M 44 v8.toNatClampNeg))) (v8 + Int32.ofInt 1) M L) ∧ (¬ ((M 47 v8.toNatClampNeg) = 0) → PL_X0_whyNot_12 K n_ v1 v2 v5 v6 v7 (v8 + Int32.ofInt 1) M L)))))
theorem tl_X0_whyNot_12 {E : VE} {d : Nat} {Q : QQ} {K : Int32 → Mem → LMem → Prop}  (hK : ∀ (v : Int32) (M : Mem) (L : LMem), K v M L → Q (some (.int v)) M L)  : ∀ (n_ : Nat) (v1 : Int32) (v2 : Int32) (v5 : Int32) (v6 : Int32) (v7 : Int32) (v8 : Int32) (M : Mem) (L : LMem), PL_X0_whyNot_12 K n_ v1 v2 v5 v6 v7 v8 M L → Wp E (d + 4) 2 12 [.ref 41, .int v1, .int v2, .ref 3, .ref 37, .int v5, .int v6, .int v7, .int v8] [] M L Q := by
  intro n_
  induction n_ with
  | zero => intro v1 v2 v5 v6 v7 v8 M L hP; exact False.elim hP
  | succ n_ ih =>
    intro v1 v2 v5 v6 v7 v8 M L hP
    unfold PL_X0_whyNot_12 at hP
    refine wp_seg (pc' := 18) [.iload 8, .aload 0, .getfield 7] (by decide +kernel) (?_ : Wp E (d + 4) 2 18 [.ref 41, .int v1, .int v2, .ref 3, .ref 37, .int v5, .int v6, .int v7, .int v8] [.int (M 41 7), .int v8] M L Q)
    refine wp_icmpge (off := 58) 76 (by decide +kernel) (by decide) (fun c_1 => ?_) (fun c_1 => ?_)
    · have hP := hP.1 c_1
      refine wp_seg (pc' := 82) [.aload 4, .aload 3, .iload 1, .iload 2, .iconst 0] (by decide +kernel) (?_ : Wp E (d + 4) 2 82 [.ref 41, .int v1, .int v2, .ref 3, .ref 37, .int v5, .int v6, .int v7, .int v8] [.int (Int32.ofInt 0), .int v2, .int v1, .ref 3, .ref 37] M L Q)
      refine wp_callV 38 37 [.ref 3, .int v1, .int v2, .int (Int32.ofInt 0)] (i := 112) (by decide +kernel) (by decide +kernel) (by decide +kernel) (by decide +kernel) rfl rfl rfl (rest := []) rfl rfl ?_
      refine t_X6_find hP (fun v_4 M_2 L_3 hP => ?_)
      show Wp E (d + 4) 2 85 [.ref 41, .int v1, .int v2, .ref 3, .ref 37, .int v5, .int v6, .int v7, .int v8] [.int v_4] M_2 L_3 Q
      refine wp_ifne (off := 5) 90 (by decide +kernel) (by decide) (fun c_5 => ?_) (fun c_5 => ?_)
      · have hP := hP.2 c_5
        refine wp_seg (pc' := 96) [.iload 5, .iload 1, .ishr, .iconst 1, .iand] (by decide +kernel) (?_ : Wp E (d + 4) 2 96 [.ref 41, .int v1, .int v2, .ref 3, .ref 37, .int v5, .int v6, .int v7, .int v8] [.int ((v5 >>> (v1 &&& 31)) &&& (Int32.ofInt 1))] M_2 L_3 Q)
        refine wp_ifeq (off := 5) 101 (by decide +kernel) (by decide) (fun c_6 => ?_) (fun c_6 => ?_)
        · have hP := hP.1 c_6
          refine wp_seg (pc' := 107) [.iload 5, .iload 2, .ishr, .iconst 1, .iand] (by decide +kernel) (?_ : Wp E (d + 4) 2 107 [.ref 41, .int v1, .int v2, .ref 3, .ref 37, .int v5, .int v6, .int v7, .int v8] [.int ((v5 >>> (v2 &&& 31)) &&& (Int32.ofInt 1))] M_2 L_3 Q)
          refine wp_ifeq (off := 5) 112 (by decide +kernel) (by decide) (fun c_7 => ?_) (fun c_7 => ?_)
          · have hP := hP.1 c_7
            refine wp_seg (pc' := 127) [.aload 4, .aload 3, .iload 1, .iload 2, .iload 6, .iload 7, .aload 3, .getfield 192, .iconst 61] (by decide +kernel) (?_ : Wp E (d + 4) 2 127 [.ref 41, .int v1, .int v2, .ref 3, .ref 37, .int v5, .int v6, .int v7, .int v8] [.int (Int32.ofInt 61), .ref 4, .int v7, .int v6, .int v2, .int v1, .ref 3, .ref 37] M_2 L_3 Q)
            refine wp_callV 14 4 [.int (Int32.ofInt 61)] (i := 116) (by decide +kernel) (by decide +kernel) (by decide +kernel) (by decide +kernel) rfl rfl rfl (rest := [.int v7, .int v6, .int v2, .int v1, .ref 3, .ref 37]) rfl rfl ?_
            refine t_X2_ofKind hP (fun v_10 M_8 L_9 hP => ?_)
            show Wp E (d + 4) 2 130 [.ref 41, .int v1, .int v2, .ref 3, .ref 37, .int v5, .int v6, .int v7, .int v8] [.int v_10, .int v7, .int v6, .int v2, .int v1, .ref 3, .ref 37] M_8 L_9 Q
            refine wp_callN 86 [.int v6, .int v7, .int v_10] (i := 121) (by decide +kernel) (by decide +kernel) (by decide +kernel) (by decide +kernel) rfl rfl rfl (rest := [.int v2, .int v1, .ref 3, .ref 37]) rfl rfl ?_
            refine s_X9_takenOf M_8 v6 v7 v_10  ?_
            show Wp E (d + 4) 2 133 [.ref 41, .int v1, .int v2, .ref 3, .ref 37, .int v5, .int v6, .int v7, .int v8] [.int (f_X9_takenOf M_8 v6 v7 v_10), .int v2, .int v1, .ref 3, .ref 37] M_8 L_9 Q
            refine wp_callV 38 37 [.ref 3, .int v1, .int v2, .int (f_X9_takenOf M_8 v6 v7 v_10)] (i := 112) (by decide +kernel) (by decide +kernel) (by decide +kernel) (by decide +kernel) rfl rfl rfl (rest := []) rfl rfl ?_
            refine t_X6_find hP (fun v_13 M_11 L_12 hP => ?_)
            show Wp E (d + 4) 2 136 [.ref 41, .int v1, .int v2, .ref 3, .ref 37, .int v5, .int v6, .int v7, .int v8] [.int v_13] M_11 L_12 Q
            refine wp_ifeq (off := 7) 143 (by decide +kernel) (by decide) (fun c_14 => ?_) (fun c_14 => ?_)
            · have hP := hP.1 c_14
              refine wp_seg (pc' := 144) [.iconst 4] (by decide +kernel) (?_ : Wp E (d + 4) 2 144 [.ref 41, .int v1, .int v2, .ref 3, .ref 37, .int v5, .int v6, .int v7, .int v8] [.int (Int32.ofInt 4)] M_11 L_12 Q)
              exact wp_iret (by decide +kernel) rfl (hK _ _ _ hP)
            · have hP := hP.2 c_14
              refine wp_seg (pc' := 144) [.iconst 0, .goto 0] (by decide +kernel) (?_ : Wp E (d + 4) 2 144 [.ref 41, .int v1, .int v2, .ref 3, .ref 37, .int v5, .int v6, .int v7, .int v8] [.int (Int32.ofInt 0)] M_11 L_12 Q)
              exact wp_iret (by decide +kernel) rfl (hK _ _ _ hP)
          · have hP := hP.2 c_7
            refine wp_seg (pc' := 111) [.iconst 3] (by decide +kernel) (?_ : Wp E (d + 4) 2 111 [.ref 41, .int v1, .int v2, .ref 3, .ref 37, .int v5, .int v6, .int v7, .int v8] [.int (Int32.ofInt 3)] M_2 L_3 Q)
            exact wp_iret (by decide +kernel) rfl (hK _ _ _ hP)
        · have hP := hP.2 c_6
          refine wp_seg (pc' := 100) [.iconst 2] (by decide +kernel) (?_ : Wp E (d + 4) 2 100 [.ref 41, .int v1, .int v2, .ref 3, .ref 37, .int v5, .int v6, .int v7, .int v8] [.int (Int32.ofInt 2)] M_2 L_3 Q)
          exact wp_iret (by decide +kernel) rfl (hK _ _ _ hP)
      · have hP := hP.1 c_5
        refine wp_seg (pc' := 89) [.iconst 1] (by decide +kernel) (?_ : Wp E (d + 4) 2 89 [.ref 41, .int v1, .int v2, .ref 3, .ref 37, .int v5, .int v6, .int v7, .int v8] [.int (Int32.ofInt 1)] M_2 L_3 Q)
        exact wp_iret (by decide +kernel) rfl (hK _ _ _ hP)
    · have hP := hP.2 c_1
      obtain ⟨a_15, hP⟩ := hP
      refine wp_seg (pc' := 28) [.aload 0, .getfield 5, .iload 8, .baload] (by decide +kernel) (show (aok 47 1 v8 ∨ aok 47 3 v8) ∧ Wp E (d + 4) 2 28 [.ref 41, .int v1, .int v2, .ref 3, .ref 37, .int v5, .int v6, .int v7, .int v8] [.int (M 47 v8.toNatClampNeg)] M L Q from ⟨Or.inl ⟨rfl, a_15⟩, ?_⟩)
      refine wp_ifne (off := 42) 70 (by decide +kernel) (by decide) (fun c_16 => ?_) (fun c_16 => ?_)
      · have hP := hP.2 c_16
        refine wp_seg (pc' := 12) [.iinc 8 1, .goto 0] (by decide +kernel) (?_ : Wp E (d + 4) 2 12 [.ref 41, .int v1, .int v2, .ref 3, .ref 37, .int v5, .int v6, .int v7, .int (v8 + Int32.ofInt 1)] [] M L Q)
        exact ih v1 v2 v5 v6 v7 (v8 + Int32.ofInt 1) M L hP
      · have hP := hP.1 c_16
        refine wp_seg (pc' := 40) [.iload 5, .aload 0, .getfield 0, .iload 8, .iaload] (by decide +kernel) (show aok 42 0 v8 ∧ Wp E (d + 4) 2 40 [.ref 41, .int v1, .int v2, .ref 3, .ref 37, .int v5, .int v6, .int v7, .int v8] [.int (M 42 v8.toNatClampNeg), .int v5] M L Q from ⟨⟨rfl, a_15⟩, ?_⟩)
        refine wp_seg (pc' := 54) [.ior, .istore 5, .iload 7, .iload 6, .aload 0, .getfield 2, .iload 8, .iaload] (by decide +kernel) (show aok 44 0 v8 ∧ Wp E (d + 4) 2 54 [.ref 41, .int v1, .int v2, .ref 3, .ref 37, .int (v5 ||| (M 42 v8.toNatClampNeg)), .int v6, .int v7, .int v8] [.int (M 44 v8.toNatClampNeg), .int v6, .int v7] M L Q from ⟨⟨rfl, a_15⟩, ?_⟩)
        refine wp_seg (pc' := 67) [.iand, .ior, .istore 7, .iload 6, .aload 0, .getfield 2, .iload 8, .iaload] (by decide +kernel) (show aok 44 0 v8 ∧ Wp E (d + 4) 2 67 [.ref 41, .int v1, .int v2, .ref 3, .ref 37, .int (v5 ||| (M 42 v8.toNatClampNeg)), .int v6, .int (v7 ||| (v6 &&& (M 44 v8.toNatClampNeg))), .int v8] [.int (M 44 v8.toNatClampNeg), .int v6] M L Q from ⟨⟨rfl, a_15⟩, ?_⟩)
        refine wp_seg (pc' := 12) [.ior, .istore 6, .iinc 8 1, .goto 0] (by decide +kernel) (?_ : Wp E (d + 4) 2 12 [.ref 41, .int v1, .int v2, .ref 3, .ref 37, .int (v5 ||| (M 42 v8.toNatClampNeg)), .int (v6 ||| (M 44 v8.toNatClampNeg)), .int (v7 ||| (v6 &&& (M 44 v8.toNatClampNeg))), .int (v8 + Int32.ofInt 1)] [] M L Q)
        exact ih v1 v2 (v5 ||| (M 42 v8.toNatClampNeg)) (v6 ||| (M 44 v8.toNatClampNeg)) (v7 ||| (v6 &&& (M 44 v8.toNatClampNeg))) (v8 + Int32.ofInt 1) M L hP
def P_X0_whyNot (x1 : Int32) (x2 : Int32) (M : Mem) (L : LMem) (K : Int32 → Mem → LMem → Prop) : Prop := PL_X0_whyNot_12 K 100000 x1 x2 (Int32.ofInt 0) (Int32.ofInt 0) (Int32.ofInt 0) (Int32.ofInt 0) M L
theorem t_X0_whyNot {E : VE} {d : Nat} {Q : QQ} {K : Int32 → Mem → LMem → Prop} {x1 : Int32} {x2 : Int32} {M : Mem} {L : LMem} (hP : P_X0_whyNot x1 x2 M L K) (hK : ∀ (v : Int32) (M : Mem) (L : LMem), K v M L → Q (some (.int v)) M L) : Wp E (d + 4) 2 0 [.ref 41, .int x1, .int x2, .ref 3, .ref 37, .null, .null, .null, .null] [] M L Q := by
  unfold P_X0_whyNot at hP
  refine wp_seg (pc' := 12) [.iconst 0, .istore 5, .iconst 0, .istore 6, .iconst 0, .istore 7, .iconst 0, .istore 8] (by decide +kernel) (?_ : Wp E (d + 4) 2 12 [.ref 41, .int x1, .int x2, .ref 3, .ref 37, .int (Int32.ofInt 0), .int (Int32.ofInt 0), .int (Int32.ofInt 0), .int (Int32.ofInt 0)] [] M L Q)
  exact tl_X0_whyNot_12 hK 100000 x1 x2 (Int32.ofInt 0) (Int32.ofInt 0) (Int32.ofInt 0) (Int32.ofInt 0) M L hP

def P_X0_beginCall (x1 : Int32) (x2 : Int32) (x3 : Int32) (x5 : Int32) (M : Mem) (L : LMem) (K : Mem → LMem → Prop) : Prop := (((M 41 7) < (Int32.ofInt 20) → (vp_in (M 41 7) 20 ∧ (vp_in x1 8 ∧ P_X0_goingOn (mput (mput (mput (mput (mput (mput (mput (mput (mput M 42 ((M 41 7).toNatClampNeg) (((Int32.ofInt 1) <<< (x1 &&& 31)) ||| ((Int32.ofInt 1) <<< (x2 &&& 31)))) 43 ((M 41 7).toNatClampNeg) ((M 41 8) + x3)) 44 ((M 41 7).toNatClampNeg) (M 37 5)) 45 ((M 41 7).toNatClampNeg) (x5 ||| ((mput M 42 ((M 41 7).toNatClampNeg) (((Int32.ofInt 1) <<< (x1 &&& 31)) ||| ((Int32.ofInt 1) <<< (x2 &&& 31)))) 42 ((M 41 7).toNatClampNeg)))) 46 ((M 41 7).toNatClampNeg) (M 48 x1.toNatClampNeg)) 47 ((M 41 7).toNatClampNeg) (vp_nar .boolean (Int32.ofInt 0))) 41 9 (if (M 41 9) < ((mput (mput M 42 ((M 41 7).toNatClampNeg) (((Int32.ofInt 1) <<< (x1 &&& 31)) ||| ((Int32.ofInt 1) <<< (x2 &&& 31)))) 43 ((M 41 7).toNatClampNeg) ((M 41 8) + x3)) 43 ((M 41 7).toNatClampNeg)) then ((mput (mput M 42 ((M 41 7).toNatClampNeg) (((Int32.ofInt 1) <<< (x1 &&& 31)) ||| ((Int32.ofInt 1) <<< (x2 &&& 31)))) 43 ((M 41 7).toNatClampNeg) ((M 41 8) + x3)) 43 ((M 41 7).toNatClampNeg)) else (M 41 9))) 41 11 ((M 41 11) ||| (M 37 5))) 41 7 ((M 41 7) + (Int32.ofInt 1))) L (fun v_6 M_4 L_5 => K (mput M_4 41 10 (if (M 41 10) < v_6 then v_6 else (M 41 10))) L_5)))) ∧ (¬ ((M 41 7) < (Int32.ofInt 20)) → K M L))
theorem t_X0_beginCall {E : VE} {d : Nat} {Q : QQ} {K : Mem → LMem → Prop} {x1 : Int32} {x2 : Int32} {x3 : Int32} {x5 : Int32} {M : Mem} {L : LMem} (hP : P_X0_beginCall x1 x2 x3 x5 M L K) (hK : ∀ (M : Mem) (L : LMem), K M L → Q none M L) : Wp E (d + 1) 1 0 [.ref 41, .int x1, .int x2, .int x3, .ref 37, .int x5] [] M L Q := by
  unfold P_X0_beginCall at hP
  refine wp_seg (pc' := 6) [.aload 0, .getfield 7, .iconst 20] (by decide +kernel) (?_ : Wp E (d + 1) 1 6 [.ref 41, .int x1, .int x2, .int x3, .ref 37, .int x5] [.int (Int32.ofInt 20), .int (M 41 7)] M L Q)
  refine wp_icmplt (off := 4) 10 (by decide +kernel) (by decide) (fun c_1 => ?_) (fun c_1 => ?_)
  · have hP := hP.1 c_1
    obtain ⟨a_2, hP⟩ := hP
    refine wp_seg (pc' := 26) [.aload 0, .getfield 0, .aload 0, .getfield 7, .iconst 1, .iload 1, .ishl, .iconst 1, .iload 2, .ishl, .ior, .iastore] (by decide +kernel) (show aok 42 0 (M 41 7) ∧ Wp E (d + 1) 1 26 [.ref 41, .int x1, .int x2, .int x3, .ref 37, .int x5] [] (mput M 42 ((M 41 7).toNatClampNeg) (((Int32.ofInt 1) <<< (x1 &&& 31)) ||| ((Int32.ofInt 1) <<< (x2 &&& 31)))) L Q from ⟨⟨rfl, a_2⟩, ?_⟩)
    refine wp_seg (pc' := 41) [.aload 0, .getfield 1, .aload 0, .getfield 7, .aload 0, .getfield 8, .iload 3, .iadd, .iastore] (by decide +kernel) (show aok 43 0 (M 41 7) ∧ Wp E (d + 1) 1 41 [.ref 41, .int x1, .int x2, .int x3, .ref 37, .int x5] [] (mput (mput M 42 ((M 41 7).toNatClampNeg) (((Int32.ofInt 1) <<< (x1 &&& 31)) ||| ((Int32.ofInt 1) <<< (x2 &&& 31)))) 43 ((M 41 7).toNatClampNeg) ((M 41 8) + x3)) L Q from ⟨⟨rfl, a_2⟩, ?_⟩)
    refine wp_seg (pc' := 55) [.aload 0, .getfield 2, .aload 0, .getfield 7, .aload 4, .getfield 389, .iastore] (by decide +kernel) (show aok 44 0 (M 41 7) ∧ Wp E (d + 1) 1 55 [.ref 41, .int x1, .int x2, .int x3, .ref 37, .int x5] [] (mput (mput (mput M 42 ((M 41 7).toNatClampNeg) (((Int32.ofInt 1) <<< (x1 &&& 31)) ||| ((Int32.ofInt 1) <<< (x2 &&& 31)))) 43 ((M 41 7).toNatClampNeg) ((M 41 8) + x3)) 44 ((M 41 7).toNatClampNeg) (M 37 5)) L Q from ⟨⟨rfl, a_2⟩, ?_⟩)
    refine wp_seg (pc' := 74) [.aload 0, .getfield 3, .aload 0, .getfield 7, .iload 5, .aload 0, .getfield 0, .aload 0, .getfield 7, .iaload] (by decide +kernel) (show aok 42 0 (M 41 7) ∧ Wp E (d + 1) 1 74 [.ref 41, .int x1, .int x2, .int x3, .ref 37, .int x5] [.int ((mput M 42 ((M 41 7).toNatClampNeg) (((Int32.ofInt 1) <<< (x1 &&& 31)) ||| ((Int32.ofInt 1) <<< (x2 &&& 31)))) 42 ((M 41 7).toNatClampNeg)), .int x5, .int (M 41 7), .ref 45] (mput (mput (mput M 42 ((M 41 7).toNatClampNeg) (((Int32.ofInt 1) <<< (x1 &&& 31)) ||| ((Int32.ofInt 1) <<< (x2 &&& 31)))) 43 ((M 41 7).toNatClampNeg) ((M 41 8) + x3)) 44 ((M 41 7).toNatClampNeg) (M 37 5)) L Q from ⟨⟨rfl, a_2⟩, ?_⟩)
    refine wp_seg (pc' := 76) [.ior, .iastore] (by decide +kernel) (show aok 45 0 (M 41 7) ∧ Wp E (d + 1) 1 76 [.ref 41, .int x1, .int x2, .int x3, .ref 37, .int x5] [] (mput (mput (mput (mput M 42 ((M 41 7).toNatClampNeg) (((Int32.ofInt 1) <<< (x1 &&& 31)) ||| ((Int32.ofInt 1) <<< (x2 &&& 31)))) 43 ((M 41 7).toNatClampNeg) ((M 41 8) + x3)) 44 ((M 41 7).toNatClampNeg) (M 37 5)) 45 ((M 41 7).toNatClampNeg) (x5 ||| ((mput M 42 ((M 41 7).toNatClampNeg) (((Int32.ofInt 1) <<< (x1 &&& 31)) ||| ((Int32.ofInt 1) <<< (x2 &&& 31)))) 42 ((M 41 7).toNatClampNeg)))) L Q from ⟨⟨rfl, a_2⟩, ?_⟩)
    obtain ⟨a_3, hP⟩ := hP
    refine wp_seg (pc' := 90) [.aload 0, .getfield 4, .aload 0, .getfield 7, .aload 0, .getfield 6, .iload 1, .iaload] (by decide +kernel) (show aok 48 0 x1 ∧ Wp E (d + 1) 1 90 [.ref 41, .int x1, .int x2, .int x3, .ref 37, .int x5] [.int (M 48 x1.toNatClampNeg), .int (M 41 7), .ref 46] (mput (mput (mput (mput M 42 ((M 41 7).toNatClampNeg) (((Int32.ofInt 1) <<< (x1 &&& 31)) ||| ((Int32.ofInt 1) <<< (x2 &&& 31)))) 43 ((M 41 7).toNatClampNeg) ((M 41 8) + x3)) 44 ((M 41 7).toNatClampNeg) (M 37 5)) 45 ((M 41 7).toNatClampNeg) (x5 ||| ((mput M 42 ((M 41 7).toNatClampNeg) (((Int32.ofInt 1) <<< (x1 &&& 31)) ||| ((Int32.ofInt 1) <<< (x2 &&& 31)))) 42 ((M 41 7).toNatClampNeg)))) L Q from ⟨⟨rfl, a_3⟩, ?_⟩)
    refine wp_seg (pc' := 91) [.iastore] (by decide +kernel) (show aok 46 0 (M 41 7) ∧ Wp E (d + 1) 1 91 [.ref 41, .int x1, .int x2, .int x3, .ref 37, .int x5] [] (mput (mput (mput (mput (mput M 42 ((M 41 7).toNatClampNeg) (((Int32.ofInt 1) <<< (x1 &&& 31)) ||| ((Int32.ofInt 1) <<< (x2 &&& 31)))) 43 ((M 41 7).toNatClampNeg) ((M 41 8) + x3)) 44 ((M 41 7).toNatClampNeg) (M 37 5)) 45 ((M 41 7).toNatClampNeg) (x5 ||| ((mput M 42 ((M 41 7).toNatClampNeg) (((Int32.ofInt 1) <<< (x1 &&& 31)) ||| ((Int32.ofInt 1) <<< (x2 &&& 31)))) 42 ((M 41 7).toNatClampNeg)))) 46 ((M 41 7).toNatClampNeg) (M 48 x1.toNatClampNeg)) L Q from ⟨⟨rfl, a_2⟩, ?_⟩)
    refine wp_seg (pc' := 101) [.aload 0, .getfield 5, .aload 0, .getfield 7, .iconst 0, .bastore] (by decide +kernel) (Or.inl (show aok 47 1 (M 41 7) ∧ Wp E (d + 1) 1 101 [.ref 41, .int x1, .int x2, .int x3, .ref 37, .int x5] [] (mput (mput (mput (mput (mput (mput M 42 ((M 41 7).toNatClampNeg) (((Int32.ofInt 1) <<< (x1 &&& 31)) ||| ((Int32.ofInt 1) <<< (x2 &&& 31)))) 43 ((M 41 7).toNatClampNeg) ((M 41 8) + x3)) 44 ((M 41 7).toNatClampNeg) (M 37 5)) 45 ((M 41 7).toNatClampNeg) (x5 ||| ((mput M 42 ((M 41 7).toNatClampNeg) (((Int32.ofInt 1) <<< (x1 &&& 31)) ||| ((Int32.ofInt 1) <<< (x2 &&& 31)))) 42 ((M 41 7).toNatClampNeg)))) 46 ((M 41 7).toNatClampNeg) (M 48 x1.toNatClampNeg)) 47 ((M 41 7).toNatClampNeg) (vp_nar .boolean (Int32.ofInt 0))) L Q from ⟨⟨rfl, a_2⟩, ?_⟩))
    refine wp_seg (pc' := 115) [.aload 0, .aload 0, .getfield 9, .aload 0, .getfield 1, .aload 0, .getfield 7, .iaload] (by decide +kernel) (show aok 43 0 (M 41 7) ∧ Wp E (d + 1) 1 115 [.ref 41, .int x1, .int x2, .int x3, .ref 37, .int x5] [.int ((mput (mput M 42 ((M 41 7).toNatClampNeg) (((Int32.ofInt 1) <<< (x1 &&& 31)) ||| ((Int32.ofInt 1) <<< (x2 &&& 31)))) 43 ((M 41 7).toNatClampNeg) ((M 41 8) + x3)) 43 ((M 41 7).toNatClampNeg)), .int (M 41 9), .ref 41] (mput (mput (mput (mput (mput (mput M 42 ((M 41 7).toNatClampNeg) (((Int32.ofInt 1) <<< (x1 &&& 31)) ||| ((Int32.ofInt 1) <<< (x2 &&& 31)))) 43 ((M 41 7).toNatClampNeg) ((M 41 8) + x3)) 44 ((M 41 7).toNatClampNeg) (M 37 5)) 45 ((M 41 7).toNatClampNeg) (x5 ||| ((mput M 42 ((M 41 7).toNatClampNeg) (((Int32.ofInt 1) <<< (x1 &&& 31)) ||| ((Int32.ofInt 1) <<< (x2 &&& 31)))) 42 ((M 41 7).toNatClampNeg)))) 46 ((M 41 7).toNatClampNeg) (M 48 x1.toNatClampNeg)) 47 ((M 41 7).toNatClampNeg) (vp_nar .boolean (Int32.ofInt 0))) L Q from ⟨⟨rfl, a_2⟩, ?_⟩)
    refine wp_seg (pc' := 118) [.invokestatic 0] (by decide +kernel) (?_ : Wp E (d + 1) 1 118 [.ref 41, .int x1, .int x2, .int x3, .ref 37, .int x5] [.int (if (M 41 9) < ((mput (mput M 42 ((M 41 7).toNatClampNeg) (((Int32.ofInt 1) <<< (x1 &&& 31)) ||| ((Int32.ofInt 1) <<< (x2 &&& 31)))) 43 ((M 41 7).toNatClampNeg) ((M 41 8) + x3)) 43 ((M 41 7).toNatClampNeg)) then ((mput (mput M 42 ((M 41 7).toNatClampNeg) (((Int32.ofInt 1) <<< (x1 &&& 31)) ||| ((Int32.ofInt 1) <<< (x2 &&& 31)))) 43 ((M 41 7).toNatClampNeg) ((M 41 8) + x3)) 43 ((M 41 7).toNatClampNeg)) else (M 41 9)), .ref 41] (mput (mput (mput (mput (mput (mput M 42 ((M 41 7).toNatClampNeg) (((Int32.ofInt 1) <<< (x1 &&& 31)) ||| ((Int32.ofInt 1) <<< (x2 &&& 31)))) 43 ((M 41 7).toNatClampNeg) ((M 41 8) + x3)) 44 ((M 41 7).toNatClampNeg) (M 37 5)) 45 ((M 41 7).toNatClampNeg) (x5 ||| ((mput M 42 ((M 41 7).toNatClampNeg) (((Int32.ofInt 1) <<< (x1 &&& 31)) ||| ((Int32.ofInt 1) <<< (x2 &&& 31)))) 42 ((M 41 7).toNatClampNeg)))) 46 ((M 41 7).toNatClampNeg) (M 48 x1.toNatClampNeg)) 47 ((M 41 7).toNatClampNeg) (vp_nar .boolean (Int32.ofInt 0))) L Q)
    refine wp_seg (pc' := 151) [.putfield 9, .aload 0, .dup, .getfield 11, .aload 4, .getfield 389, .ior, .putfield 11, .aload 0, .dup, .getfield 7, .iconst 1, .iadd, .putfield 7, .aload 0, .aload 0, .getfield 10, .aload 0] (by decide +kernel) (?_ : Wp E (d + 1) 1 151 [.ref 41, .int x1, .int x2, .int x3, .ref 37, .int x5] [.ref 41, .int (M 41 10), .ref 41] (mput (mput (mput (mput (mput (mput (mput (mput (mput M 42 ((M 41 7).toNatClampNeg) (((Int32.ofInt 1) <<< (x1 &&& 31)) ||| ((Int32.ofInt 1) <<< (x2 &&& 31)))) 43 ((M 41 7).toNatClampNeg) ((M 41 8) + x3)) 44 ((M 41 7).toNatClampNeg) (M 37 5)) 45 ((M 41 7).toNatClampNeg) (x5 ||| ((mput M 42 ((M 41 7).toNatClampNeg) (((Int32.ofInt 1) <<< (x1 &&& 31)) ||| ((Int32.ofInt 1) <<< (x2 &&& 31)))) 42 ((M 41 7).toNatClampNeg)))) 46 ((M 41 7).toNatClampNeg) (M 48 x1.toNatClampNeg)) 47 ((M 41 7).toNatClampNeg) (vp_nar .boolean (Int32.ofInt 0))) 41 9 (if (M 41 9) < ((mput (mput M 42 ((M 41 7).toNatClampNeg) (((Int32.ofInt 1) <<< (x1 &&& 31)) ||| ((Int32.ofInt 1) <<< (x2 &&& 31)))) 43 ((M 41 7).toNatClampNeg) ((M 41 8) + x3)) 43 ((M 41 7).toNatClampNeg)) then ((mput (mput M 42 ((M 41 7).toNatClampNeg) (((Int32.ofInt 1) <<< (x1 &&& 31)) ||| ((Int32.ofInt 1) <<< (x2 &&& 31)))) 43 ((M 41 7).toNatClampNeg) ((M 41 8) + x3)) 43 ((M 41 7).toNatClampNeg)) else (M 41 9))) 41 11 ((M 41 11) ||| (M 37 5))) 41 7 ((M 41 7) + (Int32.ofInt 1))) L Q)
    refine wp_callV 3 41 [] (i := 108) (by decide +kernel) (by decide +kernel) (by decide +kernel) (by decide +kernel) rfl rfl rfl (rest := [.int (M 41 10), .ref 41]) rfl rfl ?_
    refine t_X0_goingOn hP (fun v_6 M_4 L_5 hP => ?_)
    show Wp E (d + 1) 1 154 [.ref 41, .int x1, .int x2, .int x3, .ref 37, .int x5] [.int v_6, .int (M 41 10), .ref 41] M_4 L_5 Q
    refine wp_seg (pc' := 157) [.invokestatic 0] (by decide +kernel) (?_ : Wp E (d + 1) 1 157 [.ref 41, .int x1, .int x2, .int x3, .ref 37, .int x5] [.int (if (M 41 10) < v_6 then v_6 else (M 41 10)), .ref 41] M_4 L_5 Q)
    refine wp_seg (pc' := 160) [.putfield 10] (by decide +kernel) (?_ : Wp E (d + 1) 1 160 [.ref 41, .int x1, .int x2, .int x3, .ref 37, .int x5] [] (mput M_4 41 10 (if (M 41 10) < v_6 then v_6 else (M 41 10))) L_5 Q)
    exact wp_vret (by decide +kernel) rfl (hK _ _ hP)
  · have hP := hP.2 c_1
    exact wp_vret (by decide +kernel) rfl (hK _ _ hP)

def PL_X0_run_51 (K : Mem → LMem → Prop)  : Nat → Int32 → Int32 → Int32 → Mem → LMem → Prop
  | 0, _, _, _, _, _ => False
  | n_ + 1, v4, v5, v6, M, L => (((Int32.ofInt 20) ≤ v6 → P_X0_endCalls (mput M 41 8 (if (M 41 8) < (M 41 9) then (M 41 9) else (M 41 8))) L (fun M_2 L_3 => K M_2 L_3)) ∧ (¬ ((Int32.ofInt 20) ≤ v6) → (((M 1 1) ≤ v5 → P_X0_endCalls (mput M 41 8 (if (M 41 8) < (M 41 9) then (M 41 9) else (M 41 8))) L (fun M_5 L_6 => K M_5 L_6)) ∧ (¬ ((M 1 1) ≤ v5) → (((M 41 12) = 0 → (((f_X5_signAt M v5) = (Int32.ofInt 46) → P_X0_endCalls (mput M 41 8 ((M 41 8) + (f_X5_numberOf M (v5 + (Int32.ofInt 1))))) L (fun M_20 L_21 => PL_X0_run_51 K n_ v4 (v5 + Int32.ofInt 2) (v6 + Int32.ofInt 1) M_20 L_21)) ∧ (¬ ((f_X5_signAt M v5) = (Int32.ofInt 46)) → P_X0_whyNot (f_X5_roomOf M v5) (f_X5_roomOf M (v5 + (Int32.ofInt 1))) M L (fun v_13 M_11 L_12 => ((v_13 = 0 → P_X6_hearers v4 (mput M_11 41 12 v_13) L_12 (fun v_17 M_15 L_16 => P_X0_beginCall (f_X5_roomOf M v5) (f_X5_roomOf M (v5 + (Int32.ofInt 1))) (f_X5_numberOf (mput M_11 41 12 v_13) (v5 + (Int32.ofInt 2))) v_17 M_15 L_16 (fun M_18 L_19 => PL_X0_run_51 K n_ v4 (v5 + Int32.ofInt 3) (v6 + Int32.ofInt 1) M_18 L_19))) ∧ (¬ (v_13 = 0) → PL_X0_run_51 K n_ v4 (v5 + Int32.ofInt 3) (v6 + Int32.ofInt 1) (mput M_11 41 12 v_13) L_12)))))) ∧ (¬ ((M 41 12) = 0) → P_X0_endCalls (mput M 41 8 (if (M 41 8) < (M 41 9) then (M 41 9) else (M 41 8))) L (fun M_8 L_9 => K M_8 L_9)))))))
theorem tl_X0_run_51 {E : VE} {d : Nat} {Q : QQ} {K : Mem → LMem → Prop}  (hK : ∀ (M : Mem) (L : LMem), K M L → Q none M L)  : ∀ (n_ : Nat) (v4 : Int32) (v5 : Int32) (v6 : Int32) (M : Mem) (L : LMem), PL_X0_run_51 K n_ v4 v5 v6 M L → Wp E (d + 5) 0 51 [.ref 41, .ref 1, .ref 3, .ref 37, .int v4, .int v5, .int v6, .null, .null] [] M L Q := by
  intro n_
  induction n_ with
  | zero => intro v4 v5 v6 M L hP; exact False.elim hP
  | succ n_ ih =>
    intro v4 v5 v6 M L hP
    unfold PL_X0_run_51 at hP
    refine wp_seg (pc' := 55) [.iload 6, .iconst 20] (by decide +kernel) (?_ : Wp E (d + 5) 0 55 [.ref 41, .ref 1, .ref 3, .ref 37, .int v4, .int v5, .int v6, .null, .null] [.int (Int32.ofInt 20), .int v6] M L Q)
    refine wp_icmpge (off := 132) 187 (by decide +kernel) (by decide) (fun c_1 => ?_) (fun c_1 => ?_)
    · have hP := hP.1 c_1
      refine wp_seg (pc' := 199) [.aload 0, .aload 0, .getfield 8, .aload 0, .getfield 9, .invokestatic 0] (by decide +kernel) (?_ : Wp E (d + 5) 0 199 [.ref 41, .ref 1, .ref 3, .ref 37, .int v4, .int v5, .int v6, .null, .null] [.int (if (M 41 8) < (M 41 9) then (M 41 9) else (M 41 8)), .ref 41] M L Q)
      refine wp_seg (pc' := 203) [.putfield 8, .aload 0] (by decide +kernel) (?_ : Wp E (d + 5) 0 203 [.ref 41, .ref 1, .ref 3, .ref 37, .int v4, .int v5, .int v6, .null, .null] [.ref 41] (mput M 41 8 (if (M 41 8) < (M 41 9) then (M 41 9) else (M 41 8))) L Q)
      refine wp_callV 4 41 [] (i := 76) (by decide +kernel) (by decide +kernel) (by decide +kernel) (by decide +kernel) rfl rfl rfl (rest := []) rfl rfl ?_
      refine t_X0_endCalls hP (fun M_2 L_3 hP => ?_)
      show Wp E (d + 5) 0 206 [.ref 41, .ref 1, .ref 3, .ref 37, .int v4, .int v5, .int v6, .null, .null] [] M_2 L_3 Q
      exact wp_vret (by decide +kernel) rfl (hK _ _ hP)
    · have hP := hP.2 c_1
      refine wp_seg (pc' := 64) [.iload 5, .aload 1, .getfield 321] (by decide +kernel) (?_ : Wp E (d + 5) 0 64 [.ref 41, .ref 1, .ref 3, .ref 37, .int v4, .int v5, .int v6, .null, .null] [.int (M 1 1), .int v5] M L Q)
      refine wp_icmpge (off := 123) 187 (by decide +kernel) (by decide) (fun c_4 => ?_) (fun c_4 => ?_)
      · have hP := hP.1 c_4
        refine wp_seg (pc' := 199) [.aload 0, .aload 0, .getfield 8, .aload 0, .getfield 9, .invokestatic 0] (by decide +kernel) (?_ : Wp E (d + 5) 0 199 [.ref 41, .ref 1, .ref 3, .ref 37, .int v4, .int v5, .int v6, .null, .null] [.int (if (M 41 8) < (M 41 9) then (M 41 9) else (M 41 8)), .ref 41] M L Q)
        refine wp_seg (pc' := 203) [.putfield 8, .aload 0] (by decide +kernel) (?_ : Wp E (d + 5) 0 203 [.ref 41, .ref 1, .ref 3, .ref 37, .int v4, .int v5, .int v6, .null, .null] [.ref 41] (mput M 41 8 (if (M 41 8) < (M 41 9) then (M 41 9) else (M 41 8))) L Q)
        refine wp_callV 4 41 [] (i := 76) (by decide +kernel) (by decide +kernel) (by decide +kernel) (by decide +kernel) rfl rfl rfl (rest := []) rfl rfl ?_
        refine t_X0_endCalls hP (fun M_5 L_6 hP => ?_)
        show Wp E (d + 5) 0 206 [.ref 41, .ref 1, .ref 3, .ref 37, .int v4, .int v5, .int v6, .null, .null] [] M_5 L_6 Q
        exact wp_vret (by decide +kernel) rfl (hK _ _ hP)
      · have hP := hP.2 c_4
        refine wp_seg (pc' := 71) [.aload 0, .getfield 12] (by decide +kernel) (?_ : Wp E (d + 5) 0 71 [.ref 41, .ref 1, .ref 3, .ref 37, .int v4, .int v5, .int v6, .null, .null] [.int (M 41 12)] M L Q)
        refine wp_ifne (off := 116) 187 (by decide +kernel) (by decide) (fun c_7 => ?_) (fun c_7 => ?_)
        · have hP := hP.2 c_7
          refine wp_seg (pc' := 199) [.aload 0, .aload 0, .getfield 8, .aload 0, .getfield 9, .invokestatic 0] (by decide +kernel) (?_ : Wp E (d + 5) 0 199 [.ref 41, .ref 1, .ref 3, .ref 37, .int v4, .int v5, .int v6, .null, .null] [.int (if (M 41 8) < (M 41 9) then (M 41 9) else (M 41 8)), .ref 41] M L Q)
          refine wp_seg (pc' := 203) [.putfield 8, .aload 0] (by decide +kernel) (?_ : Wp E (d + 5) 0 203 [.ref 41, .ref 1, .ref 3, .ref 37, .int v4, .int v5, .int v6, .null, .null] [.ref 41] (mput M 41 8 (if (M 41 8) < (M 41 9) then (M 41 9) else (M 41 8))) L Q)
          refine wp_callV 4 41 [] (i := 76) (by decide +kernel) (by decide +kernel) (by decide +kernel) (by decide +kernel) rfl rfl rfl (rest := []) rfl rfl ?_
          refine t_X0_endCalls hP (fun M_8 L_9 hP => ?_)
          show Wp E (d + 5) 0 206 [.ref 41, .ref 1, .ref 3, .ref 37, .int v4, .int v5, .int v6, .null, .null] [] M_8 L_9 Q
          exact wp_vret (by decide +kernel) rfl (hK _ _ hP)
        · have hP := hP.1 c_7
          refine wp_seg (pc' := 77) [.aload 1, .iload 5] (by decide +kernel) (?_ : Wp E (d + 5) 0 77 [.ref 41, .ref 1, .ref 3, .ref 37, .int v4, .int v5, .int v6, .null, .null] [.int v5, .ref 1] M L Q)
          refine wp_callV 29 1 [.int v5] (i := 69) (by decide +kernel) (by decide +kernel) (by decide +kernel) (by decide +kernel) rfl rfl rfl (rest := []) rfl rfl ?_
          refine s_X5_signAt M v5  ?_
          show Wp E (d + 5) 0 80 [.ref 41, .ref 1, .ref 3, .ref 37, .int v4, .int v5, .int v6, .null, .null] [.int (f_X5_signAt M v5)] M L Q
          refine wp_seg (pc' := 82) [.iconst 46] (by decide +kernel) (?_ : Wp E (d + 5) 0 82 [.ref 41, .ref 1, .ref 3, .ref 37, .int v4, .int v5, .int v6, .null, .null] [.int (Int32.ofInt 46), .int (f_X5_signAt M v5)] M L Q)
          refine wp_icmpne (off := 30) 112 (by decide +kernel) (by decide) (fun c_10 => ?_) (fun c_10 => ?_)
          · have hP := hP.2 c_10
            refine wp_seg (pc' := 115) [.aload 1, .iload 5] (by decide +kernel) (?_ : Wp E (d + 5) 0 115 [.ref 41, .ref 1, .ref 3, .ref 37, .int v4, .int v5, .int v6, .null, .null] [.int v5, .ref 1] M L Q)
            refine wp_callV 34 1 [.int v5] (i := 79) (by decide +kernel) (by decide +kernel) (by decide +kernel) (by decide +kernel) rfl rfl rfl (rest := []) rfl rfl ?_
            refine s_X5_roomOf M v5  ?_
            show Wp E (d + 5) 0 118 [.ref 41, .ref 1, .ref 3, .ref 37, .int v4, .int v5, .int v6, .null, .null] [.int (f_X5_roomOf M v5)] M L Q
            refine wp_seg (pc' := 125) [.istore 7, .aload 1, .iload 5, .iconst 1, .iadd] (by decide +kernel) (?_ : Wp E (d + 5) 0 125 [.ref 41, .ref 1, .ref 3, .ref 37, .int v4, .int v5, .int v6, .int (f_X5_roomOf M v5), .null] [.int (v5 + (Int32.ofInt 1)), .ref 1] M L Q)
            refine wp_callV 34 1 [.int (v5 + (Int32.ofInt 1))] (i := 79) (by decide +kernel) (by decide +kernel) (by decide +kernel) (by decide +kernel) rfl rfl rfl (rest := []) rfl rfl ?_
            refine s_X5_roomOf M (v5 + (Int32.ofInt 1))  ?_
            show Wp E (d + 5) 0 128 [.ref 41, .ref 1, .ref 3, .ref 37, .int v4, .int v5, .int v6, .int (f_X5_roomOf M v5), .null] [.int (f_X5_roomOf M (v5 + (Int32.ofInt 1)))] M L Q
            refine wp_seg (pc' := 138) [.istore 8, .aload 0, .aload 0, .iload 7, .iload 8, .aload 2, .aload 3] (by decide +kernel) (?_ : Wp E (d + 5) 0 138 [.ref 41, .ref 1, .ref 3, .ref 37, .int v4, .int v5, .int v6, .int (f_X5_roomOf M v5), .int (f_X5_roomOf M (v5 + (Int32.ofInt 1)))] [.ref 37, .ref 3, .int (f_X5_roomOf M (v5 + (Int32.ofInt 1))), .int (f_X5_roomOf M v5), .ref 41, .ref 41] M L Q)
            refine wp_callV 2 41 [.int (f_X5_roomOf M v5), .int (f_X5_roomOf M (v5 + (Int32.ofInt 1))), .ref 3, .ref 37] (i := 82) (by decide +kernel) (by decide +kernel) (by decide +kernel) (by decide +kernel) rfl rfl rfl (rest := [.ref 41]) rfl rfl ?_
            refine t_X0_whyNot hP (fun v_13 M_11 L_12 hP => ?_)
            show Wp E (d + 5) 0 141 [.ref 41, .ref 1, .ref 3, .ref 37, .int v4, .int v5, .int v6, .int (f_X5_roomOf M v5), .int (f_X5_roomOf M (v5 + (Int32.ofInt 1)))] [.int v_13, .ref 41] M_11 L_12 Q
            refine wp_seg (pc' := 148) [.putfield 12, .aload 0, .getfield 12] (by decide +kernel) (?_ : Wp E (d + 5) 0 148 [.ref 41, .ref 1, .ref 3, .ref 37, .int v4, .int v5, .int v6, .int (f_X5_roomOf M v5), .int (f_X5_roomOf M (v5 + (Int32.ofInt 1)))] [.int v_13] (mput M_11 41 12 v_13) L_12 Q)
            refine wp_ifne (off := 30) 178 (by decide +kernel) (by decide) (fun c_14 => ?_) (fun c_14 => ?_)
            · have hP := hP.2 c_14
              refine wp_seg (pc' := 51) [.iinc 5 3, .iinc 6 1, .goto 0] (by decide +kernel) (?_ : Wp E (d + 5) 0 51 [.ref 41, .ref 1, .ref 3, .ref 37, .int v4, .int (v5 + Int32.ofInt 3), .int (v6 + Int32.ofInt 1), .int (f_X5_roomOf M v5), .int (f_X5_roomOf M (v5 + (Int32.ofInt 1)))] [] (mput M_11 41 12 v_13) L_12 Q)
              refine wp_drop (lo := [.ref 41, .ref 1, .ref 3, .ref 37, .int v4, .int (v5 + Int32.ofInt 3), .int (v6 + Int32.ofInt 1), .null, .null]) ⟨Or.inr rfl, Or.inr rfl, Or.inr rfl, Or.inr rfl, Or.inr rfl, Or.inr rfl, Or.inr rfl, Or.inl rfl, Or.inl rfl, trivial⟩ ?_
              exact ih v4 (v5 + Int32.ofInt 3) (v6 + Int32.ofInt 1) (mput M_11 41 12 v_13) L_12 hP
            · have hP := hP.1 c_14
              refine wp_seg (pc' := 161) [.aload 0, .iload 7, .iload 8, .aload 1, .iload 5, .iconst 2, .iadd] (by decide +kernel) (?_ : Wp E (d + 5) 0 161 [.ref 41, .ref 1, .ref 3, .ref 37, .int v4, .int v5, .int v6, .int (f_X5_roomOf M v5), .int (f_X5_roomOf M (v5 + (Int32.ofInt 1)))] [.int (v5 + (Int32.ofInt 2)), .ref 1, .int (f_X5_roomOf M (v5 + (Int32.ofInt 1))), .int (f_X5_roomOf M v5), .ref 41] (mput M_11 41 12 v_13) L_12 Q)
              refine wp_callV 35 1 [.int (v5 + (Int32.ofInt 2))] (i := 73) (by decide +kernel) (by decide +kernel) (by decide +kernel) (by decide +kernel) rfl rfl rfl (rest := [.int (f_X5_roomOf M (v5 + (Int32.ofInt 1))), .int (f_X5_roomOf M v5), .ref 41]) rfl rfl ?_
              refine s_X5_numberOf (mput M_11 41 12 v_13) (v5 + (Int32.ofInt 2))  ?_
              show Wp E (d + 5) 0 164 [.ref 41, .ref 1, .ref 3, .ref 37, .int v4, .int v5, .int v6, .int (f_X5_roomOf M v5), .int (f_X5_roomOf M (v5 + (Int32.ofInt 1)))] [.int (f_X5_numberOf (mput M_11 41 12 v_13) (v5 + (Int32.ofInt 2))), .int (f_X5_roomOf M (v5 + (Int32.ofInt 1))), .int (f_X5_roomOf M v5), .ref 41] (mput M_11 41 12 v_13) L_12 Q
              refine wp_seg (pc' := 172) [.aload 3, .aload 3, .aload 2, .getfield 192, .iload 4] (by decide +kernel) (?_ : Wp E (d + 5) 0 172 [.ref 41, .ref 1, .ref 3, .ref 37, .int v4, .int v5, .int v6, .int (f_X5_roomOf M v5), .int (f_X5_roomOf M (v5 + (Int32.ofInt 1)))] [.int v4, .ref 4, .ref 37, .ref 37, .int (f_X5_numberOf (mput M_11 41 12 v_13) (v5 + (Int32.ofInt 2))), .int (f_X5_roomOf M (v5 + (Int32.ofInt 1))), .int (f_X5_roomOf M v5), .ref 41] (mput M_11 41 12 v_13) L_12 Q)
              refine wp_callV 45 37 [.ref 4, .int v4] (i := 90) (by decide +kernel) (by decide +kernel) (by decide +kernel) (by decide +kernel) rfl rfl rfl (rest := [.ref 37, .int (f_X5_numberOf (mput M_11 41 12 v_13) (v5 + (Int32.ofInt 2))), .int (f_X5_roomOf M (v5 + (Int32.ofInt 1))), .int (f_X5_roomOf M v5), .ref 41]) rfl rfl ?_
              refine t_X6_hearers hP (fun v_17 M_15 L_16 hP => ?_)
              show Wp E (d + 5) 0 175 [.ref 41, .ref 1, .ref 3, .ref 37, .int v4, .int v5, .int v6, .int (f_X5_roomOf M v5), .int (f_X5_roomOf M (v5 + (Int32.ofInt 1)))] [.int v_17, .ref 37, .int (f_X5_numberOf (mput M_11 41 12 v_13) (v5 + (Int32.ofInt 2))), .int (f_X5_roomOf M (v5 + (Int32.ofInt 1))), .int (f_X5_roomOf M v5), .ref 41] M_15 L_16 Q
              refine wp_callV 1 41 [.int (f_X5_roomOf M v5), .int (f_X5_roomOf M (v5 + (Int32.ofInt 1))), .int (f_X5_numberOf (mput M_11 41 12 v_13) (v5 + (Int32.ofInt 2))), .ref 37, .int v_17] (i := 95) (by decide +kernel) (by decide +kernel) (by decide +kernel) (by decide +kernel) rfl rfl rfl (rest := []) rfl rfl ?_
              refine t_X0_beginCall hP (fun M_18 L_19 hP => ?_)
              show Wp E (d + 5) 0 178 [.ref 41, .ref 1, .ref 3, .ref 37, .int v4, .int v5, .int v6, .int (f_X5_roomOf M v5), .int (f_X5_roomOf M (v5 + (Int32.ofInt 1)))] [] M_18 L_19 Q
              refine wp_seg (pc' := 51) [.iinc 5 3, .iinc 6 1, .goto 0] (by decide +kernel) (?_ : Wp E (d + 5) 0 51 [.ref 41, .ref 1, .ref 3, .ref 37, .int v4, .int (v5 + Int32.ofInt 3), .int (v6 + Int32.ofInt 1), .int (f_X5_roomOf M v5), .int (f_X5_roomOf M (v5 + (Int32.ofInt 1)))] [] M_18 L_19 Q)
              refine wp_drop (lo := [.ref 41, .ref 1, .ref 3, .ref 37, .int v4, .int (v5 + Int32.ofInt 3), .int (v6 + Int32.ofInt 1), .null, .null]) ⟨Or.inr rfl, Or.inr rfl, Or.inr rfl, Or.inr rfl, Or.inr rfl, Or.inr rfl, Or.inr rfl, Or.inl rfl, Or.inl rfl, trivial⟩ ?_
              exact ih v4 (v5 + Int32.ofInt 3) (v6 + Int32.ofInt 1) M_18 L_19 hP
          · have hP := hP.1 c_10
            refine wp_seg (pc' := 95) [.aload 0, .dup, .getfield 8, .aload 1, .iload 5, .iconst 1, .iadd] (by decide +kernel) (?_ : Wp E (d + 5) 0 95 [.ref 41, .ref 1, .ref 3, .ref 37, .int v4, .int v5, .int v6, .null, .null] [.int (v5 + (Int32.ofInt 1)), .ref 1, .int (M 41 8), .ref 41] M L Q)
            refine wp_callV 35 1 [.int (v5 + (Int32.ofInt 1))] (i := 73) (by decide +kernel) (by decide +kernel) (by decide +kernel) (by decide +kernel) rfl rfl rfl (rest := [.int (M 41 8), .ref 41]) rfl rfl ?_
            refine s_X5_numberOf M (v5 + (Int32.ofInt 1))  ?_
            show Wp E (d + 5) 0 98 [.ref 41, .ref 1, .ref 3, .ref 37, .int v4, .int v5, .int v6, .null, .null] [.int (f_X5_numberOf M (v5 + (Int32.ofInt 1))), .int (M 41 8), .ref 41] M L Q
            refine wp_seg (pc' := 103) [.iadd, .putfield 8, .aload 0] (by decide +kernel) (?_ : Wp E (d + 5) 0 103 [.ref 41, .ref 1, .ref 3, .ref 37, .int v4, .int v5, .int v6, .null, .null] [.ref 41] (mput M 41 8 ((M 41 8) + (f_X5_numberOf M (v5 + (Int32.ofInt 1))))) L Q)
            refine wp_callV 4 41 [] (i := 76) (by decide +kernel) (by decide +kernel) (by decide +kernel) (by decide +kernel) rfl rfl rfl (rest := []) rfl rfl ?_
            refine t_X0_endCalls hP (fun M_20 L_21 hP => ?_)
            show Wp E (d + 5) 0 106 [.ref 41, .ref 1, .ref 3, .ref 37, .int v4, .int v5, .int v6, .null, .null] [] M_20 L_21 Q
            refine wp_seg (pc' := 51) [.iinc 5 2, .goto 0, .iinc 6 1, .goto 0] (by decide +kernel) (?_ : Wp E (d + 5) 0 51 [.ref 41, .ref 1, .ref 3, .ref 37, .int v4, .int (v5 + Int32.ofInt 2), .int (v6 + Int32.ofInt 1), .null, .null] [] M_20 L_21 Q)
            exact ih v4 (v5 + Int32.ofInt 2) (v6 + Int32.ofInt 1) M_20 L_21 hP
def P_X0_run (x4 : Int32) (M : Mem) (L : LMem) (K : Mem → LMem → Prop) : Prop := PL_X0_run_51 K 100000 x4 (Int32.ofInt 0) (Int32.ofInt 0) (mput (mput (mput (mput (mput (mput (mcpy M 9 48 ((Int32.ofInt 0).toNatClampNeg) ((Int32.ofInt 0).toNatClampNeg) ((Int32.ofInt 8).toNatClampNeg)) 41 7 (Int32.ofInt 0)) 41 8 (Int32.ofInt 0)) 41 9 (Int32.ofInt 0)) 41 10 (Int32.ofInt 0)) 41 11 (Int32.ofInt 0)) 41 12 (Int32.ofInt 0)) L
theorem t_X0_run {E : VE} {d : Nat} {Q : QQ} {K : Mem → LMem → Prop} {x4 : Int32} {M : Mem} {L : LMem} (hP : P_X0_run x4 M L K) (hK : ∀ (M : Mem) (L : LMem), K M L → Q none M L) : Wp E (d + 5) 0 0 [.ref 41, .ref 1, .ref 3, .ref 37, .int x4, .null, .null, .null, .null] [] M L Q := by
  unfold P_X0_run at hP
  refine wp_seg (pc' := 15) [.aload 2, .getfield 195, .iconst 0, .aload 0, .getfield 6, .iconst 0, .iconst 8, .invokestatic 2] (by decide +kernel) (show (oty 9 = 0 ∧ oty 48 = 0 ∧ ¬ (Int32.ofInt 0) < 0 ∧ ¬ (Int32.ofInt 0) < 0 ∧ ¬ (Int32.ofInt 8) < 0 ∧ (Int32.ofInt 0).toNatClampNeg + (Int32.ofInt 8).toNatClampNeg ≤ oln 9 ∧ (Int32.ofInt 0).toNatClampNeg + (Int32.ofInt 8).toNatClampNeg ≤ oln 48) ∧ Wp E (d + 5) 0 15 [.ref 41, .ref 1, .ref 3, .ref 37, .int x4, .null, .null, .null, .null] [] (mcpy M 9 48 ((Int32.ofInt 0).toNatClampNeg) ((Int32.ofInt 0).toNatClampNeg) ((Int32.ofInt 8).toNatClampNeg)) L Q from ⟨(by decide), ?_⟩)
  refine wp_seg (pc' := 45) [.aload 0, .iconst 0, .putfield 7, .aload 0, .iconst 0, .putfield 8, .aload 0, .iconst 0, .putfield 9, .aload 0, .iconst 0, .putfield 10, .aload 0, .iconst 0, .putfield 11, .aload 0, .iconst 0, .putfield 12] (by decide +kernel) (?_ : Wp E (d + 5) 0 45 [.ref 41, .ref 1, .ref 3, .ref 37, .int x4, .null, .null, .null, .null] [] (mput (mput (mput (mput (mput (mput (mcpy M 9 48 ((Int32.ofInt 0).toNatClampNeg) ((Int32.ofInt 0).toNatClampNeg) ((Int32.ofInt 8).toNatClampNeg)) 41 7 (Int32.ofInt 0)) 41 8 (Int32.ofInt 0)) 41 9 (Int32.ofInt 0)) 41 10 (Int32.ofInt 0)) 41 11 (Int32.ofInt 0)) 41 12 (Int32.ofInt 0)) L Q)
  refine wp_seg (pc' := 51) [.iconst 0, .istore 5, .iconst 0, .istore 6] (by decide +kernel) (?_ : Wp E (d + 5) 0 51 [.ref 41, .ref 1, .ref 3, .ref 37, .int x4, .int (Int32.ofInt 0), .int (Int32.ofInt 0), .null, .null] [] (mput (mput (mput (mput (mput (mput (mcpy M 9 48 ((Int32.ofInt 0).toNatClampNeg) ((Int32.ofInt 0).toNatClampNeg) ((Int32.ofInt 8).toNatClampNeg)) 41 7 (Int32.ofInt 0)) 41 8 (Int32.ofInt 0)) 41 9 (Int32.ofInt 0)) 41 10 (Int32.ofInt 0)) 41 11 (Int32.ofInt 0)) 41 12 (Int32.ofInt 0)) L Q)
  exact tl_X0_run_51 hK 100000 x4 (Int32.ofInt 0) (Int32.ofInt 0) (mput (mput (mput (mput (mput (mput (mcpy M 9 48 ((Int32.ofInt 0).toNatClampNeg) ((Int32.ofInt 0).toNatClampNeg) ((Int32.ofInt 8).toNatClampNeg)) 41 7 (Int32.ofInt 0)) 41 8 (Int32.ofInt 0)) 41 9 (Int32.ofInt 0)) 41 10 (Int32.ofInt 0)) 41 11 (Int32.ofInt 0)) 41 12 (Int32.ofInt 0)) L hP

def PL_X4_firstFree_2 (K : Int32 → Mem → LMem → Prop)  : Nat → Int64 → Int32 → Int32 → Mem → LMem → Prop
  | 0, _, _, _, _, _ => False
  | n_ + 1, v0, v2, v3, M, L => (((Int32.ofInt 55) ≤ v3 → K (Int32.ofInt 64) M L) ∧ (¬ ((Int32.ofInt 55) ≤ v3) → (((lg_cmp (v0 &&& (f_X4_span M v3 v2)) (Int64.ofNat 0)) = 0 → K v3 M L) ∧ (¬ ((lg_cmp (v0 &&& (f_X4_span M v3 v2)) (Int64.ofNat 0)) = 0) → PL_X4_firstFree_2 K n_ v0 v2 (v3 + Int32.ofInt 1) M L))))
theorem tl_X4_firstFree_2 {E : VE} {d : Nat} {Q : QQ} {K : Int32 → Mem → LMem → Prop}  (hK : ∀ (v : Int32) (M : Mem) (L : LMem), K v M L → Q (some (.int v)) M L)  : ∀ (n_ : Nat) (v0 : Int64) (v2 : Int32) (v3 : Int32) (M : Mem) (L : LMem), PL_X4_firstFree_2 K n_ v0 v2 v3 M L → Wp E (d + 1) 22 2 [.long v0, .null, .int v2, .int v3] [] M L Q := by
  intro n_
  induction n_ with
  | zero => intro v0 v2 v3 M L hP; exact False.elim hP
  | succ n_ ih =>
    intro v0 v2 v3 M L hP
    unfold PL_X4_firstFree_2 at hP
    refine wp_seg (pc' := 5) [.iload 3, .iconst 55] (by decide +kernel) (?_ : Wp E (d + 1) 22 5 [.long v0, .null, .int v2, .int v3] [.int (Int32.ofInt 55), .int v3] M L Q)
    refine wp_icmpge (off := 23) 28 (by decide +kernel) (by decide) (fun c_1 => ?_) (fun c_1 => ?_)
    · have hP := hP.1 c_1
      refine wp_seg (pc' := 30) [.iconst 64] (by decide +kernel) (?_ : Wp E (d + 1) 22 30 [.long v0, .null, .int v2, .int v3] [.int (Int32.ofInt 64)] M L Q)
      exact wp_iret (by decide +kernel) rfl (hK _ _ _ hP)
    · have hP := hP.2 c_1
      refine wp_seg (pc' := 11) [.lload 0, .iload 3, .iload 2] (by decide +kernel) (?_ : Wp E (d + 1) 22 11 [.long v0, .null, .int v2, .int v3] [.int v2, .int v3, .long v0] M L Q)
      refine wp_callS 21 [.int v3, .int v2] (i := 102) (by decide +kernel) (by decide +kernel) (by decide +kernel) rfl rfl rfl (rest := [.long v0]) rfl rfl ?_
      refine s_X4_span M v3 v2  ?_
      show Wp E (d + 1) 22 14 [.long v0, .null, .int v2, .int v3] [.long (f_X4_span M v3 v2), .long v0] M L Q
      refine wp_seg (pc' := 17) [.land, .ldc2_w 0, .lcmp] (by decide +kernel) (?_ : Wp E (d + 1) 22 17 [.long v0, .null, .int v2, .int v3] [.int (lg_cmp (v0 &&& (f_X4_span M v3 v2)) (Int64.ofNat 0))] M L Q)
      refine wp_ifne (off := 5) 22 (by decide +kernel) (by decide) (fun c_2 => ?_) (fun c_2 => ?_)
      · have hP := hP.2 c_2
        refine wp_seg (pc' := 2) [.iinc 3 1, .goto 0] (by decide +kernel) (?_ : Wp E (d + 1) 22 2 [.long v0, .null, .int v2, .int (v3 + Int32.ofInt 1)] [] M L Q)
        exact ih v0 v2 (v3 + Int32.ofInt 1) M L hP
      · have hP := hP.1 c_2
        refine wp_seg (pc' := 21) [.iload 3] (by decide +kernel) (?_ : Wp E (d + 1) 22 21 [.long v0, .null, .int v2, .int v3] [.int v3] M L Q)
        exact wp_iret (by decide +kernel) rfl (hK _ _ _ hP)
def P_X4_firstFree (x1 : Int64) (x2 : Int32) (M : Mem) (L : LMem) (K : Int32 → Mem → LMem → Prop) : Prop := PL_X4_firstFree_2 K 100000 x1 x2 (Int32.ofInt 0) M L
theorem t_X4_firstFree {E : VE} {d : Nat} {Q : QQ} {K : Int32 → Mem → LMem → Prop} {x1 : Int64} {x2 : Int32} {M : Mem} {L : LMem} (hP : P_X4_firstFree x1 x2 M L K) (hK : ∀ (v : Int32) (M : Mem) (L : LMem), K v M L → Q (some (.int v)) M L) : Wp E (d + 1) 22 0 [.long x1, .null, .int x2, .null] [] M L Q := by
  unfold P_X4_firstFree at hP
  refine wp_seg (pc' := 2) [.iconst 0, .istore 3] (by decide +kernel) (?_ : Wp E (d + 1) 22 2 [.long x1, .null, .int x2, .int (Int32.ofInt 0)] [] M L Q)
  exact tl_X4_firstFree_2 hK 100000 x1 x2 (Int32.ofInt 0) M L hP

def PL_X4_minutesOf_5 (K : Int64 → Mem → LMem → Prop)  : Nat → Int32 → Int32 → Int64 → Int32 → Mem → LMem → Prop
  | 0, _, _, _, _, _, _ => False
  | n_ + 1, v1, v2, v3, v5, M, L => ((v2 ≤ v5 → K v3 M L) ∧ (¬ (v2 ≤ v5) → (vp_in v5 5 ∧ (vp_in (M 54 v5.toNatClampNeg) 5 ∧ ((((M 51 ((M 54 v5.toNatClampNeg).toNatClampNeg)) &&& v1) = 0 → PL_X4_minutesOf_5 K n_ v1 v2 v3 (v5 + Int32.ofInt 1) M L) ∧ (¬ (((M 51 ((M 54 v5.toNatClampNeg).toNatClampNeg)) &&& v1) = 0) → PL_X4_minutesOf_5 K n_ v1 v2 (v3 ||| (L v5.toNatClampNeg)) (v5 + Int32.ofInt 1) M L))))))
theorem tl_X4_minutesOf_5 {E : VE} {d : Nat} {Q : QQ} {K : Int64 → Mem → LMem → Prop}  (hK : ∀ (v : Int64) (M : Mem) (L : LMem), K v M L → Q (some (.long v)) M L)  : ∀ (n_ : Nat) (v1 : Int32) (v2 : Int32) (v3 : Int64) (v5 : Int32) (M : Mem) (L : LMem), PL_X4_minutesOf_5 K n_ v1 v2 v3 v5 M L → Wp E d 24 5 [.ref 49, .int v1, .int v2, .long v3, .null, .int v5] [] M L Q := by
  intro n_
  induction n_ with
  | zero => intro v1 v2 v3 v5 M L hP; exact False.elim hP
  | succ n_ ih =>
    intro v1 v2 v3 v5 M L hP
    unfold PL_X4_minutesOf_5 at hP
    refine wp_seg (pc' := 8) [.iload 5, .iload 2] (by decide +kernel) (?_ : Wp E d 24 8 [.ref 49, .int v1, .int v2, .long v3, .null, .int v5] [.int v2, .int v5] M L Q)
    refine wp_icmpge (off := 36) 44 (by decide +kernel) (by decide) (fun c_1 => ?_) (fun c_1 => ?_)
    · have hP := hP.1 c_1
      refine wp_seg (pc' := 45) [.lload 3] (by decide +kernel) (?_ : Wp E d 24 45 [.ref 49, .int v1, .int v2, .long v3, .null, .int v5] [.long v3] M L Q)
      exact wp_lret (by decide +kernel) rfl (hK _ _ _ hP)
    · have hP := hP.2 c_1
      obtain ⟨a_2, hP⟩ := hP
      refine wp_seg (pc' := 22) [.aload 0, .getfield 257, .aload 0, .getfield 260, .iload 5, .iaload] (by decide +kernel) (show aok 54 0 v5 ∧ Wp E d 24 22 [.ref 49, .int v1, .int v2, .long v3, .null, .int v5] [.int (M 54 v5.toNatClampNeg), .ref 51] M L Q from ⟨⟨rfl, a_2⟩, ?_⟩)
      obtain ⟨a_3, hP⟩ := hP
      refine wp_seg (pc' := 23) [.iaload] (by decide +kernel) (show aok 51 0 (M 54 v5.toNatClampNeg) ∧ Wp E d 24 23 [.ref 49, .int v1, .int v2, .long v3, .null, .int v5] [.int (M 51 ((M 54 v5.toNatClampNeg).toNatClampNeg))] M L Q from ⟨⟨rfl, a_3⟩, ?_⟩)
      refine wp_seg (pc' := 25) [.iload 1, .iand] (by decide +kernel) (?_ : Wp E d 24 25 [.ref 49, .int v1, .int v2, .long v3, .null, .int v5] [.int ((M 51 ((M 54 v5.toNatClampNeg).toNatClampNeg)) &&& v1)] M L Q)
      refine wp_ifeq (off := 13) 38 (by decide +kernel) (by decide) (fun c_4 => ?_) (fun c_4 => ?_)
      · have hP := hP.1 c_4
        refine wp_seg (pc' := 5) [.iinc 5 1, .goto 0] (by decide +kernel) (?_ : Wp E d 24 5 [.ref 49, .int v1, .int v2, .long v3, .null, .int (v5 + Int32.ofInt 1)] [] M L Q)
        exact ih v1 v2 v3 (v5 + Int32.ofInt 1) M L hP
      · have hP := hP.2 c_4
        refine wp_seg (pc' := 36) [.lload 3, .aload 0, .getfield 262, .iload 5, .laload] (by decide +kernel) (show aok 56 2 v5 ∧ Wp E d 24 36 [.ref 49, .int v1, .int v2, .long v3, .null, .int v5] [.long (L v5.toNatClampNeg), .long v3] M L Q from ⟨⟨rfl, a_2⟩, ?_⟩)
        refine wp_seg (pc' := 5) [.lor, .lstore 3, .iinc 5 1, .goto 0] (by decide +kernel) (?_ : Wp E d 24 5 [.ref 49, .int v1, .int v2, .long (v3 ||| (L v5.toNatClampNeg)), .null, .int (v5 + Int32.ofInt 1)] [] M L Q)
        exact ih v1 v2 (v3 ||| (L v5.toNatClampNeg)) (v5 + Int32.ofInt 1) M L hP
def P_X4_minutesOf (x1 : Int32) (x2 : Int32) (M : Mem) (L : LMem) (K : Int64 → Mem → LMem → Prop) : Prop := PL_X4_minutesOf_5 K 100000 x1 x2 (Int64.ofNat 0) (Int32.ofInt 0) M L
theorem t_X4_minutesOf {E : VE} {d : Nat} {Q : QQ} {K : Int64 → Mem → LMem → Prop} {x1 : Int32} {x2 : Int32} {M : Mem} {L : LMem} (hP : P_X4_minutesOf x1 x2 M L K) (hK : ∀ (v : Int64) (M : Mem) (L : LMem), K v M L → Q (some (.long v)) M L) : Wp E d 24 0 [.ref 49, .int x1, .int x2, .null, .null, .null] [] M L Q := by
  unfold P_X4_minutesOf at hP
  refine wp_seg (pc' := 5) [.ldc2_w 0, .lstore 3, .iconst 0, .istore 5] (by decide +kernel) (?_ : Wp E d 24 5 [.ref 49, .int x1, .int x2, .long (Int64.ofNat 0), .null, .int (Int32.ofInt 0)] [] M L Q)
  exact tl_X4_minutesOf_5 hK 100000 x1 x2 (Int64.ofNat 0) (Int32.ofInt 0) M L hP

def PL_X4_busyMinutes_13 (K : Int64 → Mem → LMem → Prop)  : Nat → Int32 → Int64 → Int32 → Int32 → Mem → LMem → Prop
  | 0, _, _, _, _, _, _ => False
  | n_ + 1, v1, v2, v4, v5, M, L => ((v1 ≤ v5 → K v2 M L) ∧ (¬ (v1 ≤ v5) → (vp_in v5 5 ∧ (vp_in v4 5 ∧ (vp_in (M 54 v5.toNatClampNeg) 5 ∧ ((((M 50 v4.toNatClampNeg) &&& (M 50 ((M 54 v5.toNatClampNeg).toNatClampNeg))) = 0 → (((((M 51 v4.toNatClampNeg) &&& (M 51 ((M 54 v5.toNatClampNeg).toNatClampNeg))) &&& ((M 49 8) ^^^ (Int32.ofInt (-1)))) = 0 → P_X4_minutesOf ((M 51 v4.toNatClampNeg) &&& (M 51 ((M 54 v5.toNatClampNeg).toNatClampNeg))) v5 M L (fun v_10 M_8 L_9 => PL_X4_busyMinutes_13 K n_ v1 (v2 ||| ((L v5.toNatClampNeg) &&& v_10)) v4 (v5 + Int32.ofInt 1) M_8 L_9)) ∧ (¬ ((((M 51 v4.toNatClampNeg) &&& (M 51 ((M 54 v5.toNatClampNeg).toNatClampNeg))) &&& ((M 49 8) ^^^ (Int32.ofInt (-1)))) = 0) → PL_X4_busyMinutes_13 K n_ v1 (v2 ||| (L v5.toNatClampNeg)) v4 (v5 + Int32.ofInt 1) M L))) ∧ (¬ (((M 50 v4.toNatClampNeg) &&& (M 50 ((M 54 v5.toNatClampNeg).toNatClampNeg))) = 0) → PL_X4_busyMinutes_13 K n_ v1 (v2 ||| (L v5.toNatClampNeg)) v4 (v5 + Int32.ofInt 1) M L)))))))
theorem tl_X4_busyMinutes_13 {E : VE} {d : Nat} {Q : QQ} {K : Int64 → Mem → LMem → Prop}  (hK : ∀ (v : Int64) (M : Mem) (L : LMem), K v M L → Q (some (.long v)) M L)  : ∀ (n_ : Nat) (v1 : Int32) (v2 : Int64) (v4 : Int32) (v5 : Int32) (M : Mem) (L : LMem), PL_X4_busyMinutes_13 K n_ v1 v2 v4 v5 M L → Wp E (d + 1) 23 13 [.ref 49, .int v1, .long v2, .null, .int v4, .int v5, .null, .null] [] M L Q := by
  intro n_
  induction n_ with
  | zero => intro v1 v2 v4 v5 M L hP; exact False.elim hP
  | succ n_ ih =>
    intro v1 v2 v4 v5 M L hP
    unfold PL_X4_busyMinutes_13 at hP
    refine wp_seg (pc' := 16) [.iload 5, .iload 1] (by decide +kernel) (?_ : Wp E (d + 1) 23 16 [.ref 49, .int v1, .long v2, .null, .int v4, .int v5, .null, .null] [.int v1, .int v5] M L Q)
    refine wp_icmpge (off := 97) 113 (by decide +kernel) (by decide) (fun c_2 => ?_) (fun c_2 => ?_)
    · have hP := hP.1 c_2
      refine wp_seg (pc' := 114) [.lload 2] (by decide +kernel) (?_ : Wp E (d + 1) 23 114 [.ref 49, .int v1, .long v2, .null, .int v4, .int v5, .null, .null] [.long v2] M L Q)
      exact wp_lret (by decide +kernel) rfl (hK _ _ _ hP)
    · have hP := hP.2 c_2
      obtain ⟨a_3, hP⟩ := hP
      refine wp_seg (pc' := 26) [.aload 0, .getfield 260, .iload 5, .iaload] (by decide +kernel) (show aok 54 0 v5 ∧ Wp E (d + 1) 23 26 [.ref 49, .int v1, .long v2, .null, .int v4, .int v5, .null, .null] [.int (M 54 v5.toNatClampNeg)] M L Q from ⟨⟨rfl, a_3⟩, ?_⟩)
      obtain ⟨a_4, hP⟩ := hP
      refine wp_seg (pc' := 35) [.istore 6, .aload 0, .getfield 257, .iload 4, .iaload] (by decide +kernel) (show aok 51 0 v4 ∧ Wp E (d + 1) 23 35 [.ref 49, .int v1, .long v2, .null, .int v4, .int v5, .int (M 54 v5.toNatClampNeg), .null] [.int (M 51 v4.toNatClampNeg)] M L Q from ⟨⟨rfl, a_4⟩, ?_⟩)
      obtain ⟨a_5, hP⟩ := hP
      refine wp_seg (pc' := 42) [.aload 0, .getfield 257, .iload 6, .iaload] (by decide +kernel) (show aok 51 0 (M 54 v5.toNatClampNeg) ∧ Wp E (d + 1) 23 42 [.ref 49, .int v1, .long v2, .null, .int v4, .int v5, .int (M 54 v5.toNatClampNeg), .null] [.int (M 51 ((M 54 v5.toNatClampNeg).toNatClampNeg)), .int (M 51 v4.toNatClampNeg)] M L Q from ⟨⟨rfl, a_5⟩, ?_⟩)
      refine wp_seg (pc' := 52) [.iand, .istore 7, .aload 0, .getfield 256, .iload 4, .iaload] (by decide +kernel) (show aok 50 0 v4 ∧ Wp E (d + 1) 23 52 [.ref 49, .int v1, .long v2, .null, .int v4, .int v5, .int (M 54 v5.toNatClampNeg), .int ((M 51 v4.toNatClampNeg) &&& (M 51 ((M 54 v5.toNatClampNeg).toNatClampNeg)))] [.int (M 50 v4.toNatClampNeg)] M L Q from ⟨⟨rfl, a_4⟩, ?_⟩)
      refine wp_seg (pc' := 59) [.aload 0, .getfield 256, .iload 6, .iaload] (by decide +kernel) (show aok 50 0 (M 54 v5.toNatClampNeg) ∧ Wp E (d + 1) 23 59 [.ref 49, .int v1, .long v2, .null, .int v4, .int v5, .int (M 54 v5.toNatClampNeg), .int ((M 51 v4.toNatClampNeg) &&& (M 51 ((M 54 v5.toNatClampNeg).toNatClampNeg)))] [.int (M 50 ((M 54 v5.toNatClampNeg).toNatClampNeg)), .int (M 50 v4.toNatClampNeg)] M L Q from ⟨⟨rfl, a_5⟩, ?_⟩)
      refine wp_seg (pc' := 60) [.iand] (by decide +kernel) (?_ : Wp E (d + 1) 23 60 [.ref 49, .int v1, .long v2, .null, .int v4, .int v5, .int (M 54 v5.toNatClampNeg), .int ((M 51 v4.toNatClampNeg) &&& (M 51 ((M 54 v5.toNatClampNeg).toNatClampNeg)))] [.int ((M 50 v4.toNatClampNeg) &&& (M 50 ((M 54 v5.toNatClampNeg).toNatClampNeg)))] M L Q)
      refine wp_ifne (off := 15) 75 (by decide +kernel) (by decide) (fun c_6 => ?_) (fun c_6 => ?_)
      · have hP := hP.2 c_6
        refine wp_seg (pc' := 83) [.lload 2, .aload 0, .getfield 262, .iload 5, .laload] (by decide +kernel) (show aok 56 2 v5 ∧ Wp E (d + 1) 23 83 [.ref 49, .int v1, .long v2, .null, .int v4, .int v5, .int (M 54 v5.toNatClampNeg), .int ((M 51 v4.toNatClampNeg) &&& (M 51 ((M 54 v5.toNatClampNeg).toNatClampNeg)))] [.long (L v5.toNatClampNeg), .long v2] M L Q from ⟨⟨rfl, a_3⟩, ?_⟩)
        refine wp_seg (pc' := 13) [.lor, .lstore 2, .goto 0, .iinc 5 1, .goto 0] (by decide +kernel) (?_ : Wp E (d + 1) 23 13 [.ref 49, .int v1, .long (v2 ||| (L v5.toNatClampNeg)), .null, .int v4, .int (v5 + Int32.ofInt 1), .int (M 54 v5.toNatClampNeg), .int ((M 51 v4.toNatClampNeg) &&& (M 51 ((M 54 v5.toNatClampNeg).toNatClampNeg)))] [] M L Q)
        refine wp_drop (lo := [.ref 49, .int v1, .long (v2 ||| (L v5.toNatClampNeg)), .null, .int v4, .int (v5 + Int32.ofInt 1), .null, .null]) ⟨Or.inr rfl, Or.inr rfl, Or.inr rfl, Or.inl rfl, Or.inr rfl, Or.inr rfl, Or.inl rfl, Or.inl rfl, trivial⟩ ?_
        exact ih v1 (v2 ||| (L v5.toNatClampNeg)) v4 (v5 + Int32.ofInt 1) M L hP
      · have hP := hP.1 c_6
        refine wp_seg (pc' := 72) [.iload 7, .aload 0, .getfield 264, .iconst (-1), .ixor, .iand] (by decide +kernel) (?_ : Wp E (d + 1) 23 72 [.ref 49, .int v1, .long v2, .null, .int v4, .int v5, .int (M 54 v5.toNatClampNeg), .int ((M 51 v4.toNatClampNeg) &&& (M 51 ((M 54 v5.toNatClampNeg).toNatClampNeg)))] [.int (((M 51 v4.toNatClampNeg) &&& (M 51 ((M 54 v5.toNatClampNeg).toNatClampNeg))) &&& ((M 49 8) ^^^ (Int32.ofInt (-1))))] M L Q)
        refine wp_ifeq (off := 16) 88 (by decide +kernel) (by decide) (fun c_7 => ?_) (fun c_7 => ?_)
        · have hP := hP.1 c_7
          refine wp_seg (pc' := 96) [.lload 2, .aload 0, .getfield 262, .iload 5, .laload] (by decide +kernel) (show aok 56 2 v5 ∧ Wp E (d + 1) 23 96 [.ref 49, .int v1, .long v2, .null, .int v4, .int v5, .int (M 54 v5.toNatClampNeg), .int ((M 51 v4.toNatClampNeg) &&& (M 51 ((M 54 v5.toNatClampNeg).toNatClampNeg)))] [.long (L v5.toNatClampNeg), .long v2] M L Q from ⟨⟨rfl, a_3⟩, ?_⟩)
          refine wp_seg (pc' := 101) [.aload 0, .iload 7, .iload 5] (by decide +kernel) (?_ : Wp E (d + 1) 23 101 [.ref 49, .int v1, .long v2, .null, .int v4, .int v5, .int (M 54 v5.toNatClampNeg), .int ((M 51 v4.toNatClampNeg) &&& (M 51 ((M 54 v5.toNatClampNeg).toNatClampNeg)))] [.int v5, .int ((M 51 v4.toNatClampNeg) &&& (M 51 ((M 54 v5.toNatClampNeg).toNatClampNeg))), .ref 49, .long (L v5.toNatClampNeg), .long v2] M L Q)
          refine wp_callV 24 49 [.int ((M 51 v4.toNatClampNeg) &&& (M 51 ((M 54 v5.toNatClampNeg).toNatClampNeg))), .int v5] (i := 112) (by decide +kernel) (by decide +kernel) (by decide +kernel) (by decide +kernel) rfl rfl rfl (rest := [.long (L v5.toNatClampNeg), .long v2]) rfl rfl ?_
          refine t_X4_minutesOf hP (fun v_10 M_8 L_9 hP => ?_)
          show Wp E (d + 1) 23 104 [.ref 49, .int v1, .long v2, .null, .int v4, .int v5, .int (M 54 v5.toNatClampNeg), .int ((M 51 v4.toNatClampNeg) &&& (M 51 ((M 54 v5.toNatClampNeg).toNatClampNeg)))] [.long v_10, .long (L v5.toNatClampNeg), .long v2] M_8 L_9 Q
          refine wp_seg (pc' := 13) [.land, .lor, .lstore 2, .iinc 5 1, .goto 0] (by decide +kernel) (?_ : Wp E (d + 1) 23 13 [.ref 49, .int v1, .long (v2 ||| ((L v5.toNatClampNeg) &&& v_10)), .null, .int v4, .int (v5 + Int32.ofInt 1), .int (M 54 v5.toNatClampNeg), .int ((M 51 v4.toNatClampNeg) &&& (M 51 ((M 54 v5.toNatClampNeg).toNatClampNeg)))] [] M_8 L_9 Q)
          refine wp_drop (lo := [.ref 49, .int v1, .long (v2 ||| ((L v5.toNatClampNeg) &&& v_10)), .null, .int v4, .int (v5 + Int32.ofInt 1), .null, .null]) ⟨Or.inr rfl, Or.inr rfl, Or.inr rfl, Or.inl rfl, Or.inr rfl, Or.inr rfl, Or.inl rfl, Or.inl rfl, trivial⟩ ?_
          exact ih v1 (v2 ||| ((L v5.toNatClampNeg) &&& v_10)) v4 (v5 + Int32.ofInt 1) M_8 L_9 hP
        · have hP := hP.2 c_7
          refine wp_seg (pc' := 83) [.lload 2, .aload 0, .getfield 262, .iload 5, .laload] (by decide +kernel) (show aok 56 2 v5 ∧ Wp E (d + 1) 23 83 [.ref 49, .int v1, .long v2, .null, .int v4, .int v5, .int (M 54 v5.toNatClampNeg), .int ((M 51 v4.toNatClampNeg) &&& (M 51 ((M 54 v5.toNatClampNeg).toNatClampNeg)))] [.long (L v5.toNatClampNeg), .long v2] M L Q from ⟨⟨rfl, a_3⟩, ?_⟩)
          refine wp_seg (pc' := 13) [.lor, .lstore 2, .goto 0, .iinc 5 1, .goto 0] (by decide +kernel) (?_ : Wp E (d + 1) 23 13 [.ref 49, .int v1, .long (v2 ||| (L v5.toNatClampNeg)), .null, .int v4, .int (v5 + Int32.ofInt 1), .int (M 54 v5.toNatClampNeg), .int ((M 51 v4.toNatClampNeg) &&& (M 51 ((M 54 v5.toNatClampNeg).toNatClampNeg)))] [] M L Q)
          refine wp_drop (lo := [.ref 49, .int v1, .long (v2 ||| (L v5.toNatClampNeg)), .null, .int v4, .int (v5 + Int32.ofInt 1), .null, .null]) ⟨Or.inr rfl, Or.inr rfl, Or.inr rfl, Or.inl rfl, Or.inr rfl, Or.inr rfl, Or.inl rfl, Or.inl rfl, trivial⟩ ?_
          exact ih v1 (v2 ||| (L v5.toNatClampNeg)) v4 (v5 + Int32.ofInt 1) M L hP
def P_X4_busyMinutes (x1 : Int32) (M : Mem) (L : LMem) (K : Int64 → Mem → LMem → Prop) : Prop := (vp_in x1 5 ∧ PL_X4_busyMinutes_13 K 100000 x1 (Int64.ofNat 0) (M 54 x1.toNatClampNeg) (Int32.ofInt 0) M L)
theorem t_X4_busyMinutes {E : VE} {d : Nat} {Q : QQ} {K : Int64 → Mem → LMem → Prop} {x1 : Int32} {M : Mem} {L : LMem} (hP : P_X4_busyMinutes x1 M L K) (hK : ∀ (v : Int64) (M : Mem) (L : LMem), K v M L → Q (some (.long v)) M L) : Wp E (d + 1) 23 0 [.ref 49, .int x1, .null, .null, .null, .null, .null, .null] [] M L Q := by
  unfold P_X4_busyMinutes at hP
  obtain ⟨a_1, hP⟩ := hP
  refine wp_seg (pc' := 8) [.ldc2_w 0, .lstore 2, .aload 0, .getfield 260, .iload 1, .iaload] (by decide +kernel) (show aok 54 0 x1 ∧ Wp E (d + 1) 23 8 [.ref 49, .int x1, .long (Int64.ofNat 0), .null, .null, .null, .null, .null] [.int (M 54 x1.toNatClampNeg)] M L Q from ⟨⟨rfl, a_1⟩, ?_⟩)
  refine wp_seg (pc' := 13) [.istore 4, .iconst 0, .istore 5] (by decide +kernel) (?_ : Wp E (d + 1) 23 13 [.ref 49, .int x1, .long (Int64.ofNat 0), .null, .int (M 54 x1.toNatClampNeg), .int (Int32.ofInt 0), .null, .null] [] M L Q)
  exact tl_X4_busyMinutes_13 hK 100000 x1 (Int64.ofNat 0) (M 54 x1.toNatClampNeg) (Int32.ofInt 0) M L hP

def PL_X4_orderEnd_4 (K : Int32 → Mem → LMem → Prop)  : Nat → Int32 → Int32 → Int32 → Mem → LMem → Prop
  | 0, _, _, _, _, _ => False
  | n_ + 1, v1, v2, v3, M, L => (((M 49 7) ≤ v3 → K v2 M L) ∧ (¬ ((M 49 7) ≤ v3) → (vp_in v3 5 ∧ P_X4_busyMinutes v3 M L (fun v_5 M_3 L_4 => (vp_in (M 54 v3.toNatClampNeg) 5 ∧ P_X4_firstFree v_5 (M_3 52 ((M 54 v3.toNatClampNeg).toNatClampNeg)) M_3 L_4 (fun v_9 M_7 L_8 => ((v1 = 0 → PL_X4_orderEnd_4 K n_ v1 (if v2 < (v_9 + (M_7 52 ((M 54 v3.toNatClampNeg).toNatClampNeg))) then (v_9 + (M_7 52 ((M 54 v3.toNatClampNeg).toNatClampNeg))) else v2) (v3 + Int32.ofInt 1) M_7 (vp_updL L_8 v3.toNatClampNeg (f_X4_span M_7 v_9 (M_7 52 ((M 54 v3.toNatClampNeg).toNatClampNeg))))) ∧ (¬ (v1 = 0) → (((v_9 + (M_7 52 ((M 54 v3.toNatClampNeg).toNatClampNeg))) ≤ (M_7 53 ((M 54 v3.toNatClampNeg).toNatClampNeg)) → PL_X4_orderEnd_4 K n_ v1 (if v2 < (v_9 + (M_7 52 ((M 54 v3.toNatClampNeg).toNatClampNeg))) then (v_9 + (M_7 52 ((M 54 v3.toNatClampNeg).toNatClampNeg))) else v2) (v3 + Int32.ofInt 1) M_7 (vp_updL L_8 v3.toNatClampNeg (f_X4_span M_7 v_9 (M_7 52 ((M 54 v3.toNatClampNeg).toNatClampNeg))))) ∧ (¬ ((v_9 + (M_7 52 ((M 54 v3.toNatClampNeg).toNatClampNeg))) ≤ (M_7 53 ((M 54 v3.toNatClampNeg).toNatClampNeg))) → K (Int32.ofInt 64) M_7 L_8))))))))))
theorem tl_X4_orderEnd_4 {E : VE} {d : Nat} {Q : QQ} {K : Int32 → Mem → LMem → Prop}  (hK : ∀ (v : Int32) (M : Mem) (L : LMem), K v M L → Q (some (.int v)) M L)  : ∀ (n_ : Nat) (v1 : Int32) (v2 : Int32) (v3 : Int32) (M : Mem) (L : LMem), PL_X4_orderEnd_4 K n_ v1 v2 v3 M L → Wp E (d + 2) 20 4 [.ref 49, .int v1, .int v2, .int v3, .null, .null, .null] [] M L Q := by
  intro n_
  induction n_ with
  | zero => intro v1 v2 v3 M L hP; exact False.elim hP
  | succ n_ ih =>
    intro v1 v2 v3 M L hP
    unfold PL_X4_orderEnd_4 at hP
    refine wp_seg (pc' := 9) [.iload 3, .aload 0, .getfield 263] (by decide +kernel) (?_ : Wp E (d + 2) 20 9 [.ref 49, .int v1, .int v2, .int v3, .null, .null, .null] [.int (M 49 7), .int v3] M L Q)
    refine wp_icmpge (off := 90) 99 (by decide +kernel) (by decide) (fun c_1 => ?_) (fun c_1 => ?_)
    · have hP := hP.1 c_1
      refine wp_seg (pc' := 100) [.iload 2] (by decide +kernel) (?_ : Wp E (d + 2) 20 100 [.ref 49, .int v1, .int v2, .int v3, .null, .null, .null] [.int v2] M L Q)
      exact wp_iret (by decide +kernel) rfl (hK _ _ _ hP)
    · have hP := hP.2 c_1
      obtain ⟨a_2, hP⟩ := hP
      refine wp_seg (pc' := 18) [.aload 0, .getfield 260, .iload 3, .iaload] (by decide +kernel) (show aok 54 0 v3 ∧ Wp E (d + 2) 20 18 [.ref 49, .int v1, .int v2, .int v3, .null, .null, .null] [.int (M 54 v3.toNatClampNeg)] M L Q from ⟨⟨rfl, a_2⟩, ?_⟩)
      refine wp_seg (pc' := 22) [.istore 4, .aload 0, .iload 3] (by decide +kernel) (?_ : Wp E (d + 2) 20 22 [.ref 49, .int v1, .int v2, .int v3, .int (M 54 v3.toNatClampNeg), .null, .null] [.int v3, .ref 49] M L Q)
      refine wp_callV 23 49 [.int v3] (i := 94) (by decide +kernel) (by decide +kernel) (by decide +kernel) (by decide +kernel) rfl rfl rfl (rest := []) rfl rfl ?_
      refine t_X4_busyMinutes hP (fun v_5 M_3 L_4 hP => ?_)
      show Wp E (d + 2) 20 25 [.ref 49, .int v1, .int v2, .int v3, .int (M 54 v3.toNatClampNeg), .null, .null] [.long v_5] M_3 L_4 Q
      obtain ⟨a_6, hP⟩ := hP
      refine wp_seg (pc' := 32) [.aload 0, .getfield 258, .iload 4, .iaload] (by decide +kernel) (show aok 52 0 (M 54 v3.toNatClampNeg) ∧ Wp E (d + 2) 20 32 [.ref 49, .int v1, .int v2, .int v3, .int (M 54 v3.toNatClampNeg), .null, .null] [.int (M_3 52 ((M 54 v3.toNatClampNeg).toNatClampNeg)), .long v_5] M_3 L_4 Q from ⟨⟨rfl, a_6⟩, ?_⟩)
      refine wp_callS 22 [.long v_5, .int (M_3 52 ((M 54 v3.toNatClampNeg).toNatClampNeg))] (i := 98) (by decide +kernel) (by decide +kernel) (by decide +kernel) rfl rfl rfl (rest := []) rfl rfl ?_
      refine t_X4_firstFree hP (fun v_9 M_7 L_8 hP => ?_)
      show Wp E (d + 2) 20 35 [.ref 49, .int v1, .int v2, .int v3, .int (M 54 v3.toNatClampNeg), .null, .null] [.int v_9] M_7 L_8 Q
      refine wp_seg (pc' := 46) [.istore 5, .iload 5, .aload 0, .getfield 258, .iload 4, .iaload] (by decide +kernel) (show aok 52 0 (M 54 v3.toNatClampNeg) ∧ Wp E (d + 2) 20 46 [.ref 49, .int v1, .int v2, .int v3, .int (M 54 v3.toNatClampNeg), .int v_9, .null] [.int (M_7 52 ((M 54 v3.toNatClampNeg).toNatClampNeg)), .int v_9] M_7 L_8 Q from ⟨⟨rfl, a_6⟩, ?_⟩)
      refine wp_seg (pc' := 50) [.iadd, .istore 6, .iload 1] (by decide +kernel) (?_ : Wp E (d + 2) 20 50 [.ref 49, .int v1, .int v2, .int v3, .int (M 54 v3.toNatClampNeg), .int v_9, .int (v_9 + (M_7 52 ((M 54 v3.toNatClampNeg).toNatClampNeg)))] [.int v1] M_7 L_8 Q)
      refine wp_ifeq (off := 18) 68 (by decide +kernel) (by decide) (fun c_10 => ?_) (fun c_10 => ?_)
      · have hP := hP.1 c_10
        refine wp_seg (pc' := 82) [.aload 0, .getfield 262, .iload 3, .iload 5, .aload 0, .getfield 258, .iload 4, .iaload] (by decide +kernel) (show aok 52 0 (M 54 v3.toNatClampNeg) ∧ Wp E (d + 2) 20 82 [.ref 49, .int v1, .int v2, .int v3, .int (M 54 v3.toNatClampNeg), .int v_9, .int (v_9 + (M_7 52 ((M 54 v3.toNatClampNeg).toNatClampNeg)))] [.int (M_7 52 ((M 54 v3.toNatClampNeg).toNatClampNeg)), .int v_9, .int v3, .ref 56] M_7 L_8 Q from ⟨⟨rfl, a_6⟩, ?_⟩)
        refine wp_callS 21 [.int v_9, .int (M_7 52 ((M 54 v3.toNatClampNeg).toNatClampNeg))] (i := 102) (by decide +kernel) (by decide +kernel) (by decide +kernel) rfl rfl rfl (rest := [.int v3, .ref 56]) rfl rfl ?_
        refine s_X4_span M_7 v_9 (M_7 52 ((M 54 v3.toNatClampNeg).toNatClampNeg))  ?_
        show Wp E (d + 2) 20 85 [.ref 49, .int v1, .int v2, .int v3, .int (M 54 v3.toNatClampNeg), .int v_9, .int (v_9 + (M_7 52 ((M 54 v3.toNatClampNeg).toNatClampNeg)))] [.long (f_X4_span M_7 v_9 (M_7 52 ((M 54 v3.toNatClampNeg).toNatClampNeg))), .int v3, .ref 56] M_7 L_8 Q
        refine wp_seg (pc' := 86) [.lastore] (by decide +kernel) (show aok 56 2 v3 ∧ Wp E (d + 2) 20 86 [.ref 49, .int v1, .int v2, .int v3, .int (M 54 v3.toNatClampNeg), .int v_9, .int (v_9 + (M_7 52 ((M 54 v3.toNatClampNeg).toNatClampNeg)))] [] M_7 (vp_updL L_8 v3.toNatClampNeg (f_X4_span M_7 v_9 (M_7 52 ((M 54 v3.toNatClampNeg).toNatClampNeg)))) Q from ⟨⟨rfl, a_2⟩, ?_⟩)
        refine wp_seg (pc' := 92) [.iload 2, .iload 6, .invokestatic 0] (by decide +kernel) (?_ : Wp E (d + 2) 20 92 [.ref 49, .int v1, .int v2, .int v3, .int (M 54 v3.toNatClampNeg), .int v_9, .int (v_9 + (M_7 52 ((M 54 v3.toNatClampNeg).toNatClampNeg)))] [.int (if v2 < (v_9 + (M_7 52 ((M 54 v3.toNatClampNeg).toNatClampNeg))) then (v_9 + (M_7 52 ((M 54 v3.toNatClampNeg).toNatClampNeg))) else v2)] M_7 (vp_updL L_8 v3.toNatClampNeg (f_X4_span M_7 v_9 (M_7 52 ((M 54 v3.toNatClampNeg).toNatClampNeg)))) Q)
        refine wp_seg (pc' := 4) [.istore 2, .iinc 3 1, .goto 0] (by decide +kernel) (?_ : Wp E (d + 2) 20 4 [.ref 49, .int v1, .int (if v2 < (v_9 + (M_7 52 ((M 54 v3.toNatClampNeg).toNatClampNeg))) then (v_9 + (M_7 52 ((M 54 v3.toNatClampNeg).toNatClampNeg))) else v2), .int (v3 + Int32.ofInt 1), .int (M 54 v3.toNatClampNeg), .int v_9, .int (v_9 + (M_7 52 ((M 54 v3.toNatClampNeg).toNatClampNeg)))] [] M_7 (vp_updL L_8 v3.toNatClampNeg (f_X4_span M_7 v_9 (M_7 52 ((M 54 v3.toNatClampNeg).toNatClampNeg)))) Q)
        refine wp_drop (lo := [.ref 49, .int v1, .int (if v2 < (v_9 + (M_7 52 ((M 54 v3.toNatClampNeg).toNatClampNeg))) then (v_9 + (M_7 52 ((M 54 v3.toNatClampNeg).toNatClampNeg))) else v2), .int (v3 + Int32.ofInt 1), .null, .null, .null]) ⟨Or.inr rfl, Or.inr rfl, Or.inr rfl, Or.inr rfl, Or.inl rfl, Or.inl rfl, Or.inl rfl, trivial⟩ ?_
        exact ih v1 (if v2 < (v_9 + (M_7 52 ((M 54 v3.toNatClampNeg).toNatClampNeg))) then (v_9 + (M_7 52 ((M 54 v3.toNatClampNeg).toNatClampNeg))) else v2) (v3 + Int32.ofInt 1) M_7 (vp_updL L_8 v3.toNatClampNeg (f_X4_span M_7 v_9 (M_7 52 ((M 54 v3.toNatClampNeg).toNatClampNeg)))) hP
      · have hP := hP.2 c_10
        refine wp_seg (pc' := 62) [.iload 6, .aload 0, .getfield 259, .iload 4, .iaload] (by decide +kernel) (show aok 53 0 (M 54 v3.toNatClampNeg) ∧ Wp E (d + 2) 20 62 [.ref 49, .int v1, .int v2, .int v3, .int (M 54 v3.toNatClampNeg), .int v_9, .int (v_9 + (M_7 52 ((M 54 v3.toNatClampNeg).toNatClampNeg)))] [.int (M_7 53 ((M 54 v3.toNatClampNeg).toNatClampNeg)), .int (v_9 + (M_7 52 ((M 54 v3.toNatClampNeg).toNatClampNeg)))] M_7 L_8 Q from ⟨⟨rfl, a_6⟩, ?_⟩)
        refine wp_icmple (off := 6) 68 (by decide +kernel) (by decide) (fun c_11 => ?_) (fun c_11 => ?_)
        · have hP := hP.1 c_11
          refine wp_seg (pc' := 82) [.aload 0, .getfield 262, .iload 3, .iload 5, .aload 0, .getfield 258, .iload 4, .iaload] (by decide +kernel) (show aok 52 0 (M 54 v3.toNatClampNeg) ∧ Wp E (d + 2) 20 82 [.ref 49, .int v1, .int v2, .int v3, .int (M 54 v3.toNatClampNeg), .int v_9, .int (v_9 + (M_7 52 ((M 54 v3.toNatClampNeg).toNatClampNeg)))] [.int (M_7 52 ((M 54 v3.toNatClampNeg).toNatClampNeg)), .int v_9, .int v3, .ref 56] M_7 L_8 Q from ⟨⟨rfl, a_6⟩, ?_⟩)
          refine wp_callS 21 [.int v_9, .int (M_7 52 ((M 54 v3.toNatClampNeg).toNatClampNeg))] (i := 102) (by decide +kernel) (by decide +kernel) (by decide +kernel) rfl rfl rfl (rest := [.int v3, .ref 56]) rfl rfl ?_
          refine s_X4_span M_7 v_9 (M_7 52 ((M 54 v3.toNatClampNeg).toNatClampNeg))  ?_
          show Wp E (d + 2) 20 85 [.ref 49, .int v1, .int v2, .int v3, .int (M 54 v3.toNatClampNeg), .int v_9, .int (v_9 + (M_7 52 ((M 54 v3.toNatClampNeg).toNatClampNeg)))] [.long (f_X4_span M_7 v_9 (M_7 52 ((M 54 v3.toNatClampNeg).toNatClampNeg))), .int v3, .ref 56] M_7 L_8 Q
          refine wp_seg (pc' := 86) [.lastore] (by decide +kernel) (show aok 56 2 v3 ∧ Wp E (d + 2) 20 86 [.ref 49, .int v1, .int v2, .int v3, .int (M 54 v3.toNatClampNeg), .int v_9, .int (v_9 + (M_7 52 ((M 54 v3.toNatClampNeg).toNatClampNeg)))] [] M_7 (vp_updL L_8 v3.toNatClampNeg (f_X4_span M_7 v_9 (M_7 52 ((M 54 v3.toNatClampNeg).toNatClampNeg)))) Q from ⟨⟨rfl, a_2⟩, ?_⟩)
          refine wp_seg (pc' := 92) [.iload 2, .iload 6, .invokestatic 0] (by decide +kernel) (?_ : Wp E (d + 2) 20 92 [.ref 49, .int v1, .int v2, .int v3, .int (M 54 v3.toNatClampNeg), .int v_9, .int (v_9 + (M_7 52 ((M 54 v3.toNatClampNeg).toNatClampNeg)))] [.int (if v2 < (v_9 + (M_7 52 ((M 54 v3.toNatClampNeg).toNatClampNeg))) then (v_9 + (M_7 52 ((M 54 v3.toNatClampNeg).toNatClampNeg))) else v2)] M_7 (vp_updL L_8 v3.toNatClampNeg (f_X4_span M_7 v_9 (M_7 52 ((M 54 v3.toNatClampNeg).toNatClampNeg)))) Q)
          refine wp_seg (pc' := 4) [.istore 2, .iinc 3 1, .goto 0] (by decide +kernel) (?_ : Wp E (d + 2) 20 4 [.ref 49, .int v1, .int (if v2 < (v_9 + (M_7 52 ((M 54 v3.toNatClampNeg).toNatClampNeg))) then (v_9 + (M_7 52 ((M 54 v3.toNatClampNeg).toNatClampNeg))) else v2), .int (v3 + Int32.ofInt 1), .int (M 54 v3.toNatClampNeg), .int v_9, .int (v_9 + (M_7 52 ((M 54 v3.toNatClampNeg).toNatClampNeg)))] [] M_7 (vp_updL L_8 v3.toNatClampNeg (f_X4_span M_7 v_9 (M_7 52 ((M 54 v3.toNatClampNeg).toNatClampNeg)))) Q)
          refine wp_drop (lo := [.ref 49, .int v1, .int (if v2 < (v_9 + (M_7 52 ((M 54 v3.toNatClampNeg).toNatClampNeg))) then (v_9 + (M_7 52 ((M 54 v3.toNatClampNeg).toNatClampNeg))) else v2), .int (v3 + Int32.ofInt 1), .null, .null, .null]) ⟨Or.inr rfl, Or.inr rfl, Or.inr rfl, Or.inr rfl, Or.inl rfl, Or.inl rfl, Or.inl rfl, trivial⟩ ?_
          exact ih v1 (if v2 < (v_9 + (M_7 52 ((M 54 v3.toNatClampNeg).toNatClampNeg))) then (v_9 + (M_7 52 ((M 54 v3.toNatClampNeg).toNatClampNeg))) else v2) (v3 + Int32.ofInt 1) M_7 (vp_updL L_8 v3.toNatClampNeg (f_X4_span M_7 v_9 (M_7 52 ((M 54 v3.toNatClampNeg).toNatClampNeg)))) hP
        · have hP := hP.2 c_11
          refine wp_seg (pc' := 67) [.iconst 64] (by decide +kernel) (?_ : Wp E (d + 2) 20 67 [.ref 49, .int v1, .int v2, .int v3, .int (M 54 v3.toNatClampNeg), .int v_9, .int (v_9 + (M_7 52 ((M 54 v3.toNatClampNeg).toNatClampNeg)))] [.int (Int32.ofInt 64)] M_7 L_8 Q)
          exact wp_iret (by decide +kernel) rfl (hK _ _ _ hP)
def P_X4_orderEnd (x1 : Int32) (M : Mem) (L : LMem) (K : Int32 → Mem → LMem → Prop) : Prop := PL_X4_orderEnd_4 K 100000 x1 (Int32.ofInt 0) (Int32.ofInt 0) M L
theorem t_X4_orderEnd {E : VE} {d : Nat} {Q : QQ} {K : Int32 → Mem → LMem → Prop} {x1 : Int32} {M : Mem} {L : LMem} (hP : P_X4_orderEnd x1 M L K) (hK : ∀ (v : Int32) (M : Mem) (L : LMem), K v M L → Q (some (.int v)) M L) : Wp E (d + 2) 20 0 [.ref 49, .int x1, .null, .null, .null, .null, .null] [] M L Q := by
  unfold P_X4_orderEnd at hP
  refine wp_seg (pc' := 4) [.iconst 0, .istore 2, .iconst 0, .istore 3] (by decide +kernel) (?_ : Wp E (d + 2) 20 4 [.ref 49, .int x1, .int (Int32.ofInt 0), .int (Int32.ofInt 0), .null, .null, .null] [] M L Q)
  exact tl_X4_orderEnd_4 hK 100000 x1 (Int32.ofInt 0) (Int32.ofInt 0) M L hP

def PL_X4_nextOrder_93 (K : Int32 → Mem → LMem → Prop)  : Nat → Int32 → Int32 → Int32 → Int32 → Mem → LMem → Prop
  | 0, _, _, _, _, _, _ => False
  | n_ + 1, v1, v2, v3, v4, M, L => ((v4 ≤ v3 → K (Int32.ofInt 1) M L) ∧ (¬ (v4 ≤ v3) → ((vp_in v3 5) ∧ ((vp_in v4 5) ∧ PL_X4_nextOrder_93 K n_ v1 v2 (v3 + Int32.ofInt 1) (v4 + Int32.ofInt (-1)) (g_X4_swap M v3 v4) L))))
theorem tl_X4_nextOrder_93 {E : VE} {d : Nat} {Q : QQ} {K : Int32 → Mem → LMem → Prop}  (hK : ∀ (v : Int32) (M : Mem) (L : LMem), K v M L → Q (some (.int v)) M L)  : ∀ (n_ : Nat) (v1 : Int32) (v2 : Int32) (v3 : Int32) (v4 : Int32) (M : Mem) (L : LMem), PL_X4_nextOrder_93 K n_ v1 v2 v3 v4 M L → Wp E (d + 1) 25 93 [.ref 49, .int v1, .int v2, .int v3, .int v4] [] M L Q := by
  intro n_
  induction n_ with
  | zero => intro v1 v2 v3 v4 M L hP; exact False.elim hP
  | succ n_ ih =>
    intro v1 v2 v3 v4 M L hP
    unfold PL_X4_nextOrder_93 at hP
    refine wp_seg (pc' := 96) [.iload 3, .iload 4] (by decide +kernel) (?_ : Wp E (d + 1) 25 96 [.ref 49, .int v1, .int v2, .int v3, .int v4] [.int v4, .int v3] M L Q)
    refine wp_icmpge (off := 19) 115 (by decide +kernel) (by decide) (fun c_6 => ?_) (fun c_6 => ?_)
    · have hP := hP.1 c_6
      refine wp_seg (pc' := 116) [.iconst 1] (by decide +kernel) (?_ : Wp E (d + 1) 25 116 [.ref 49, .int v1, .int v2, .int v3, .int v4] [.int (Int32.ofInt 1)] M L Q)
      exact wp_zret (by decide +kernel) rfl (by decide) (hK _ _ _ hP)
    · have hP := hP.2 c_6
      refine wp_seg (pc' := 103) [.aload 0, .iload 3, .iload 4] (by decide +kernel) (?_ : Wp E (d + 1) 25 103 [.ref 49, .int v1, .int v2, .int v3, .int v4] [.int v4, .int v3, .ref 49] M L Q)
      refine wp_callV 26 49 [.int v3, .int v4] (i := 115) (by decide +kernel) (by decide +kernel) (by decide +kernel) (by decide +kernel) rfl rfl rfl (rest := []) rfl rfl ?_
      obtain ⟨a_7, hP⟩ := hP
      obtain ⟨a_8, hP⟩ := hP
      refine s_X4_swap M v3 v4 a_7 a_8 ?_
      show Wp E (d + 1) 25 106 [.ref 49, .int v1, .int v2, .int v3, .int v4] [] (g_X4_swap M v3 v4) L Q
      refine wp_seg (pc' := 93) [.iinc 3 1, .iinc 4 (-1), .goto 0] (by decide +kernel) (?_ : Wp E (d + 1) 25 93 [.ref 49, .int v1, .int v2, .int (v3 + Int32.ofInt 1), .int (v4 + Int32.ofInt (-1))] [] (g_X4_swap M v3 v4) L Q)
      exact ih v1 v2 (v3 + Int32.ofInt 1) (v4 + Int32.ofInt (-1)) (g_X4_swap M v3 v4) L hP
def PL_X4_nextOrder_47 (K : Int32 → Mem → LMem → Prop)  : Nat → Int32 → Int32 → Mem → LMem → Prop
  | 0, _, _, _, _ => False
  | n_ + 1, v1, v2, M, L => ((v2 ≤ (v1 + (Int32.ofInt 1)) → ((vp_in v1 5) ∧ ((vp_in v2 5) ∧ PL_X4_nextOrder_93 K 100000 v1 v2 (v1 + (Int32.ofInt 1)) (((g_X4_swap M v1 v2) 49 7) - (Int32.ofInt 1)) (g_X4_swap M v1 v2) L))) ∧ (¬ (v2 ≤ (v1 + (Int32.ofInt 1))) → (vp_in v2 5 ∧ (vp_in v1 5 ∧ (((M 54 v1.toNatClampNeg) ≤ (M 54 v2.toNatClampNeg) → ((vp_in v1 5) ∧ ((vp_in v2 5) ∧ PL_X4_nextOrder_93 K 100000 v1 v2 (v1 + (Int32.ofInt 1)) (((g_X4_swap M v1 v2) 49 7) - (Int32.ofInt 1)) (g_X4_swap M v1 v2) L))) ∧ (¬ ((M 54 v1.toNatClampNeg) ≤ (M 54 v2.toNatClampNeg)) → PL_X4_nextOrder_47 K n_ v1 (v2 + Int32.ofInt (-1)) M L))))))
theorem tl_X4_nextOrder_47 {E : VE} {d : Nat} {Q : QQ} {K : Int32 → Mem → LMem → Prop}  (hK : ∀ (v : Int32) (M : Mem) (L : LMem), K v M L → Q (some (.int v)) M L)  : ∀ (n_ : Nat) (v1 : Int32) (v2 : Int32) (M : Mem) (L : LMem), PL_X4_nextOrder_47 K n_ v1 v2 M L → Wp E (d + 1) 25 47 [.ref 49, .int v1, .int v2, .null, .null] [] M L Q := by
  intro n_
  induction n_ with
  | zero => intro v1 v2 M L hP; exact False.elim hP
  | succ n_ ih =>
    intro v1 v2 M L hP
    unfold PL_X4_nextOrder_47 at hP
    refine wp_seg (pc' := 51) [.iload 2, .iload 1, .iconst 1, .iadd] (by decide +kernel) (?_ : Wp E (d + 1) 25 51 [.ref 49, .int v1, .int v2, .null, .null] [.int (v1 + (Int32.ofInt 1)), .int v2] M L Q)
    refine wp_icmple (off := 24) 75 (by decide +kernel) (by decide) (fun c_3 => ?_) (fun c_3 => ?_)
    · have hP := hP.1 c_3
      refine wp_seg (pc' := 78) [.aload 0, .iload 1, .iload 2] (by decide +kernel) (?_ : Wp E (d + 1) 25 78 [.ref 49, .int v1, .int v2, .null, .null] [.int v2, .int v1, .ref 49] M L Q)
      refine wp_callV 26 49 [.int v1, .int v2] (i := 115) (by decide +kernel) (by decide +kernel) (by decide +kernel) (by decide +kernel) rfl rfl rfl (rest := []) rfl rfl ?_
      obtain ⟨a_4, hP⟩ := hP
      obtain ⟨a_5, hP⟩ := hP
      refine s_X4_swap M v1 v2 a_4 a_5 ?_
      show Wp E (d + 1) 25 81 [.ref 49, .int v1, .int v2, .null, .null] [] (g_X4_swap M v1 v2) L Q
      refine wp_seg (pc' := 93) [.iload 1, .iconst 1, .iadd, .istore 3, .aload 0, .getfield 263, .iconst 1, .isub, .istore 4] (by decide +kernel) (?_ : Wp E (d + 1) 25 93 [.ref 49, .int v1, .int v2, .int (v1 + (Int32.ofInt 1)), .int (((g_X4_swap M v1 v2) 49 7) - (Int32.ofInt 1))] [] (g_X4_swap M v1 v2) L Q)
      exact tl_X4_nextOrder_93 hK 100000 v1 v2 (v1 + (Int32.ofInt 1)) (((g_X4_swap M v1 v2) 49 7) - (Int32.ofInt 1)) (g_X4_swap M v1 v2) L hP
    · have hP := hP.2 c_3
      obtain ⟨a_9, hP⟩ := hP
      refine wp_seg (pc' := 60) [.aload 0, .getfield 260, .iload 2, .iaload] (by decide +kernel) (show aok 54 0 v2 ∧ Wp E (d + 1) 25 60 [.ref 49, .int v1, .int v2, .null, .null] [.int (M 54 v2.toNatClampNeg)] M L Q from ⟨⟨rfl, a_9⟩, ?_⟩)
      obtain ⟨a_10, hP⟩ := hP
      refine wp_seg (pc' := 66) [.aload 0, .getfield 260, .iload 1, .iaload] (by decide +kernel) (show aok 54 0 v1 ∧ Wp E (d + 1) 25 66 [.ref 49, .int v1, .int v2, .null, .null] [.int (M 54 v1.toNatClampNeg), .int (M 54 v2.toNatClampNeg)] M L Q from ⟨⟨rfl, a_10⟩, ?_⟩)
      refine wp_icmpge (off := 9) 75 (by decide +kernel) (by decide) (fun c_11 => ?_) (fun c_11 => ?_)
      · have hP := hP.1 c_11
        refine wp_seg (pc' := 78) [.aload 0, .iload 1, .iload 2] (by decide +kernel) (?_ : Wp E (d + 1) 25 78 [.ref 49, .int v1, .int v2, .null, .null] [.int v2, .int v1, .ref 49] M L Q)
        refine wp_callV 26 49 [.int v1, .int v2] (i := 115) (by decide +kernel) (by decide +kernel) (by decide +kernel) (by decide +kernel) rfl rfl rfl (rest := []) rfl rfl ?_
        obtain ⟨a_12, hP⟩ := hP
        obtain ⟨a_13, hP⟩ := hP
        refine s_X4_swap M v1 v2 a_12 a_13 ?_
        show Wp E (d + 1) 25 81 [.ref 49, .int v1, .int v2, .null, .null] [] (g_X4_swap M v1 v2) L Q
        refine wp_seg (pc' := 93) [.iload 1, .iconst 1, .iadd, .istore 3, .aload 0, .getfield 263, .iconst 1, .isub, .istore 4] (by decide +kernel) (?_ : Wp E (d + 1) 25 93 [.ref 49, .int v1, .int v2, .int (v1 + (Int32.ofInt 1)), .int (((g_X4_swap M v1 v2) 49 7) - (Int32.ofInt 1))] [] (g_X4_swap M v1 v2) L Q)
        exact tl_X4_nextOrder_93 hK 100000 v1 v2 (v1 + (Int32.ofInt 1)) (((g_X4_swap M v1 v2) 49 7) - (Int32.ofInt 1)) (g_X4_swap M v1 v2) L hP
      · have hP := hP.2 c_11
        refine wp_seg (pc' := 47) [.iinc 2 (-1), .goto 0] (by decide +kernel) (?_ : Wp E (d + 1) 25 47 [.ref 49, .int v1, .int (v2 + Int32.ofInt (-1)), .null, .null] [] M L Q)
        exact ih v1 (v2 + Int32.ofInt (-1)) M L hP
def PL_X4_nextOrder_7 (K : Int32 → Mem → LMem → Prop)  : Nat → Int32 → Mem → LMem → Prop
  | 0, _, _, _ => False
  | n_ + 1, v1, M, L => ((v1 < 0 → ((0 ≤ v1 → PL_X4_nextOrder_47 K 100000 v1 ((M 49 7) - (Int32.ofInt 1)) M L) ∧ (¬ (0 ≤ v1) → K (Int32.ofInt 0) M L))) ∧ (¬ (v1 < 0) → (vp_in v1 5 ∧ (vp_in (v1 + (Int32.ofInt 1)) 5 ∧ (((M 54 v1.toNatClampNeg) ≤ (M 54 ((v1 + (Int32.ofInt 1)).toNatClampNeg)) → ((0 ≤ v1 → PL_X4_nextOrder_47 K 100000 v1 ((M 49 7) - (Int32.ofInt 1)) M L) ∧ (¬ (0 ≤ v1) → K (Int32.ofInt 0) M L))) ∧ (¬ ((M 54 v1.toNatClampNeg) ≤ (M 54 ((v1 + (Int32.ofInt 1)).toNatClampNeg))) → PL_X4_nextOrder_7 K n_ (v1 + Int32.ofInt (-1)) M L))))))
theorem tl_X4_nextOrder_7 {E : VE} {d : Nat} {Q : QQ} {K : Int32 → Mem → LMem → Prop}  (hK : ∀ (v : Int32) (M : Mem) (L : LMem), K v M L → Q (some (.int v)) M L)  : ∀ (n_ : Nat) (v1 : Int32) (M : Mem) (L : LMem), PL_X4_nextOrder_7 K n_ v1 M L → Wp E (d + 1) 25 7 [.ref 49, .int v1, .null, .null, .null] [] M L Q := by
  intro n_
  induction n_ with
  | zero => intro v1 M L hP; exact False.elim hP
  | succ n_ ih =>
    intro v1 M L hP
    unfold PL_X4_nextOrder_7 at hP
    refine wp_seg (pc' := 8) [.iload 1] (by decide +kernel) (?_ : Wp E (d + 1) 25 8 [.ref 49, .int v1, .null, .null, .null] [.int v1] M L Q)
    refine wp_iflt (off := 26) 34 (by decide +kernel) (by decide) (fun c_1 => ?_) (fun c_1 => ?_)
    · have hP := hP.1 c_1
      refine wp_seg (pc' := 35) [.iload 1] (by decide +kernel) (?_ : Wp E (d + 1) 25 35 [.ref 49, .int v1, .null, .null, .null] [.int v1] M L Q)
      refine wp_ifge (off := 5) 40 (by decide +kernel) (by decide) (fun c_2 => ?_) (fun c_2 => ?_)
      · have hP := hP.1 c_2
        refine wp_seg (pc' := 47) [.aload 0, .getfield 263, .iconst 1, .isub, .istore 2] (by decide +kernel) (?_ : Wp E (d + 1) 25 47 [.ref 49, .int v1, .int ((M 49 7) - (Int32.ofInt 1)), .null, .null] [] M L Q)
        exact tl_X4_nextOrder_47 hK 100000 v1 ((M 49 7) - (Int32.ofInt 1)) M L hP
      · have hP := hP.2 c_2
        refine wp_seg (pc' := 39) [.iconst 0] (by decide +kernel) (?_ : Wp E (d + 1) 25 39 [.ref 49, .int v1, .null, .null, .null] [.int (Int32.ofInt 0)] M L Q)
        exact wp_zret (by decide +kernel) rfl (by decide) (hK _ _ _ hP)
    · have hP := hP.2 c_1
      obtain ⟨a_14, hP⟩ := hP
      refine wp_seg (pc' := 17) [.aload 0, .getfield 260, .iload 1, .iaload] (by decide +kernel) (show aok 54 0 v1 ∧ Wp E (d + 1) 25 17 [.ref 49, .int v1, .null, .null, .null] [.int (M 54 v1.toNatClampNeg)] M L Q from ⟨⟨rfl, a_14⟩, ?_⟩)
      obtain ⟨a_15, hP⟩ := hP
      refine wp_seg (pc' := 25) [.aload 0, .getfield 260, .iload 1, .iconst 1, .iadd, .iaload] (by decide +kernel) (show aok 54 0 (v1 + (Int32.ofInt 1)) ∧ Wp E (d + 1) 25 25 [.ref 49, .int v1, .null, .null, .null] [.int (M 54 ((v1 + (Int32.ofInt 1)).toNatClampNeg)), .int (M 54 v1.toNatClampNeg)] M L Q from ⟨⟨rfl, a_15⟩, ?_⟩)
      refine wp_icmple (off := 9) 34 (by decide +kernel) (by decide) (fun c_16 => ?_) (fun c_16 => ?_)
      · have hP := hP.1 c_16
        refine wp_seg (pc' := 35) [.iload 1] (by decide +kernel) (?_ : Wp E (d + 1) 25 35 [.ref 49, .int v1, .null, .null, .null] [.int v1] M L Q)
        refine wp_ifge (off := 5) 40 (by decide +kernel) (by decide) (fun c_17 => ?_) (fun c_17 => ?_)
        · have hP := hP.1 c_17
          refine wp_seg (pc' := 47) [.aload 0, .getfield 263, .iconst 1, .isub, .istore 2] (by decide +kernel) (?_ : Wp E (d + 1) 25 47 [.ref 49, .int v1, .int ((M 49 7) - (Int32.ofInt 1)), .null, .null] [] M L Q)
          exact tl_X4_nextOrder_47 hK 100000 v1 ((M 49 7) - (Int32.ofInt 1)) M L hP
        · have hP := hP.2 c_17
          refine wp_seg (pc' := 39) [.iconst 0] (by decide +kernel) (?_ : Wp E (d + 1) 25 39 [.ref 49, .int v1, .null, .null, .null] [.int (Int32.ofInt 0)] M L Q)
          exact wp_zret (by decide +kernel) rfl (by decide) (hK _ _ _ hP)
      · have hP := hP.2 c_16
        refine wp_seg (pc' := 7) [.iinc 1 (-1), .goto 0] (by decide +kernel) (?_ : Wp E (d + 1) 25 7 [.ref 49, .int (v1 + Int32.ofInt (-1)), .null, .null, .null] [] M L Q)
        exact ih (v1 + Int32.ofInt (-1)) M L hP
def P_X4_nextOrder (M : Mem) (L : LMem) (K : Int32 → Mem → LMem → Prop) : Prop := PL_X4_nextOrder_7 K 100000 ((M 49 7) - (Int32.ofInt 2)) M L
theorem t_X4_nextOrder {E : VE} {d : Nat} {Q : QQ} {K : Int32 → Mem → LMem → Prop} {M : Mem} {L : LMem} (hP : P_X4_nextOrder M L K) (hK : ∀ (v : Int32) (M : Mem) (L : LMem), K v M L → Q (some (.int v)) M L) : Wp E (d + 1) 25 0 [.ref 49, .null, .null, .null, .null] [] M L Q := by
  unfold P_X4_nextOrder at hP
  refine wp_seg (pc' := 7) [.aload 0, .getfield 263, .iconst 2, .isub, .istore 1] (by decide +kernel) (?_ : Wp E (d + 1) 25 7 [.ref 49, .int ((M 49 7) - (Int32.ofInt 2)), .null, .null, .null] [] M L Q)
  exact tl_X4_nextOrder_7 hK 100000 ((M 49 7) - (Int32.ofInt 2)) M L hP

def PL_X4_gather_23 (K : Int32 → Mem → LMem → Prop)  : Nat → Int32 → Mem → LMem → Prop
  | 0, _, _, _ => False
  | n_ + 1, v3, M, L => (((M 49 7) ≤ v3 → K (Int32.ofInt 1) M L) ∧ (¬ ((M 49 7) ≤ v3) → (vp_in v3 5 ∧ P_X6_find (M 10 v3.toNatClampNeg) (M 11 v3.toNatClampNeg) (Int32.ofInt 0) M L (fun v_8 M_6 L_7 => ((v_8 = 0 → K (Int32.ofInt 0) M_6 L_7) ∧ (¬ (v_8 = 0) → PL_X4_gather_23 K n_ (v3 + Int32.ofInt 1) (mput (mput (mput (mput M_6 50 v3.toNatClampNeg (((Int32.ofInt 1) <<< ((M_6 10 v3.toNatClampNeg) &&& 31)) ||| ((Int32.ofInt 1) <<< ((M_6 11 v3.toNatClampNeg) &&& 31)))) 51 v3.toNatClampNeg (M_6 37 5)) 52 v3.toNatClampNeg (M_6 12 v3.toNatClampNeg)) 53 v3.toNatClampNeg (M_6 13 v3.toNatClampNeg)) L_7))))))
theorem tl_X4_gather_23 {E : VE} {d : Nat} {Q : QQ} {K : Int32 → Mem → LMem → Prop}  (hK : ∀ (v : Int32) (M : Mem) (L : LMem), K v M L → Q (some (.int v)) M L)  : ∀ (n_ : Nat) (v3 : Int32) (M : Mem) (L : LMem), PL_X4_gather_23 K n_ v3 M L → Wp E (d + 4) 17 23 [.ref 49, .ref 3, .ref 37, .int v3] [] M L Q := by
  intro n_
  induction n_ with
  | zero => intro v3 M L hP; exact False.elim hP
  | succ n_ ih =>
    intro v3 M L hP
    unfold PL_X4_gather_23 at hP
    refine wp_seg (pc' := 28) [.iload 3, .aload 0, .getfield 263] (by decide +kernel) (?_ : Wp E (d + 4) 17 28 [.ref 49, .ref 3, .ref 37, .int v3] [.int (M 49 7), .int v3] M L Q)
    refine wp_icmpge (off := 89) 117 (by decide +kernel) (by decide) (fun c_4 => ?_) (fun c_4 => ?_)
    · have hP := hP.1 c_4
      refine wp_seg (pc' := 118) [.iconst 1] (by decide +kernel) (?_ : Wp E (d + 4) 17 118 [.ref 49, .ref 3, .ref 37, .int v3] [.int (Int32.ofInt 1)] M L Q)
      exact wp_zret (by decide +kernel) rfl (by decide) (hK _ _ _ hP)
    · have hP := hP.2 c_4
      obtain ⟨a_5, hP⟩ := hP
      refine wp_seg (pc' := 39) [.aload 2, .aload 1, .aload 1, .getfield 196, .iload 3, .iaload] (by decide +kernel) (show aok 10 0 v3 ∧ Wp E (d + 4) 17 39 [.ref 49, .ref 3, .ref 37, .int v3] [.int (M 10 v3.toNatClampNeg), .ref 3, .ref 37] M L Q from ⟨⟨rfl, a_5⟩, ?_⟩)
      refine wp_seg (pc' := 45) [.aload 1, .getfield 197, .iload 3, .iaload] (by decide +kernel) (show aok 11 0 v3 ∧ Wp E (d + 4) 17 45 [.ref 49, .ref 3, .ref 37, .int v3] [.int (M 11 v3.toNatClampNeg), .int (M 10 v3.toNatClampNeg), .ref 3, .ref 37] M L Q from ⟨⟨rfl, a_5⟩, ?_⟩)
      refine wp_seg (pc' := 46) [.iconst 0] (by decide +kernel) (?_ : Wp E (d + 4) 17 46 [.ref 49, .ref 3, .ref 37, .int v3] [.int (Int32.ofInt 0), .int (M 11 v3.toNatClampNeg), .int (M 10 v3.toNatClampNeg), .ref 3, .ref 37] M L Q)
      refine wp_callV 38 37 [.ref 3, .int (M 10 v3.toNatClampNeg), .int (M 11 v3.toNatClampNeg), .int (Int32.ofInt 0)] (i := 62) (by decide +kernel) (by decide +kernel) (by decide +kernel) (by decide +kernel) rfl rfl rfl (rest := []) rfl rfl ?_
      refine t_X6_find hP (fun v_8 M_6 L_7 hP => ?_)
      show Wp E (d + 4) 17 49 [.ref 49, .ref 3, .ref 37, .int v3] [.int v_8] M_6 L_7 Q
      refine wp_ifne (off := 5) 54 (by decide +kernel) (by decide) (fun c_9 => ?_) (fun c_9 => ?_)
      · have hP := hP.2 c_9
        refine wp_seg (pc' := 66) [.aload 0, .getfield 256, .iload 3, .iconst 1, .aload 1, .getfield 196, .iload 3, .iaload] (by decide +kernel) (show aok 10 0 v3 ∧ Wp E (d + 4) 17 66 [.ref 49, .ref 3, .ref 37, .int v3] [.int (M_6 10 v3.toNatClampNeg), .int (Int32.ofInt 1), .int v3, .ref 50] M_6 L_7 Q from ⟨⟨rfl, a_5⟩, ?_⟩)
        refine wp_seg (pc' := 74) [.ishl, .iconst 1, .aload 1, .getfield 197, .iload 3, .iaload] (by decide +kernel) (show aok 11 0 v3 ∧ Wp E (d + 4) 17 74 [.ref 49, .ref 3, .ref 37, .int v3] [.int (M_6 11 v3.toNatClampNeg), .int (Int32.ofInt 1), .int ((Int32.ofInt 1) <<< ((M_6 10 v3.toNatClampNeg) &&& 31)), .int v3, .ref 50] M_6 L_7 Q from ⟨⟨rfl, a_5⟩, ?_⟩)
        refine wp_seg (pc' := 77) [.ishl, .ior, .iastore] (by decide +kernel) (show aok 50 0 v3 ∧ Wp E (d + 4) 17 77 [.ref 49, .ref 3, .ref 37, .int v3] [] (mput M_6 50 v3.toNatClampNeg (((Int32.ofInt 1) <<< ((M_6 10 v3.toNatClampNeg) &&& 31)) ||| ((Int32.ofInt 1) <<< ((M_6 11 v3.toNatClampNeg) &&& 31)))) L_7 Q from ⟨⟨rfl, a_5⟩, ?_⟩)
        refine wp_seg (pc' := 87) [.aload 0, .getfield 257, .iload 3, .aload 2, .getfield 389, .iastore] (by decide +kernel) (show aok 51 0 v3 ∧ Wp E (d + 4) 17 87 [.ref 49, .ref 3, .ref 37, .int v3] [] (mput (mput M_6 50 v3.toNatClampNeg (((Int32.ofInt 1) <<< ((M_6 10 v3.toNatClampNeg) &&& 31)) ||| ((Int32.ofInt 1) <<< ((M_6 11 v3.toNatClampNeg) &&& 31)))) 51 v3.toNatClampNeg (M_6 37 5)) L_7 Q from ⟨⟨rfl, a_5⟩, ?_⟩)
        refine wp_seg (pc' := 98) [.aload 0, .getfield 258, .iload 3, .aload 1, .getfield 198, .iload 3, .iaload] (by decide +kernel) (show aok 12 0 v3 ∧ Wp E (d + 4) 17 98 [.ref 49, .ref 3, .ref 37, .int v3] [.int (M_6 12 v3.toNatClampNeg), .int v3, .ref 52] (mput (mput M_6 50 v3.toNatClampNeg (((Int32.ofInt 1) <<< ((M_6 10 v3.toNatClampNeg) &&& 31)) ||| ((Int32.ofInt 1) <<< ((M_6 11 v3.toNatClampNeg) &&& 31)))) 51 v3.toNatClampNeg (M_6 37 5)) L_7 Q from ⟨⟨rfl, a_5⟩, ?_⟩)
        refine wp_seg (pc' := 99) [.iastore] (by decide +kernel) (show aok 52 0 v3 ∧ Wp E (d + 4) 17 99 [.ref 49, .ref 3, .ref 37, .int v3] [] (mput (mput (mput M_6 50 v3.toNatClampNeg (((Int32.ofInt 1) <<< ((M_6 10 v3.toNatClampNeg) &&& 31)) ||| ((Int32.ofInt 1) <<< ((M_6 11 v3.toNatClampNeg) &&& 31)))) 51 v3.toNatClampNeg (M_6 37 5)) 52 v3.toNatClampNeg (M_6 12 v3.toNatClampNeg)) L_7 Q from ⟨⟨rfl, a_5⟩, ?_⟩)
        refine wp_seg (pc' := 110) [.aload 0, .getfield 259, .iload 3, .aload 1, .getfield 199, .iload 3, .iaload] (by decide +kernel) (show aok 13 0 v3 ∧ Wp E (d + 4) 17 110 [.ref 49, .ref 3, .ref 37, .int v3] [.int (M_6 13 v3.toNatClampNeg), .int v3, .ref 53] (mput (mput (mput M_6 50 v3.toNatClampNeg (((Int32.ofInt 1) <<< ((M_6 10 v3.toNatClampNeg) &&& 31)) ||| ((Int32.ofInt 1) <<< ((M_6 11 v3.toNatClampNeg) &&& 31)))) 51 v3.toNatClampNeg (M_6 37 5)) 52 v3.toNatClampNeg (M_6 12 v3.toNatClampNeg)) L_7 Q from ⟨⟨rfl, a_5⟩, ?_⟩)
        refine wp_seg (pc' := 111) [.iastore] (by decide +kernel) (show aok 53 0 v3 ∧ Wp E (d + 4) 17 111 [.ref 49, .ref 3, .ref 37, .int v3] [] (mput (mput (mput (mput M_6 50 v3.toNatClampNeg (((Int32.ofInt 1) <<< ((M_6 10 v3.toNatClampNeg) &&& 31)) ||| ((Int32.ofInt 1) <<< ((M_6 11 v3.toNatClampNeg) &&& 31)))) 51 v3.toNatClampNeg (M_6 37 5)) 52 v3.toNatClampNeg (M_6 12 v3.toNatClampNeg)) 53 v3.toNatClampNeg (M_6 13 v3.toNatClampNeg)) L_7 Q from ⟨⟨rfl, a_5⟩, ?_⟩)
        refine wp_seg (pc' := 23) [.iinc 3 1, .goto 0] (by decide +kernel) (?_ : Wp E (d + 4) 17 23 [.ref 49, .ref 3, .ref 37, .int (v3 + Int32.ofInt 1)] [] (mput (mput (mput (mput M_6 50 v3.toNatClampNeg (((Int32.ofInt 1) <<< ((M_6 10 v3.toNatClampNeg) &&& 31)) ||| ((Int32.ofInt 1) <<< ((M_6 11 v3.toNatClampNeg) &&& 31)))) 51 v3.toNatClampNeg (M_6 37 5)) 52 v3.toNatClampNeg (M_6 12 v3.toNatClampNeg)) 53 v3.toNatClampNeg (M_6 13 v3.toNatClampNeg)) L_7 Q)
        exact ih (v3 + Int32.ofInt 1) (mput (mput (mput (mput M_6 50 v3.toNatClampNeg (((Int32.ofInt 1) <<< ((M_6 10 v3.toNatClampNeg) &&& 31)) ||| ((Int32.ofInt 1) <<< ((M_6 11 v3.toNatClampNeg) &&& 31)))) 51 v3.toNatClampNeg (M_6 37 5)) 52 v3.toNatClampNeg (M_6 12 v3.toNatClampNeg)) 53 v3.toNatClampNeg (M_6 13 v3.toNatClampNeg)) L_7 hP
      · have hP := hP.1 c_9
        refine wp_seg (pc' := 53) [.iconst 0] (by decide +kernel) (?_ : Wp E (d + 4) 17 53 [.ref 49, .ref 3, .ref 37, .int v3] [.int (Int32.ofInt 0)] M_6 L_7 Q)
        exact wp_zret (by decide +kernel) rfl (by decide) (hK _ _ _ hP)
def P_X4_gather (M : Mem) (L : LMem) (K : Int32 → Mem → LMem → Prop) : Prop := P_X2_ofKind (Int32.ofInt 61) (mput M 49 7 (M 3 8)) L (fun v_3 M_1 L_2 => PL_X4_gather_23 K 100000 (Int32.ofInt 0) (mput M_1 49 8 v_3) L_2)
theorem t_X4_gather {E : VE} {d : Nat} {Q : QQ} {K : Int32 → Mem → LMem → Prop} {M : Mem} {L : LMem} (hP : P_X4_gather M L K) (hK : ∀ (v : Int32) (M : Mem) (L : LMem), K v M L → Q (some (.int v)) M L) : Wp E (d + 4) 17 0 [.ref 49, .ref 3, .ref 37, .null] [] M L Q := by
  unfold P_X4_gather at hP
  refine wp_seg (pc' := 15) [.aload 0, .aload 1, .getfield 200, .putfield 263, .aload 0, .aload 1, .getfield 192, .iconst 61] (by decide +kernel) (?_ : Wp E (d + 4) 17 15 [.ref 49, .ref 3, .ref 37, .null] [.int (Int32.ofInt 61), .ref 4, .ref 49] (mput M 49 7 (M 3 8)) L Q)
  refine wp_callV 14 4 [.int (Int32.ofInt 61)] (i := 47) (by decide +kernel) (by decide +kernel) (by decide +kernel) (by decide +kernel) rfl rfl rfl (rest := [.ref 49]) rfl rfl ?_
  refine t_X2_ofKind hP (fun v_3 M_1 L_2 hP => ?_)
  show Wp E (d + 4) 17 18 [.ref 49, .ref 3, .ref 37, .null] [.int v_3, .ref 49] M_1 L_2 Q
  refine wp_seg (pc' := 23) [.putfield 264, .iconst 0, .istore 3] (by decide +kernel) (?_ : Wp E (d + 4) 17 23 [.ref 49, .ref 3, .ref 37, .int (Int32.ofInt 0)] [] (mput M_1 49 8 v_3) L_2 Q)
  exact tl_X4_gather_23 hK 100000 (Int32.ofInt 0) (mput M_1 49 8 v_3) L_2 hP

def PL_X4_seek_35 (K : Mem → LMem → Prop)  : Nat → Int32 → Int32 → Int32 → Mem → LMem → Prop
  | 0, _, _, _, _, _ => False
  | n_ + 1, v1, v2, v3, M, L => (((Int32.ofInt 120) ≤ v3 → K M L) ∧ (¬ ((Int32.ofInt 120) ≤ v3) → ((v2 = 0 → K M L) ∧ (¬ (v2 = 0) → P_X4_orderEnd v1 M L (fun v_6 M_4 L_5 => (((M_4 49 9) ≤ v_6 → ((v1 = 0 → P_X4_nextOrder M_4 L_5 (fun v_11 M_9 L_10 => ((v_11 = 0 → PL_X4_seek_35 K n_ v1 (Int32.ofInt 0) (v3 + Int32.ofInt 1) M_9 L_10) ∧ (¬ (v_11 = 0) → PL_X4_seek_35 K n_ v1 (Int32.ofInt 1) (v3 + Int32.ofInt 1) M_9 L_10)))) ∧ (¬ (v1 = 0) → (((M_4 49 10) = 0 → P_X4_nextOrder M_4 L_5 (fun v_16 M_14 L_15 => ((v_16 = 0 → PL_X4_seek_35 K n_ v1 (Int32.ofInt 0) (v3 + Int32.ofInt 1) M_14 L_15) ∧ (¬ (v_16 = 0) → PL_X4_seek_35 K n_ v1 (Int32.ofInt 1) (v3 + Int32.ofInt 1) M_14 L_15)))) ∧ (¬ ((M_4 49 10) = 0) → PL_X4_seek_35 K n_ v1 (Int32.ofInt 0) (v3 + Int32.ofInt 1) M_4 L_5))))) ∧ (¬ ((M_4 49 9) ≤ v_6) → ((v1 = 0 → P_X4_nextOrder (mcpy (mput (mput M_4 49 9 v_6) 49 10 (Int32.ofInt 1)) 54 55 ((Int32.ofInt 0).toNatClampNeg) ((Int32.ofInt 0).toNatClampNeg) ((Int32.ofInt 5).toNatClampNeg)) L_5 (fun v_21 M_19 L_20 => ((v_21 = 0 → PL_X4_seek_35 K n_ v1 (Int32.ofInt 0) (v3 + Int32.ofInt 1) M_19 L_20) ∧ (¬ (v_21 = 0) → PL_X4_seek_35 K n_ v1 (Int32.ofInt 1) (v3 + Int32.ofInt 1) M_19 L_20)))) ∧ (¬ (v1 = 0) → ((((mcpy (mput (mput M_4 49 9 v_6) 49 10 (Int32.ofInt 1)) 54 55 ((Int32.ofInt 0).toNatClampNeg) ((Int32.ofInt 0).toNatClampNeg) ((Int32.ofInt 5).toNatClampNeg)) 49 10) = 0 → P_X4_nextOrder (mcpy (mput (mput M_4 49 9 v_6) 49 10 (Int32.ofInt 1)) 54 55 ((Int32.ofInt 0).toNatClampNeg) ((Int32.ofInt 0).toNatClampNeg) ((Int32.ofInt 5).toNatClampNeg)) L_5 (fun v_26 M_24 L_25 => ((v_26 = 0 → PL_X4_seek_35 K n_ v1 (Int32.ofInt 0) (v3 + Int32.ofInt 1) M_24 L_25) ∧ (¬ (v_26 = 0) → PL_X4_seek_35 K n_ v1 (Int32.ofInt 1) (v3 + Int32.ofInt 1) M_24 L_25)))) ∧ (¬ (((mcpy (mput (mput M_4 49 9 v_6) 49 10 (Int32.ofInt 1)) 54 55 ((Int32.ofInt 0).toNatClampNeg) ((Int32.ofInt 0).toNatClampNeg) ((Int32.ofInt 5).toNatClampNeg)) 49 10) = 0) → PL_X4_seek_35 K n_ v1 (Int32.ofInt 0) (v3 + Int32.ofInt 1) (mcpy (mput (mput M_4 49 9 v_6) 49 10 (Int32.ofInt 1)) 54 55 ((Int32.ofInt 0).toNatClampNeg) ((Int32.ofInt 0).toNatClampNeg) ((Int32.ofInt 5).toNatClampNeg)) L_5)))))))))))
theorem tl_X4_seek_35 {E : VE} {d : Nat} {Q : QQ} {K : Mem → LMem → Prop}  (hK : ∀ (M : Mem) (L : LMem), K M L → Q none M L)  : ∀ (n_ : Nat) (v1 : Int32) (v2 : Int32) (v3 : Int32) (M : Mem) (L : LMem), PL_X4_seek_35 K n_ v1 v2 v3 M L → Wp E (d + 3) 18 35 [.ref 49, .int v1, .int v2, .int v3, .null] [] M L Q := by
  intro n_
  induction n_ with
  | zero => intro v1 v2 v3 M L hP; exact False.elim hP
  | succ n_ ih =>
    intro v1 v2 v3 M L hP
    unfold PL_X4_seek_35 at hP
    refine wp_seg (pc' := 38) [.iload 3, .iconst 120] (by decide +kernel) (?_ : Wp E (d + 3) 18 38 [.ref 49, .int v1, .int v2, .int v3, .null] [.int (Int32.ofInt 120), .int v3] M L Q)
    refine wp_icmpge (off := 78) 116 (by decide +kernel) (by decide) (fun c_2 => ?_) (fun c_2 => ?_)
    · have hP := hP.1 c_2
      exact wp_vret (by decide +kernel) rfl (hK _ _ hP)
    · have hP := hP.2 c_2
      refine wp_seg (pc' := 42) [.iload 2] (by decide +kernel) (?_ : Wp E (d + 3) 18 42 [.ref 49, .int v1, .int v2, .int v3, .null] [.int v2] M L Q)
      refine wp_ifeq (off := 74) 116 (by decide +kernel) (by decide) (fun c_3 => ?_) (fun c_3 => ?_)
      · have hP := hP.1 c_3
        exact wp_vret (by decide +kernel) rfl (hK _ _ hP)
      · have hP := hP.2 c_3
        refine wp_seg (pc' := 47) [.aload 0, .iload 1] (by decide +kernel) (?_ : Wp E (d + 3) 18 47 [.ref 49, .int v1, .int v2, .int v3, .null] [.int v1, .ref 49] M L Q)
        refine wp_callV 20 49 [.int v1] (i := 80) (by decide +kernel) (by decide +kernel) (by decide +kernel) (by decide +kernel) rfl rfl rfl (rest := []) rfl rfl ?_
        refine t_X4_orderEnd hP (fun v_6 M_4 L_5 hP => ?_)
        show Wp E (d + 3) 18 50 [.ref 49, .int v1, .int v2, .int v3, .null] [.int v_6] M_4 L_5 Q
        refine wp_seg (pc' := 58) [.istore 4, .iload 4, .aload 0, .getfield 265] (by decide +kernel) (?_ : Wp E (d + 3) 18 58 [.ref 49, .int v1, .int v2, .int v3, .int v_6] [.int (M_4 49 9), .int v_6] M_4 L_5 Q)
        refine wp_icmpge (off := 28) 86 (by decide +kernel) (by decide) (fun c_7 => ?_) (fun c_7 => ?_)
        · have hP := hP.1 c_7
          refine wp_seg (pc' := 87) [.iload 1] (by decide +kernel) (?_ : Wp E (d + 3) 18 87 [.ref 49, .int v1, .int v2, .int v3, .int v_6] [.int v1] M_4 L_5 Q)
          refine wp_ifeq (off := 10) 97 (by decide +kernel) (by decide) (fun c_8 => ?_) (fun c_8 => ?_)
          · have hP := hP.1 c_8
            refine wp_seg (pc' := 98) [.aload 0] (by decide +kernel) (?_ : Wp E (d + 3) 18 98 [.ref 49, .int v1, .int v2, .int v3, .int v_6] [.ref 49] M_4 L_5 Q)
            refine wp_callV 25 49 [] (i := 90) (by decide +kernel) (by decide +kernel) (by decide +kernel) (by decide +kernel) rfl rfl rfl (rest := []) rfl rfl ?_
            refine t_X4_nextOrder hP (fun v_11 M_9 L_10 hP => ?_)
            show Wp E (d + 3) 18 101 [.ref 49, .int v1, .int v2, .int v3, .int v_6] [.int v_11] M_9 L_10 Q
            refine wp_ifeq (off := 7) 108 (by decide +kernel) (by decide) (fun c_12 => ?_) (fun c_12 => ?_)
            · have hP := hP.1 c_12
              refine wp_seg (pc' := 35) [.iconst 0, .istore 2, .iinc 3 1, .goto 0] (by decide +kernel) (?_ : Wp E (d + 3) 18 35 [.ref 49, .int v1, .int (Int32.ofInt 0), .int (v3 + Int32.ofInt 1), .int v_6] [] M_9 L_10 Q)
              refine wp_drop (lo := [.ref 49, .int v1, .int (Int32.ofInt 0), .int (v3 + Int32.ofInt 1), .null]) ⟨Or.inr rfl, Or.inr rfl, Or.inr rfl, Or.inr rfl, Or.inl rfl, trivial⟩ ?_
              exact ih v1 (Int32.ofInt 0) (v3 + Int32.ofInt 1) M_9 L_10 hP
            · have hP := hP.2 c_12
              refine wp_seg (pc' := 35) [.iconst 1, .goto 0, .istore 2, .iinc 3 1, .goto 0] (by decide +kernel) (?_ : Wp E (d + 3) 18 35 [.ref 49, .int v1, .int (Int32.ofInt 1), .int (v3 + Int32.ofInt 1), .int v_6] [] M_9 L_10 Q)
              refine wp_drop (lo := [.ref 49, .int v1, .int (Int32.ofInt 1), .int (v3 + Int32.ofInt 1), .null]) ⟨Or.inr rfl, Or.inr rfl, Or.inr rfl, Or.inr rfl, Or.inl rfl, trivial⟩ ?_
              exact ih v1 (Int32.ofInt 1) (v3 + Int32.ofInt 1) M_9 L_10 hP
          · have hP := hP.2 c_8
            refine wp_seg (pc' := 94) [.aload 0, .getfield 266] (by decide +kernel) (?_ : Wp E (d + 3) 18 94 [.ref 49, .int v1, .int v2, .int v3, .int v_6] [.int (M_4 49 10)] M_4 L_5 Q)
            refine wp_ifne (off := 14) 108 (by decide +kernel) (by decide) (fun c_13 => ?_) (fun c_13 => ?_)
            · have hP := hP.2 c_13
              refine wp_seg (pc' := 35) [.iconst 0, .istore 2, .iinc 3 1, .goto 0] (by decide +kernel) (?_ : Wp E (d + 3) 18 35 [.ref 49, .int v1, .int (Int32.ofInt 0), .int (v3 + Int32.ofInt 1), .int v_6] [] M_4 L_5 Q)
              refine wp_drop (lo := [.ref 49, .int v1, .int (Int32.ofInt 0), .int (v3 + Int32.ofInt 1), .null]) ⟨Or.inr rfl, Or.inr rfl, Or.inr rfl, Or.inr rfl, Or.inl rfl, trivial⟩ ?_
              exact ih v1 (Int32.ofInt 0) (v3 + Int32.ofInt 1) M_4 L_5 hP
            · have hP := hP.1 c_13
              refine wp_seg (pc' := 98) [.aload 0] (by decide +kernel) (?_ : Wp E (d + 3) 18 98 [.ref 49, .int v1, .int v2, .int v3, .int v_6] [.ref 49] M_4 L_5 Q)
              refine wp_callV 25 49 [] (i := 90) (by decide +kernel) (by decide +kernel) (by decide +kernel) (by decide +kernel) rfl rfl rfl (rest := []) rfl rfl ?_
              refine t_X4_nextOrder hP (fun v_16 M_14 L_15 hP => ?_)
              show Wp E (d + 3) 18 101 [.ref 49, .int v1, .int v2, .int v3, .int v_6] [.int v_16] M_14 L_15 Q
              refine wp_ifeq (off := 7) 108 (by decide +kernel) (by decide) (fun c_17 => ?_) (fun c_17 => ?_)
              · have hP := hP.1 c_17
                refine wp_seg (pc' := 35) [.iconst 0, .istore 2, .iinc 3 1, .goto 0] (by decide +kernel) (?_ : Wp E (d + 3) 18 35 [.ref 49, .int v1, .int (Int32.ofInt 0), .int (v3 + Int32.ofInt 1), .int v_6] [] M_14 L_15 Q)
                refine wp_drop (lo := [.ref 49, .int v1, .int (Int32.ofInt 0), .int (v3 + Int32.ofInt 1), .null]) ⟨Or.inr rfl, Or.inr rfl, Or.inr rfl, Or.inr rfl, Or.inl rfl, trivial⟩ ?_
                exact ih v1 (Int32.ofInt 0) (v3 + Int32.ofInt 1) M_14 L_15 hP
              · have hP := hP.2 c_17
                refine wp_seg (pc' := 35) [.iconst 1, .goto 0, .istore 2, .iinc 3 1, .goto 0] (by decide +kernel) (?_ : Wp E (d + 3) 18 35 [.ref 49, .int v1, .int (Int32.ofInt 1), .int (v3 + Int32.ofInt 1), .int v_6] [] M_14 L_15 Q)
                refine wp_drop (lo := [.ref 49, .int v1, .int (Int32.ofInt 1), .int (v3 + Int32.ofInt 1), .null]) ⟨Or.inr rfl, Or.inr rfl, Or.inr rfl, Or.inr rfl, Or.inl rfl, trivial⟩ ?_
                exact ih v1 (Int32.ofInt 1) (v3 + Int32.ofInt 1) M_14 L_15 hP
        · have hP := hP.2 c_7
          refine wp_seg (pc' := 72) [.aload 0, .iload 4, .putfield 265, .aload 0, .iconst 1, .putfield 266] (by decide +kernel) (show (Int32.ofInt 1 = 0 ∨ Int32.ofInt 1 = 1) ∧ Wp E (d + 3) 18 72 [.ref 49, .int v1, .int v2, .int v3, .int v_6] [] (mput (mput M_4 49 9 v_6) 49 10 (Int32.ofInt 1)) L_5 Q from ⟨(by decide), ?_⟩)
          refine wp_seg (pc' := 86) [.aload 0, .getfield 260, .iconst 0, .aload 0, .getfield 261, .iconst 0, .iconst 5, .invokestatic 2] (by decide +kernel) (show (oty 54 = 0 ∧ oty 55 = 0 ∧ ¬ (Int32.ofInt 0) < 0 ∧ ¬ (Int32.ofInt 0) < 0 ∧ ¬ (Int32.ofInt 5) < 0 ∧ (Int32.ofInt 0).toNatClampNeg + (Int32.ofInt 5).toNatClampNeg ≤ oln 54 ∧ (Int32.ofInt 0).toNatClampNeg + (Int32.ofInt 5).toNatClampNeg ≤ oln 55) ∧ Wp E (d + 3) 18 86 [.ref 49, .int v1, .int v2, .int v3, .int v_6] [] (mcpy (mput (mput M_4 49 9 v_6) 49 10 (Int32.ofInt 1)) 54 55 ((Int32.ofInt 0).toNatClampNeg) ((Int32.ofInt 0).toNatClampNeg) ((Int32.ofInt 5).toNatClampNeg)) L_5 Q from ⟨(by decide), ?_⟩)
          refine wp_seg (pc' := 87) [.iload 1] (by decide +kernel) (?_ : Wp E (d + 3) 18 87 [.ref 49, .int v1, .int v2, .int v3, .int v_6] [.int v1] (mcpy (mput (mput M_4 49 9 v_6) 49 10 (Int32.ofInt 1)) 54 55 ((Int32.ofInt 0).toNatClampNeg) ((Int32.ofInt 0).toNatClampNeg) ((Int32.ofInt 5).toNatClampNeg)) L_5 Q)
          refine wp_ifeq (off := 10) 97 (by decide +kernel) (by decide) (fun c_18 => ?_) (fun c_18 => ?_)
          · have hP := hP.1 c_18
            refine wp_seg (pc' := 98) [.aload 0] (by decide +kernel) (?_ : Wp E (d + 3) 18 98 [.ref 49, .int v1, .int v2, .int v3, .int v_6] [.ref 49] (mcpy (mput (mput M_4 49 9 v_6) 49 10 (Int32.ofInt 1)) 54 55 ((Int32.ofInt 0).toNatClampNeg) ((Int32.ofInt 0).toNatClampNeg) ((Int32.ofInt 5).toNatClampNeg)) L_5 Q)
            refine wp_callV 25 49 [] (i := 90) (by decide +kernel) (by decide +kernel) (by decide +kernel) (by decide +kernel) rfl rfl rfl (rest := []) rfl rfl ?_
            refine t_X4_nextOrder hP (fun v_21 M_19 L_20 hP => ?_)
            show Wp E (d + 3) 18 101 [.ref 49, .int v1, .int v2, .int v3, .int v_6] [.int v_21] M_19 L_20 Q
            refine wp_ifeq (off := 7) 108 (by decide +kernel) (by decide) (fun c_22 => ?_) (fun c_22 => ?_)
            · have hP := hP.1 c_22
              refine wp_seg (pc' := 35) [.iconst 0, .istore 2, .iinc 3 1, .goto 0] (by decide +kernel) (?_ : Wp E (d + 3) 18 35 [.ref 49, .int v1, .int (Int32.ofInt 0), .int (v3 + Int32.ofInt 1), .int v_6] [] M_19 L_20 Q)
              refine wp_drop (lo := [.ref 49, .int v1, .int (Int32.ofInt 0), .int (v3 + Int32.ofInt 1), .null]) ⟨Or.inr rfl, Or.inr rfl, Or.inr rfl, Or.inr rfl, Or.inl rfl, trivial⟩ ?_
              exact ih v1 (Int32.ofInt 0) (v3 + Int32.ofInt 1) M_19 L_20 hP
            · have hP := hP.2 c_22
              refine wp_seg (pc' := 35) [.iconst 1, .goto 0, .istore 2, .iinc 3 1, .goto 0] (by decide +kernel) (?_ : Wp E (d + 3) 18 35 [.ref 49, .int v1, .int (Int32.ofInt 1), .int (v3 + Int32.ofInt 1), .int v_6] [] M_19 L_20 Q)
              refine wp_drop (lo := [.ref 49, .int v1, .int (Int32.ofInt 1), .int (v3 + Int32.ofInt 1), .null]) ⟨Or.inr rfl, Or.inr rfl, Or.inr rfl, Or.inr rfl, Or.inl rfl, trivial⟩ ?_
              exact ih v1 (Int32.ofInt 1) (v3 + Int32.ofInt 1) M_19 L_20 hP
          · have hP := hP.2 c_18
            refine wp_seg (pc' := 94) [.aload 0, .getfield 266] (by decide +kernel) (?_ : Wp E (d + 3) 18 94 [.ref 49, .int v1, .int v2, .int v3, .int v_6] [.int ((mcpy (mput (mput M_4 49 9 v_6) 49 10 (Int32.ofInt 1)) 54 55 ((Int32.ofInt 0).toNatClampNeg) ((Int32.ofInt 0).toNatClampNeg) ((Int32.ofInt 5).toNatClampNeg)) 49 10)] (mcpy (mput (mput M_4 49 9 v_6) 49 10 (Int32.ofInt 1)) 54 55 ((Int32.ofInt 0).toNatClampNeg) ((Int32.ofInt 0).toNatClampNeg) ((Int32.ofInt 5).toNatClampNeg)) L_5 Q)
            refine wp_ifne (off := 14) 108 (by decide +kernel) (by decide) (fun c_23 => ?_) (fun c_23 => ?_)
            · have hP := hP.2 c_23
              refine wp_seg (pc' := 35) [.iconst 0, .istore 2, .iinc 3 1, .goto 0] (by decide +kernel) (?_ : Wp E (d + 3) 18 35 [.ref 49, .int v1, .int (Int32.ofInt 0), .int (v3 + Int32.ofInt 1), .int v_6] [] (mcpy (mput (mput M_4 49 9 v_6) 49 10 (Int32.ofInt 1)) 54 55 ((Int32.ofInt 0).toNatClampNeg) ((Int32.ofInt 0).toNatClampNeg) ((Int32.ofInt 5).toNatClampNeg)) L_5 Q)
              refine wp_drop (lo := [.ref 49, .int v1, .int (Int32.ofInt 0), .int (v3 + Int32.ofInt 1), .null]) ⟨Or.inr rfl, Or.inr rfl, Or.inr rfl, Or.inr rfl, Or.inl rfl, trivial⟩ ?_
              exact ih v1 (Int32.ofInt 0) (v3 + Int32.ofInt 1) (mcpy (mput (mput M_4 49 9 v_6) 49 10 (Int32.ofInt 1)) 54 55 ((Int32.ofInt 0).toNatClampNeg) ((Int32.ofInt 0).toNatClampNeg) ((Int32.ofInt 5).toNatClampNeg)) L_5 hP
            · have hP := hP.1 c_23
              refine wp_seg (pc' := 98) [.aload 0] (by decide +kernel) (?_ : Wp E (d + 3) 18 98 [.ref 49, .int v1, .int v2, .int v3, .int v_6] [.ref 49] (mcpy (mput (mput M_4 49 9 v_6) 49 10 (Int32.ofInt 1)) 54 55 ((Int32.ofInt 0).toNatClampNeg) ((Int32.ofInt 0).toNatClampNeg) ((Int32.ofInt 5).toNatClampNeg)) L_5 Q)
              refine wp_callV 25 49 [] (i := 90) (by decide +kernel) (by decide +kernel) (by decide +kernel) (by decide +kernel) rfl rfl rfl (rest := []) rfl rfl ?_
              refine t_X4_nextOrder hP (fun v_26 M_24 L_25 hP => ?_)
              show Wp E (d + 3) 18 101 [.ref 49, .int v1, .int v2, .int v3, .int v_6] [.int v_26] M_24 L_25 Q
              refine wp_ifeq (off := 7) 108 (by decide +kernel) (by decide) (fun c_27 => ?_) (fun c_27 => ?_)
              · have hP := hP.1 c_27
                refine wp_seg (pc' := 35) [.iconst 0, .istore 2, .iinc 3 1, .goto 0] (by decide +kernel) (?_ : Wp E (d + 3) 18 35 [.ref 49, .int v1, .int (Int32.ofInt 0), .int (v3 + Int32.ofInt 1), .int v_6] [] M_24 L_25 Q)
                refine wp_drop (lo := [.ref 49, .int v1, .int (Int32.ofInt 0), .int (v3 + Int32.ofInt 1), .null]) ⟨Or.inr rfl, Or.inr rfl, Or.inr rfl, Or.inr rfl, Or.inl rfl, trivial⟩ ?_
                exact ih v1 (Int32.ofInt 0) (v3 + Int32.ofInt 1) M_24 L_25 hP
              · have hP := hP.2 c_27
                refine wp_seg (pc' := 35) [.iconst 1, .goto 0, .istore 2, .iinc 3 1, .goto 0] (by decide +kernel) (?_ : Wp E (d + 3) 18 35 [.ref 49, .int v1, .int (Int32.ofInt 1), .int (v3 + Int32.ofInt 1), .int v_6] [] M_24 L_25 Q)
                refine wp_drop (lo := [.ref 49, .int v1, .int (Int32.ofInt 1), .int (v3 + Int32.ofInt 1), .null]) ⟨Or.inr rfl, Or.inr rfl, Or.inr rfl, Or.inr rfl, Or.inl rfl, trivial⟩ ?_
                exact ih v1 (Int32.ofInt 1) (v3 + Int32.ofInt 1) M_24 L_25 hP
def PL_X4_seek_2 (K : Mem → LMem → Prop)  : Nat → Int32 → Int32 → Mem → LMem → Prop
  | 0, _, _, _, _ => False
  | n_ + 1, v1, v2, M, L => (((Int32.ofInt 5) ≤ v2 → PL_X4_seek_35 K 100000 v1 (Int32.ofInt 1) (Int32.ofInt 0) (mput (mput M 49 10 (Int32.ofInt 0)) 49 9 (Int32.ofInt 64)) L) ∧ (¬ ((Int32.ofInt 5) ≤ v2) → (vp_in v2 5 ∧ PL_X4_seek_2 K n_ v1 (v2 + Int32.ofInt 1) (mput M 54 v2.toNatClampNeg v2) L)))
theorem tl_X4_seek_2 {E : VE} {d : Nat} {Q : QQ} {K : Mem → LMem → Prop}  (hK : ∀ (M : Mem) (L : LMem), K M L → Q none M L)  : ∀ (n_ : Nat) (v1 : Int32) (v2 : Int32) (M : Mem) (L : LMem), PL_X4_seek_2 K n_ v1 v2 M L → Wp E (d + 3) 18 2 [.ref 49, .int v1, .int v2, .null, .null] [] M L Q := by
  intro n_
  induction n_ with
  | zero => intro v1 v2 M L hP; exact False.elim hP
  | succ n_ ih =>
    intro v1 v2 M L hP
    unfold PL_X4_seek_2 at hP
    refine wp_seg (pc' := 4) [.iload 2, .iconst 5] (by decide +kernel) (?_ : Wp E (d + 3) 18 4 [.ref 49, .int v1, .int v2, .null, .null] [.int (Int32.ofInt 5), .int v2] M L Q)
    refine wp_icmpge (off := 16) 20 (by decide +kernel) (by decide) (fun c_1 => ?_) (fun c_1 => ?_)
    · have hP := hP.1 c_1
      refine wp_seg (pc' := 25) [.aload 0, .iconst 0, .putfield 266] (by decide +kernel) (show (Int32.ofInt 0 = 0 ∨ Int32.ofInt 0 = 1) ∧ Wp E (d + 3) 18 25 [.ref 49, .int v1, .int v2, .null, .null] [] (mput M 49 10 (Int32.ofInt 0)) L Q from ⟨(by decide), ?_⟩)
      refine wp_seg (pc' := 35) [.aload 0, .iconst 64, .putfield 265, .iconst 1, .istore 2, .iconst 0, .istore 3] (by decide +kernel) (?_ : Wp E (d + 3) 18 35 [.ref 49, .int v1, .int (Int32.ofInt 1), .int (Int32.ofInt 0), .null] [] (mput (mput M 49 10 (Int32.ofInt 0)) 49 9 (Int32.ofInt 64)) L Q)
      exact tl_X4_seek_35 hK 100000 v1 (Int32.ofInt 1) (Int32.ofInt 0) (mput (mput M 49 10 (Int32.ofInt 0)) 49 9 (Int32.ofInt 64)) L hP
    · have hP := hP.2 c_1
      obtain ⟨a_28, hP⟩ := hP
      refine wp_seg (pc' := 14) [.aload 0, .getfield 260, .iload 2, .iload 2, .iastore] (by decide +kernel) (show aok 54 0 v2 ∧ Wp E (d + 3) 18 14 [.ref 49, .int v1, .int v2, .null, .null] [] (mput M 54 v2.toNatClampNeg v2) L Q from ⟨⟨rfl, a_28⟩, ?_⟩)
      refine wp_seg (pc' := 2) [.iinc 2 1, .goto 0] (by decide +kernel) (?_ : Wp E (d + 3) 18 2 [.ref 49, .int v1, .int (v2 + Int32.ofInt 1), .null, .null] [] (mput M 54 v2.toNatClampNeg v2) L Q)
      exact ih v1 (v2 + Int32.ofInt 1) (mput M 54 v2.toNatClampNeg v2) L hP
def P_X4_seek (x1 : Int32) (M : Mem) (L : LMem) (K : Mem → LMem → Prop) : Prop := PL_X4_seek_2 K 100000 x1 (Int32.ofInt 0) M L
theorem t_X4_seek {E : VE} {d : Nat} {Q : QQ} {K : Mem → LMem → Prop} {x1 : Int32} {M : Mem} {L : LMem} (hP : P_X4_seek x1 M L K) (hK : ∀ (M : Mem) (L : LMem), K M L → Q none M L) : Wp E (d + 3) 18 0 [.ref 49, .int x1, .null, .null, .null] [] M L Q := by
  unfold P_X4_seek at hP
  refine wp_seg (pc' := 2) [.iconst 0, .istore 2] (by decide +kernel) (?_ : Wp E (d + 3) 18 2 [.ref 49, .int x1, .int (Int32.ofInt 0), .null, .null] [] M L Q)
  exact tl_X4_seek_2 hK 100000 x1 (Int32.ofInt 0) M L hP

def P_X7_takeAsTheyCome (x1 : Int32) (M : Mem) (L : LMem) (K : Mem → LMem → Prop) : Prop := (vp_in x1 5 ∧ ((oty 39 = 0 ∧ oty (58 + 1 + x1.toNatClampNeg) = 0 ∧ ¬ (Int32.ofInt 0) < 0 ∧ ¬ (Int32.ofInt 0) < 0 ∧ ¬ (Int32.ofInt 8) < 0 ∧ (Int32.ofInt 0).toNatClampNeg + (Int32.ofInt 8).toNatClampNeg ≤ oln 39 ∧ (Int32.ofInt 0).toNatClampNeg + (Int32.ofInt 8).toNatClampNeg ≤ oln (58 + 1 + x1.toNatClampNeg)) ∧ K (mput (mcpy M 39 (58 + 1 + x1.toNatClampNeg) ((Int32.ofInt 0).toNatClampNeg) ((Int32.ofInt 0).toNatClampNeg) ((Int32.ofInt 8).toNatClampNeg)) 64 x1.toNatClampNeg ((mcpy M 39 (58 + 1 + x1.toNatClampNeg) ((Int32.ofInt 0).toNatClampNeg) ((Int32.ofInt 0).toNatClampNeg) ((Int32.ofInt 8).toNatClampNeg)) 37 3)) L))
theorem t_X7_takeAsTheyCome {E : VE} {d : Nat} {Q : QQ} {K : Mem → LMem → Prop} {x1 : Int32} {M : Mem} {L : LMem} (hP : P_X7_takeAsTheyCome x1 M L K) (hK : ∀ (M : Mem) (L : LMem), K M L → Q none M L) : Wp E d 47 0 [.ref 57, .int x1, .ref 37] [] M L Q := by
  unfold P_X7_takeAsTheyCome at hP
  obtain ⟨a_1, hP⟩ := hP
  refine wp_seg (pc' := 11) [.aload 2, .getfield 385, .iconst 0, .aload 0, .getfield 448, .iload 1, .aaload] (by decide +kernel) (show aok 58 4 x1 ∧ Wp E d 47 11 [.ref 57, .int x1, .ref 37] [.ref (58 + 1 + x1.toNatClampNeg), .int (Int32.ofInt 0), .ref 39] M L Q from ⟨⟨rfl, a_1⟩, ?_⟩)
  obtain ⟨a_2, hP⟩ := hP
  refine wp_seg (pc' := 17) [.iconst 0, .iconst 8, .invokestatic 2] (by decide +kernel) (show (oty 39 = 0 ∧ oty (58 + 1 + x1.toNatClampNeg) = 0 ∧ ¬ (Int32.ofInt 0) < 0 ∧ ¬ (Int32.ofInt 0) < 0 ∧ ¬ (Int32.ofInt 8) < 0 ∧ (Int32.ofInt 0).toNatClampNeg + (Int32.ofInt 8).toNatClampNeg ≤ oln 39 ∧ (Int32.ofInt 0).toNatClampNeg + (Int32.ofInt 8).toNatClampNeg ≤ oln (58 + 1 + x1.toNatClampNeg)) ∧ Wp E d 47 17 [.ref 57, .int x1, .ref 37] [] (mcpy M 39 (58 + 1 + x1.toNatClampNeg) ((Int32.ofInt 0).toNatClampNeg) ((Int32.ofInt 0).toNatClampNeg) ((Int32.ofInt 8).toNatClampNeg)) L Q from ⟨a_2, ?_⟩)
  refine wp_seg (pc' := 27) [.aload 0, .getfield 449, .iload 1, .aload 2, .getfield 387, .iastore] (by decide +kernel) (show aok 64 0 x1 ∧ Wp E d 47 27 [.ref 57, .int x1, .ref 37] [] (mput (mcpy M 39 (58 + 1 + x1.toNatClampNeg) ((Int32.ofInt 0).toNatClampNeg) ((Int32.ofInt 0).toNatClampNeg) ((Int32.ofInt 8).toNatClampNeg)) 64 x1.toNatClampNeg ((mcpy M 39 (58 + 1 + x1.toNatClampNeg) ((Int32.ofInt 0).toNatClampNeg) ((Int32.ofInt 0).toNatClampNeg) ((Int32.ofInt 8).toNatClampNeg)) 37 3)) L Q from ⟨⟨rfl, a_1⟩, ?_⟩)
  exact wp_vret (by decide +kernel) rfl (hK _ _ hP)

def PL_X7_takeByNumbers_2 (K : Mem → LMem → Prop)  : Nat → Int32 → Int32 → Mem → LMem → Prop
  | 0, _, _, _, _ => False
  | n_ + 1, v1, v3, M, L => (((Int32.ofInt 12) ≤ v3 → K M L) ∧ (¬ ((Int32.ofInt 12) ≤ v3) → (vp_in v1 5 ∧ (((Int32.ofInt 8) ≤ (M 64 v1.toNatClampNeg) → K M L) ∧ (¬ ((Int32.ofInt 8) ≤ (M 64 v1.toNatClampNeg)) → (((((M 37 5) >>> (v3 &&& 31)) &&& (Int32.ofInt 1)) = 0 → PL_X7_takeByNumbers_2 K n_ v1 (v3 + Int32.ofInt 1) M L) ∧ (¬ ((((M 37 5) >>> (v3 &&& 31)) &&& (Int32.ofInt 1)) = 0) → (aok (58 + 1 + v1.toNatClampNeg) 0 (M 64 v1.toNatClampNeg) ∧ PL_X7_takeByNumbers_2 K n_ v1 (v3 + Int32.ofInt 1) (mput (mput M (58 + 1 + v1.toNatClampNeg) ((M 64 v1.toNatClampNeg).toNatClampNeg) v3) 64 v1.toNatClampNeg (((mput M (58 + 1 + v1.toNatClampNeg) ((M 64 v1.toNatClampNeg).toNatClampNeg) v3) 64 v1.toNatClampNeg) + (Int32.ofInt 1))) L))))))))
theorem tl_X7_takeByNumbers_2 {E : VE} {d : Nat} {Q : QQ} {K : Mem → LMem → Prop}  (hK : ∀ (M : Mem) (L : LMem), K M L → Q none M L)  : ∀ (n_ : Nat) (v1 : Int32) (v3 : Int32) (M : Mem) (L : LMem), PL_X7_takeByNumbers_2 K n_ v1 v3 M L → Wp E d 48 2 [.ref 57, .int v1, .ref 37, .int v3] [] M L Q := by
  intro n_
  induction n_ with
  | zero => intro v1 v3 M L hP; exact False.elim hP
  | succ n_ ih =>
    intro v1 v3 M L hP
    unfold PL_X7_takeByNumbers_2 at hP
    refine wp_seg (pc' := 5) [.iload 3, .iconst 12] (by decide +kernel) (?_ : Wp E d 48 5 [.ref 57, .int v1, .ref 37, .int v3] [.int (Int32.ofInt 12), .int v3] M L Q)
    refine wp_icmpge (off := 55) 60 (by decide +kernel) (by decide) (fun c_1 => ?_) (fun c_1 => ?_)
    · have hP := hP.1 c_1
      exact wp_vret (by decide +kernel) rfl (hK _ _ hP)
    · have hP := hP.2 c_1
      obtain ⟨a_2, hP⟩ := hP
      refine wp_seg (pc' := 14) [.aload 0, .getfield 449, .iload 1, .iaload] (by decide +kernel) (show aok 64 0 v1 ∧ Wp E d 48 14 [.ref 57, .int v1, .ref 37, .int v3] [.int (M 64 v1.toNatClampNeg)] M L Q from ⟨⟨rfl, a_2⟩, ?_⟩)
      refine wp_seg (pc' := 16) [.iconst 8] (by decide +kernel) (?_ : Wp E d 48 16 [.ref 57, .int v1, .ref 37, .int v3] [.int (Int32.ofInt 8), .int (M 64 v1.toNatClampNeg)] M L Q)
      refine wp_icmpge (off := 44) 60 (by decide +kernel) (by decide) (fun c_3 => ?_) (fun c_3 => ?_)
      · have hP := hP.1 c_3
        exact wp_vret (by decide +kernel) rfl (hK _ _ hP)
      · have hP := hP.2 c_3
        refine wp_seg (pc' := 27) [.aload 2, .getfield 389, .iload 3, .ishr, .iconst 1, .iand] (by decide +kernel) (?_ : Wp E d 48 27 [.ref 57, .int v1, .ref 37, .int v3] [.int (((M 37 5) >>> (v3 &&& 31)) &&& (Int32.ofInt 1))] M L Q)
        refine wp_ifeq (off := 27) 54 (by decide +kernel) (by decide) (fun c_4 => ?_) (fun c_4 => ?_)
        · have hP := hP.1 c_4
          refine wp_seg (pc' := 2) [.iinc 3 1, .goto 0] (by decide +kernel) (?_ : Wp E d 48 2 [.ref 57, .int v1, .ref 37, .int (v3 + Int32.ofInt 1)] [] M L Q)
          exact ih v1 (v3 + Int32.ofInt 1) M L hP
        · have hP := hP.2 c_4
          refine wp_seg (pc' := 36) [.aload 0, .getfield 448, .iload 1, .aaload] (by decide +kernel) (show aok 58 4 v1 ∧ Wp E d 48 36 [.ref 57, .int v1, .ref 37, .int v3] [.ref (58 + 1 + v1.toNatClampNeg)] M L Q from ⟨⟨rfl, a_2⟩, ?_⟩)
          refine wp_seg (pc' := 42) [.aload 0, .getfield 449, .iload 1, .iaload] (by decide +kernel) (show aok 64 0 v1 ∧ Wp E d 48 42 [.ref 57, .int v1, .ref 37, .int v3] [.int (M 64 v1.toNatClampNeg), .ref (58 + 1 + v1.toNatClampNeg)] M L Q from ⟨⟨rfl, a_2⟩, ?_⟩)
          obtain ⟨a_5, hP⟩ := hP
          refine wp_seg (pc' := 44) [.iload 3, .iastore] (by decide +kernel) (show aok (58 + 1 + v1.toNatClampNeg) 0 (M 64 v1.toNatClampNeg) ∧ Wp E d 48 44 [.ref 57, .int v1, .ref 37, .int v3] [] (mput M (58 + 1 + v1.toNatClampNeg) ((M 64 v1.toNatClampNeg).toNatClampNeg) v3) L Q from ⟨a_5, ?_⟩)
          refine wp_seg (pc' := 51) [.aload 0, .getfield 449, .iload 1, .dup2, .iaload] (by decide +kernel) (show aok 64 0 v1 ∧ Wp E d 48 51 [.ref 57, .int v1, .ref 37, .int v3] [.int ((mput M (58 + 1 + v1.toNatClampNeg) ((M 64 v1.toNatClampNeg).toNatClampNeg) v3) 64 v1.toNatClampNeg), .int v1, .ref 64] (mput M (58 + 1 + v1.toNatClampNeg) ((M 64 v1.toNatClampNeg).toNatClampNeg) v3) L Q from ⟨⟨rfl, a_2⟩, ?_⟩)
          refine wp_seg (pc' := 54) [.iconst 1, .iadd, .iastore] (by decide +kernel) (show aok 64 0 v1 ∧ Wp E d 48 54 [.ref 57, .int v1, .ref 37, .int v3] [] (mput (mput M (58 + 1 + v1.toNatClampNeg) ((M 64 v1.toNatClampNeg).toNatClampNeg) v3) 64 v1.toNatClampNeg (((mput M (58 + 1 + v1.toNatClampNeg) ((M 64 v1.toNatClampNeg).toNatClampNeg) v3) 64 v1.toNatClampNeg) + (Int32.ofInt 1))) L Q from ⟨⟨rfl, a_2⟩, ?_⟩)
          refine wp_seg (pc' := 2) [.iinc 3 1, .goto 0] (by decide +kernel) (?_ : Wp E d 48 2 [.ref 57, .int v1, .ref 37, .int (v3 + Int32.ofInt 1)] [] (mput (mput M (58 + 1 + v1.toNatClampNeg) ((M 64 v1.toNatClampNeg).toNatClampNeg) v3) 64 v1.toNatClampNeg (((mput M (58 + 1 + v1.toNatClampNeg) ((M 64 v1.toNatClampNeg).toNatClampNeg) v3) 64 v1.toNatClampNeg) + (Int32.ofInt 1))) L Q)
          exact ih v1 (v3 + Int32.ofInt 1) (mput (mput M (58 + 1 + v1.toNatClampNeg) ((M 64 v1.toNatClampNeg).toNatClampNeg) v3) 64 v1.toNatClampNeg (((mput M (58 + 1 + v1.toNatClampNeg) ((M 64 v1.toNatClampNeg).toNatClampNeg) v3) 64 v1.toNatClampNeg) + (Int32.ofInt 1))) L hP
def P_X7_takeByNumbers (x1 : Int32) (M : Mem) (L : LMem) (K : Mem → LMem → Prop) : Prop := PL_X7_takeByNumbers_2 K 100000 x1 (Int32.ofInt 0) M L
theorem t_X7_takeByNumbers {E : VE} {d : Nat} {Q : QQ} {K : Mem → LMem → Prop} {x1 : Int32} {M : Mem} {L : LMem} (hP : P_X7_takeByNumbers x1 M L K) (hK : ∀ (M : Mem) (L : LMem), K M L → Q none M L) : Wp E d 48 0 [.ref 57, .int x1, .ref 37, .null] [] M L Q := by
  unfold P_X7_takeByNumbers at hP
  refine wp_seg (pc' := 2) [.iconst 0, .istore 3] (by decide +kernel) (?_ : Wp E d 48 2 [.ref 57, .int x1, .ref 37, .int (Int32.ofInt 0)] [] M L Q)
  exact tl_X7_takeByNumbers_2 hK 100000 x1 (Int32.ofInt 0) M L hP

def PL_X7_gather_16 (K : Int32 → Mem → LMem → Prop)  : Nat → Int32 → Int32 → Int32 → Mem → LMem → Prop
  | 0, _, _, _, _, _ => False
  | n_ + 1, v3, v4, v5, M, L => (((Int32.ofInt 5) ≤ v5 → K (Int32.ofInt 1) M L) ∧ (¬ ((Int32.ofInt 5) ≤ v5) → (vp_in v5 5 ∧ ((((v3 >>> (v5 &&& 31)) &&& (Int32.ofInt 1)) = 0 → PL_X7_gather_16 K n_ v3 v4 (v5 + Int32.ofInt 1) (mput M 64 v5.toNatClampNeg (Int32.ofInt 0)) L) ∧ (¬ (((v3 >>> (v5 &&& 31)) &&& (Int32.ofInt 1)) = 0) → P_X6_find (M 10 v5.toNatClampNeg) (M 11 v5.toNatClampNeg) (Int32.ofInt 0) (mput M 64 v5.toNatClampNeg (Int32.ofInt 0)) L (fun v_9 M_7 L_8 => ((v_9 = 0 → K (Int32.ofInt 0) M_7 L_8) ∧ (¬ (v_9 = 0) → ((v4 = 0 → P_X7_takeAsTheyCome v5 M_7 L_8 (fun M_14 L_15 => PL_X7_gather_16 K n_ v3 v4 (v5 + Int32.ofInt 1) M_14 L_15)) ∧ (¬ (v4 = 0) → P_X7_takeByNumbers v5 M_7 L_8 (fun M_12 L_13 => PL_X7_gather_16 K n_ v3 v4 (v5 + Int32.ofInt 1) M_12 L_13)))))))))))
theorem tl_X7_gather_16 {E : VE} {d : Nat} {Q : QQ} {K : Int32 → Mem → LMem → Prop}  (hK : ∀ (v : Int32) (M : Mem) (L : LMem), K v M L → Q (some (.int v)) M L)  : ∀ (n_ : Nat) (v3 : Int32) (v4 : Int32) (v5 : Int32) (M : Mem) (L : LMem), PL_X7_gather_16 K n_ v3 v4 v5 M L → Wp E (d + 4) 46 16 [.ref 57, .ref 3, .ref 37, .int v3, .int v4, .int v5] [] M L Q := by
  intro n_
  induction n_ with
  | zero => intro v3 v4 v5 M L hP; exact False.elim hP
  | succ n_ ih =>
    intro v3 v4 v5 M L hP
    unfold PL_X7_gather_16 at hP
    refine wp_seg (pc' := 19) [.iload 5, .iconst 5] (by decide +kernel) (?_ : Wp E (d + 4) 46 19 [.ref 57, .ref 3, .ref 37, .int v3, .int v4, .int v5] [.int (Int32.ofInt 5), .int v5] M L Q)
    refine wp_icmpge (off := 73) 92 (by decide +kernel) (by decide) (fun c_4 => ?_) (fun c_4 => ?_)
    · have hP := hP.1 c_4
      refine wp_seg (pc' := 93) [.iconst 1] (by decide +kernel) (?_ : Wp E (d + 4) 46 93 [.ref 57, .ref 3, .ref 37, .int v3, .int v4, .int v5] [.int (Int32.ofInt 1)] M L Q)
      exact wp_zret (by decide +kernel) rfl (by decide) (hK _ _ _ hP)
    · have hP := hP.2 c_4
      obtain ⟨a_5, hP⟩ := hP
      refine wp_seg (pc' := 30) [.aload 0, .getfield 449, .iload 5, .iconst 0, .iastore] (by decide +kernel) (show aok 64 0 v5 ∧ Wp E (d + 4) 46 30 [.ref 57, .ref 3, .ref 37, .int v3, .int v4, .int v5] [] (mput M 64 v5.toNatClampNeg (Int32.ofInt 0)) L Q from ⟨⟨rfl, a_5⟩, ?_⟩)
      refine wp_seg (pc' := 36) [.iload 3, .iload 5, .ishr, .iconst 1, .iand] (by decide +kernel) (?_ : Wp E (d + 4) 46 36 [.ref 57, .ref 3, .ref 37, .int v3, .int v4, .int v5] [.int ((v3 >>> (v5 &&& 31)) &&& (Int32.ofInt 1))] (mput M 64 v5.toNatClampNeg (Int32.ofInt 0)) L Q)
      refine wp_ifeq (off := 50) 86 (by decide +kernel) (by decide) (fun c_6 => ?_) (fun c_6 => ?_)
      · have hP := hP.1 c_6
        refine wp_seg (pc' := 16) [.iinc 5 1, .goto 0] (by decide +kernel) (?_ : Wp E (d + 4) 46 16 [.ref 57, .ref 3, .ref 37, .int v3, .int v4, .int (v5 + Int32.ofInt 1)] [] (mput M 64 v5.toNatClampNeg (Int32.ofInt 0)) L Q)
        exact ih v3 v4 (v5 + Int32.ofInt 1) (mput M 64 v5.toNatClampNeg (Int32.ofInt 0)) L hP
      · have hP := hP.2 c_6
        refine wp_seg (pc' := 48) [.aload 2, .aload 1, .aload 1, .getfield 196, .iload 5, .iaload] (by decide +kernel) (show aok 10 0 v5 ∧ Wp E (d + 4) 46 48 [.ref 57, .ref 3, .ref 37, .int v3, .int v4, .int v5] [.int (M 10 v5.toNatClampNeg), .ref 3, .ref 37] (mput M 64 v5.toNatClampNeg (Int32.ofInt 0)) L Q from ⟨⟨rfl, a_5⟩, ?_⟩)
        refine wp_seg (pc' := 55) [.aload 1, .getfield 197, .iload 5, .iaload] (by decide +kernel) (show aok 11 0 v5 ∧ Wp E (d + 4) 46 55 [.ref 57, .ref 3, .ref 37, .int v3, .int v4, .int v5] [.int (M 11 v5.toNatClampNeg), .int (M 10 v5.toNatClampNeg), .ref 3, .ref 37] (mput M 64 v5.toNatClampNeg (Int32.ofInt 0)) L Q from ⟨⟨rfl, a_5⟩, ?_⟩)
        refine wp_seg (pc' := 56) [.iconst 0] (by decide +kernel) (?_ : Wp E (d + 4) 46 56 [.ref 57, .ref 3, .ref 37, .int v3, .int v4, .int v5] [.int (Int32.ofInt 0), .int (M 11 v5.toNatClampNeg), .int (M 10 v5.toNatClampNeg), .ref 3, .ref 37] (mput M 64 v5.toNatClampNeg (Int32.ofInt 0)) L Q)
        refine wp_callV 38 37 [.ref 3, .int (M 10 v5.toNatClampNeg), .int (M 11 v5.toNatClampNeg), .int (Int32.ofInt 0)] (i := 42) (by decide +kernel) (by decide +kernel) (by decide +kernel) (by decide +kernel) rfl rfl rfl (rest := []) rfl rfl ?_
        refine t_X6_find hP (fun v_9 M_7 L_8 hP => ?_)
        show Wp E (d + 4) 46 59 [.ref 57, .ref 3, .ref 37, .int v3, .int v4, .int v5] [.int v_9] M_7 L_8 Q
        refine wp_ifne (off := 5) 64 (by decide +kernel) (by decide) (fun c_10 => ?_) (fun c_10 => ?_)
        · have hP := hP.2 c_10
          refine wp_seg (pc' := 66) [.iload 4] (by decide +kernel) (?_ : Wp E (d + 4) 46 66 [.ref 57, .ref 3, .ref 37, .int v3, .int v4, .int v5] [.int v4] M_7 L_8 Q)
          refine wp_ifne (off := 13) 79 (by decide +kernel) (by decide) (fun c_11 => ?_) (fun c_11 => ?_)
          · have hP := hP.2 c_11
            refine wp_seg (pc' := 83) [.aload 0, .iload 5, .aload 2] (by decide +kernel) (?_ : Wp E (d + 4) 46 83 [.ref 57, .ref 3, .ref 37, .int v3, .int v4, .int v5] [.ref 37, .int v5, .ref 57] M_7 L_8 Q)
            refine wp_callV 48 57 [.int v5, .ref 37] (i := 52) (by decide +kernel) (by decide +kernel) (by decide +kernel) (by decide +kernel) rfl rfl rfl (rest := []) rfl rfl ?_
            refine t_X7_takeByNumbers hP (fun M_12 L_13 hP => ?_)
            show Wp E (d + 4) 46 86 [.ref 57, .ref 3, .ref 37, .int v3, .int v4, .int v5] [] M_12 L_13 Q
            refine wp_seg (pc' := 16) [.iinc 5 1, .goto 0] (by decide +kernel) (?_ : Wp E (d + 4) 46 16 [.ref 57, .ref 3, .ref 37, .int v3, .int v4, .int (v5 + Int32.ofInt 1)] [] M_12 L_13 Q)
            exact ih v3 v4 (v5 + Int32.ofInt 1) M_12 L_13 hP
          · have hP := hP.1 c_11
            refine wp_seg (pc' := 73) [.aload 0, .iload 5, .aload 2] (by decide +kernel) (?_ : Wp E (d + 4) 46 73 [.ref 57, .ref 3, .ref 37, .int v3, .int v4, .int v5] [.ref 37, .int v5, .ref 57] M_7 L_8 Q)
            refine wp_callV 47 57 [.int v5, .ref 37] (i := 48) (by decide +kernel) (by decide +kernel) (by decide +kernel) (by decide +kernel) rfl rfl rfl (rest := []) rfl rfl ?_
            refine t_X7_takeAsTheyCome hP (fun M_14 L_15 hP => ?_)
            show Wp E (d + 4) 46 76 [.ref 57, .ref 3, .ref 37, .int v3, .int v4, .int v5] [] M_14 L_15 Q
            refine wp_seg (pc' := 16) [.goto 0, .iinc 5 1, .goto 0] (by decide +kernel) (?_ : Wp E (d + 4) 46 16 [.ref 57, .ref 3, .ref 37, .int v3, .int v4, .int (v5 + Int32.ofInt 1)] [] M_14 L_15 Q)
            exact ih v3 v4 (v5 + Int32.ofInt 1) M_14 L_15 hP
        · have hP := hP.1 c_10
          refine wp_seg (pc' := 63) [.iconst 0] (by decide +kernel) (?_ : Wp E (d + 4) 46 63 [.ref 57, .ref 3, .ref 37, .int v3, .int v4, .int v5] [.int (Int32.ofInt 0)] M_7 L_8 Q)
          exact wp_zret (by decide +kernel) rfl (by decide) (hK _ _ _ hP)
def P_X7_gather (x3 : Int32) (x4 : Int32) (M : Mem) (L : LMem) (K : Int32 → Mem → LMem → Prop) : Prop := P_X2_ofKind (Int32.ofInt 61) M L (fun v_3 M_1 L_2 => PL_X7_gather_16 K 100000 x3 x4 (Int32.ofInt 0) (mput M_1 57 2 v_3) L_2)
theorem t_X7_gather {E : VE} {d : Nat} {Q : QQ} {K : Int32 → Mem → LMem → Prop} {x3 : Int32} {x4 : Int32} {M : Mem} {L : LMem} (hP : P_X7_gather x3 x4 M L K) (hK : ∀ (v : Int32) (M : Mem) (L : LMem), K v M L → Q (some (.int v)) M L) : Wp E (d + 4) 46 0 [.ref 57, .ref 3, .ref 37, .int x3, .int x4, .null] [] M L Q := by
  unfold P_X7_gather at hP
  refine wp_seg (pc' := 7) [.aload 0, .aload 1, .getfield 192, .iconst 61] (by decide +kernel) (?_ : Wp E (d + 4) 46 7 [.ref 57, .ref 3, .ref 37, .int x3, .int x4, .null] [.int (Int32.ofInt 61), .ref 4, .ref 57] M L Q)
  refine wp_callV 14 4 [.int (Int32.ofInt 61)] (i := 26) (by decide +kernel) (by decide +kernel) (by decide +kernel) (by decide +kernel) rfl rfl rfl (rest := [.ref 57]) rfl rfl ?_
  refine t_X2_ofKind hP (fun v_3 M_1 L_2 hP => ?_)
  show Wp E (d + 4) 46 10 [.ref 57, .ref 3, .ref 37, .int x3, .int x4, .null] [.int v_3, .ref 57] M_1 L_2 Q
  refine wp_seg (pc' := 16) [.putfield 450, .iconst 0, .istore 5] (by decide +kernel) (?_ : Wp E (d + 4) 46 16 [.ref 57, .ref 3, .ref 37, .int x3, .int x4, .int (Int32.ofInt 0)] [] (mput M_1 57 2 v_3) L_2 Q)
  exact tl_X7_gather_16 hK 100000 x3 x4 (Int32.ofInt 0) (mput M_1 57 2 v_3) L_2 hP

def PL_X8_gather_21 (K : Mem → LMem → Prop) (C_2 : Int32 → Mem → LMem → Prop) : Nat → Int32 → Int32 → Mem → LMem → Prop
  | 0, _, _, _, _ => False
  | n_ + 1, v3, v4, M, L => (((Int32.ofInt 8) ≤ v4 → C_2 (v3 + Int32.ofInt 1) M L) ∧ (¬ ((Int32.ofInt 8) ≤ v4) → P_X6_walk v4 v3 (Int32.ofInt 0) M L (fun v_7 M_5 L_6 => ((v_7 = 0 → (vp_in (((Int32.ofInt 8) * v4) + v3) 64 ∧ PL_X8_gather_21 K C_2 n_ v3 (v4 + Int32.ofInt 1) (mput M_5 66 ((((Int32.ofInt 8) * v4) + v3).toNatClampNeg) (Int32.ofInt 0)) L_6)) ∧ (¬ (v_7 = 0) → (vp_in (((Int32.ofInt 8) * v4) + v3) 64 ∧ PL_X8_gather_21 K C_2 n_ v3 (v4 + Int32.ofInt 1) (mput M_5 66 ((((Int32.ofInt 8) * v4) + v3).toNatClampNeg) (M_5 37 5)) L_6))))))
theorem tl_X8_gather_21 {E : VE} {d : Nat} {Q : QQ} {K : Mem → LMem → Prop} {C_2 : Int32 → Mem → LMem → Prop} (hK : ∀ (M : Mem) (L : LMem), K M L → Q none M L) (hC_2 : ∀ (v3 : Int32) (M : Mem) (L : LMem), C_2 v3 M L → Wp E (d + 3) 51 2 [.ref 65, .ref 3, .ref 37, .int v3, .null] [] M L Q) : ∀ (n_ : Nat) (v3 : Int32) (v4 : Int32) (M : Mem) (L : LMem), PL_X8_gather_21 K C_2 n_ v3 v4 M L → Wp E (d + 3) 51 21 [.ref 65, .ref 3, .ref 37, .int v3, .int v4] [] M L Q := by
  intro n_
  induction n_ with
  | zero => intro v3 v4 M L hP; exact False.elim hP
  | succ n_ ih =>
    intro v3 v4 M L hP
    unfold PL_X8_gather_21 at hP
    refine wp_seg (pc' := 25) [.iload 4, .iconst 8] (by decide +kernel) (?_ : Wp E (d + 3) 51 25 [.ref 65, .ref 3, .ref 37, .int v3, .int v4] [.int (Int32.ofInt 8), .int v4] M L Q)
    refine wp_icmpge (off := 41) 66 (by decide +kernel) (by decide) (fun c_4 => ?_) (fun c_4 => ?_)
    · have hP := hP.1 c_4
      refine wp_seg (pc' := 2) [.iinc 3 1, .goto 0] (by decide +kernel) (?_ : Wp E (d + 3) 51 2 [.ref 65, .ref 3, .ref 37, .int (v3 + Int32.ofInt 1), .int v4] [] M L Q)
      refine wp_drop (lo := [.ref 65, .ref 3, .ref 37, .int (v3 + Int32.ofInt 1), .null]) ⟨Or.inr rfl, Or.inr rfl, Or.inr rfl, Or.inr rfl, Or.inl rfl, trivial⟩ ?_
      exact hC_2 (v3 + Int32.ofInt 1) M L hP
    · have hP := hP.2 c_4
      refine wp_seg (pc' := 45) [.aload 0, .getfield 512, .iconst 8, .iload 4, .imul, .iload 3, .iadd, .aload 2, .aload 1, .iload 4, .iload 3, .iconst 0] (by decide +kernel) (?_ : Wp E (d + 3) 51 45 [.ref 65, .ref 3, .ref 37, .int v3, .int v4] [.int (Int32.ofInt 0), .int v3, .int v4, .ref 3, .ref 37, .int (((Int32.ofInt 8) * v4) + v3), .ref 66] M L Q)
      refine wp_callV 42 37 [.ref 3, .int v4, .int v3, .int (Int32.ofInt 0)] (i := 37) (by decide +kernel) (by decide +kernel) (by decide +kernel) (by decide +kernel) rfl rfl rfl (rest := [.int (((Int32.ofInt 8) * v4) + v3), .ref 66]) rfl rfl ?_
      refine t_X6_walk hP (fun v_7 M_5 L_6 hP => ?_)
      show Wp E (d + 3) 51 48 [.ref 65, .ref 3, .ref 37, .int v3, .int v4] [.int v_7, .int (((Int32.ofInt 8) * v4) + v3), .ref 66] M_5 L_6 Q
      refine wp_ifeq (off := 10) 58 (by decide +kernel) (by decide) (fun c_8 => ?_) (fun c_8 => ?_)
      · have hP := hP.1 c_8
        obtain ⟨a_9, hP⟩ := hP
        refine wp_seg (pc' := 60) [.iconst 0, .iastore] (by decide +kernel) (show aok 66 0 (((Int32.ofInt 8) * v4) + v3) ∧ Wp E (d + 3) 51 60 [.ref 65, .ref 3, .ref 37, .int v3, .int v4] [] (mput M_5 66 ((((Int32.ofInt 8) * v4) + v3).toNatClampNeg) (Int32.ofInt 0)) L_6 Q from ⟨⟨rfl, a_9⟩, ?_⟩)
        refine wp_seg (pc' := 21) [.iinc 4 1, .goto 0] (by decide +kernel) (?_ : Wp E (d + 3) 51 21 [.ref 65, .ref 3, .ref 37, .int v3, .int (v4 + Int32.ofInt 1)] [] (mput M_5 66 ((((Int32.ofInt 8) * v4) + v3).toNatClampNeg) (Int32.ofInt 0)) L_6 Q)
        exact ih v3 (v4 + Int32.ofInt 1) (mput M_5 66 ((((Int32.ofInt 8) * v4) + v3).toNatClampNeg) (Int32.ofInt 0)) L_6 hP
      · have hP := hP.2 c_8
        obtain ⟨a_10, hP⟩ := hP
        refine wp_seg (pc' := 60) [.aload 2, .getfield 389, .goto 0, .iastore] (by decide +kernel) (show aok 66 0 (((Int32.ofInt 8) * v4) + v3) ∧ Wp E (d + 3) 51 60 [.ref 65, .ref 3, .ref 37, .int v3, .int v4] [] (mput M_5 66 ((((Int32.ofInt 8) * v4) + v3).toNatClampNeg) (M_5 37 5)) L_6 Q from ⟨⟨rfl, a_10⟩, ?_⟩)
        refine wp_seg (pc' := 21) [.iinc 4 1, .goto 0] (by decide +kernel) (?_ : Wp E (d + 3) 51 21 [.ref 65, .ref 3, .ref 37, .int v3, .int (v4 + Int32.ofInt 1)] [] (mput M_5 66 ((((Int32.ofInt 8) * v4) + v3).toNatClampNeg) (M_5 37 5)) L_6 Q)
        exact ih v3 (v4 + Int32.ofInt 1) (mput M_5 66 ((((Int32.ofInt 8) * v4) + v3).toNatClampNeg) (M_5 37 5)) L_6 hP
def PL_X8_gather_2 (K : Mem → LMem → Prop)  : Nat → Int32 → Mem → LMem → Prop
  | 0, _, _, _ => False
  | n_ + 1, v3, M, L => (((Int32.ofInt 8) ≤ v3 → K M L) ∧ (¬ ((Int32.ofInt 8) ≤ v3) → P_X6_aim v3 (Int32.ofInt 0) M L (fun M_2 L_3 => PL_X8_gather_21 K (PL_X8_gather_2 K n_) 100000 v3 (Int32.ofInt 0) M_2 L_3)))
theorem tl_X8_gather_2 {E : VE} {d : Nat} {Q : QQ} {K : Mem → LMem → Prop}  (hK : ∀ (M : Mem) (L : LMem), K M L → Q none M L)  : ∀ (n_ : Nat) (v3 : Int32) (M : Mem) (L : LMem), PL_X8_gather_2 K n_ v3 M L → Wp E (d + 3) 51 2 [.ref 65, .ref 3, .ref 37, .int v3, .null] [] M L Q := by
  intro n_
  induction n_ with
  | zero => intro v3 M L hP; exact False.elim hP
  | succ n_ ih =>
    intro v3 M L hP
    unfold PL_X8_gather_2 at hP
    refine wp_seg (pc' := 5) [.iload 3, .iconst 8] (by decide +kernel) (?_ : Wp E (d + 3) 51 5 [.ref 65, .ref 3, .ref 37, .int v3, .null] [.int (Int32.ofInt 8), .int v3] M L Q)
    refine wp_icmpge (off := 67) 72 (by decide +kernel) (by decide) (fun c_1 => ?_) (fun c_1 => ?_)
    · have hP := hP.1 c_1
      exact wp_vret (by decide +kernel) rfl (hK _ _ hP)
    · have hP := hP.2 c_1
      refine wp_seg (pc' := 15) [.aload 2, .aload 1, .getfield 192, .iload 3, .iconst 0] (by decide +kernel) (?_ : Wp E (d + 3) 51 15 [.ref 65, .ref 3, .ref 37, .int v3, .null] [.int (Int32.ofInt 0), .int v3, .ref 4, .ref 37] M L Q)
      refine wp_callV 39 37 [.ref 4, .int v3, .int (Int32.ofInt 0)] (i := 31) (by decide +kernel) (by decide +kernel) (by decide +kernel) (by decide +kernel) rfl rfl rfl (rest := []) rfl rfl ?_
      refine t_X6_aim hP (fun M_2 L_3 hP => ?_)
      show Wp E (d + 3) 51 18 [.ref 65, .ref 3, .ref 37, .int v3, .null] [] M_2 L_3 Q
      refine wp_seg (pc' := 21) [.iconst 0, .istore 4] (by decide +kernel) (?_ : Wp E (d + 3) 51 21 [.ref 65, .ref 3, .ref 37, .int v3, .int (Int32.ofInt 0)] [] M_2 L_3 Q)
      exact tl_X8_gather_21 hK (fun v3 M L hP => ih v3 M L hP) 100000 v3 (Int32.ofInt 0) M_2 L_3 hP
def P_X8_gather (M : Mem) (L : LMem) (K : Mem → LMem → Prop) : Prop := PL_X8_gather_2 K 100000 (Int32.ofInt 0) M L
theorem t_X8_gather {E : VE} {d : Nat} {Q : QQ} {K : Mem → LMem → Prop} {M : Mem} {L : LMem} (hP : P_X8_gather M L K) (hK : ∀ (M : Mem) (L : LMem), K M L → Q none M L) : Wp E (d + 3) 51 0 [.ref 65, .ref 3, .ref 37, .null, .null] [] M L Q := by
  unfold P_X8_gather at hP
  refine wp_seg (pc' := 2) [.iconst 0, .istore 3] (by decide +kernel) (?_ : Wp E (d + 3) 51 2 [.ref 65, .ref 3, .ref 37, .int (Int32.ofInt 0), .null] [] M L Q)
  exact tl_X8_gather_2 hK 100000 (Int32.ofInt 0) M L hP

def PL_X8_nextTry_21 (K : Int32 → Mem → LMem → Prop) (C_11 : Int32 → Int32 → Int32 → Int32 → Mem → LMem → Prop) : Nat → Int32 → Int32 → Int32 → Int32 → Int32 → Mem → LMem → Prop
  | 0, _, _, _, _, _, _, _ => False
  | n_ + 1, v1, v2, v3, v4, v5, M, L => (((Int32.ofInt 8) ≤ v5 → C_11 v1 v2 v3 (v4 + Int32.ofInt 1) M L) ∧ (¬ ((Int32.ofInt 8) ≤ v5) → (vp_in (((Int32.ofInt 8) * v4) + v5) 64 ∧ ((v2 ≤ (f_X8_largerPart M v1 (M 66 ((((Int32.ofInt 8) * v4) + v5).toNatClampNeg))) → PL_X8_nextTry_21 K C_11 n_ v1 v2 v3 v4 (v5 + Int32.ofInt 1) M L) ∧ (¬ (v2 ≤ (f_X8_largerPart M v1 (M 66 ((((Int32.ofInt 8) * v4) + v5).toNatClampNeg)))) → PL_X8_nextTry_21 K C_11 n_ v1 (f_X8_largerPart M v1 (M 66 ((((Int32.ofInt 8) * v4) + v5).toNatClampNeg))) (((Int32.ofInt 10) * v4) + v5) v4 (v5 + Int32.ofInt 1) M L)))))
theorem tl_X8_nextTry_21 {E : VE} {d : Nat} {Q : QQ} {K : Int32 → Mem → LMem → Prop} {C_11 : Int32 → Int32 → Int32 → Int32 → Mem → LMem → Prop} (hK : ∀ (v : Int32) (M : Mem) (L : LMem), K v M L → Q (some (.int v)) M L) (hC_11 : ∀ (v1 : Int32) (v2 : Int32) (v3 : Int32) (v4 : Int32) (M : Mem) (L : LMem), C_11 v1 v2 v3 v4 M L → Wp E (d + 2) 52 11 [.ref 65, .int v1, .int v2, .int v3, .int v4, .null, .null] [] M L Q) : ∀ (n_ : Nat) (v1 : Int32) (v2 : Int32) (v3 : Int32) (v4 : Int32) (v5 : Int32) (M : Mem) (L : LMem), PL_X8_nextTry_21 K C_11 n_ v1 v2 v3 v4 v5 M L → Wp E (d + 2) 52 21 [.ref 65, .int v1, .int v2, .int v3, .int v4, .int v5, .null] [] M L Q := by
  intro n_
  induction n_ with
  | zero => intro v1 v2 v3 v4 v5 M L hP; exact False.elim hP
  | succ n_ ih =>
    intro v1 v2 v3 v4 v5 M L hP
    unfold PL_X8_nextTry_21 at hP
    refine wp_seg (pc' := 25) [.iload 5, .iconst 8] (by decide +kernel) (?_ : Wp E (d + 2) 52 25 [.ref 65, .int v1, .int v2, .int v3, .int v4, .int v5, .null] [.int (Int32.ofInt 8), .int v5] M L Q)
    refine wp_icmpge (off := 46) 71 (by decide +kernel) (by decide) (fun c_2 => ?_) (fun c_2 => ?_)
    · have hP := hP.1 c_2
      refine wp_seg (pc' := 11) [.iinc 4 1, .goto 0] (by decide +kernel) (?_ : Wp E (d + 2) 52 11 [.ref 65, .int v1, .int v2, .int v3, .int (v4 + Int32.ofInt 1), .int v5, .null] [] M L Q)
      refine wp_drop (lo := [.ref 65, .int v1, .int v2, .int v3, .int (v4 + Int32.ofInt 1), .null, .null]) ⟨Or.inr rfl, Or.inr rfl, Or.inr rfl, Or.inr rfl, Or.inr rfl, Or.inl rfl, Or.inl rfl, trivial⟩ ?_
      exact hC_11 v1 v2 v3 (v4 + Int32.ofInt 1) M L hP
    · have hP := hP.2 c_2
      obtain ⟨a_3, hP⟩ := hP
      refine wp_seg (pc' := 42) [.iload 1, .aload 0, .getfield 512, .iconst 8, .iload 4, .imul, .iload 5, .iadd, .iaload] (by decide +kernel) (show aok 66 0 (((Int32.ofInt 8) * v4) + v5) ∧ Wp E (d + 2) 52 42 [.ref 65, .int v1, .int v2, .int v3, .int v4, .int v5, .null] [.int (M 66 ((((Int32.ofInt 8) * v4) + v5).toNatClampNeg)), .int v1] M L Q from ⟨⟨rfl, a_3⟩, ?_⟩)
      refine wp_callS 53 [.int v1, .int (M 66 ((((Int32.ofInt 8) * v4) + v5).toNatClampNeg))] (i := 51) (by decide +kernel) (by decide +kernel) (by decide +kernel) rfl rfl rfl (rest := []) rfl rfl ?_
      refine s_X8_largerPart M v1 (M 66 ((((Int32.ofInt 8) * v4) + v5).toNatClampNeg))  ?_
      show Wp E (d + 2) 52 45 [.ref 65, .int v1, .int v2, .int v3, .int v4, .int v5, .null] [.int (f_X8_largerPart M v1 (M 66 ((((Int32.ofInt 8) * v4) + v5).toNatClampNeg)))] M L Q
      refine wp_seg (pc' := 50) [.istore 6, .iload 6, .iload 2] (by decide +kernel) (?_ : Wp E (d + 2) 52 50 [.ref 65, .int v1, .int v2, .int v3, .int v4, .int v5, .int (f_X8_largerPart M v1 (M 66 ((((Int32.ofInt 8) * v4) + v5).toNatClampNeg)))] [.int v2, .int (f_X8_largerPart M v1 (M 66 ((((Int32.ofInt 8) * v4) + v5).toNatClampNeg)))] M L Q)
      refine wp_icmpge (off := 15) 65 (by decide +kernel) (by decide) (fun c_4 => ?_) (fun c_4 => ?_)
      · have hP := hP.1 c_4
        refine wp_seg (pc' := 21) [.iinc 5 1, .goto 0] (by decide +kernel) (?_ : Wp E (d + 2) 52 21 [.ref 65, .int v1, .int v2, .int v3, .int v4, .int (v5 + Int32.ofInt 1), .int (f_X8_largerPart M v1 (M 66 ((((Int32.ofInt 8) * v4) + v5).toNatClampNeg)))] [] M L Q)
        refine wp_drop (lo := [.ref 65, .int v1, .int v2, .int v3, .int v4, .int (v5 + Int32.ofInt 1), .null]) ⟨Or.inr rfl, Or.inr rfl, Or.inr rfl, Or.inr rfl, Or.inr rfl, Or.inr rfl, Or.inl rfl, trivial⟩ ?_
        exact ih v1 v2 v3 v4 (v5 + Int32.ofInt 1) M L hP
      · have hP := hP.2 c_4
        refine wp_seg (pc' := 21) [.iload 6, .istore 2, .iconst 10, .iload 4, .imul, .iload 5, .iadd, .istore 3, .iinc 5 1, .goto 0] (by decide +kernel) (?_ : Wp E (d + 2) 52 21 [.ref 65, .int v1, .int (f_X8_largerPart M v1 (M 66 ((((Int32.ofInt 8) * v4) + v5).toNatClampNeg))), .int (((Int32.ofInt 10) * v4) + v5), .int v4, .int (v5 + Int32.ofInt 1), .int (f_X8_largerPart M v1 (M 66 ((((Int32.ofInt 8) * v4) + v5).toNatClampNeg)))] [] M L Q)
        refine wp_drop (lo := [.ref 65, .int v1, .int (f_X8_largerPart M v1 (M 66 ((((Int32.ofInt 8) * v4) + v5).toNatClampNeg))), .int (((Int32.ofInt 10) * v4) + v5), .int v4, .int (v5 + Int32.ofInt 1), .null]) ⟨Or.inr rfl, Or.inr rfl, Or.inr rfl, Or.inr rfl, Or.inr rfl, Or.inr rfl, Or.inl rfl, trivial⟩ ?_
        exact ih v1 (f_X8_largerPart M v1 (M 66 ((((Int32.ofInt 8) * v4) + v5).toNatClampNeg))) (((Int32.ofInt 10) * v4) + v5) v4 (v5 + Int32.ofInt 1) M L hP
def PL_X8_nextTry_11 (K : Int32 → Mem → LMem → Prop)  : Nat → Int32 → Int32 → Int32 → Int32 → Mem → LMem → Prop
  | 0, _, _, _, _, _, _ => False
  | n_ + 1, v1, v2, v3, v4, M, L => (((Int32.ofInt 8) ≤ v4 → K v3 M L) ∧ (¬ ((Int32.ofInt 8) ≤ v4) → PL_X8_nextTry_21 K (PL_X8_nextTry_11 K n_) 100000 v1 v2 v3 v4 (Int32.ofInt 0) M L))
theorem tl_X8_nextTry_11 {E : VE} {d : Nat} {Q : QQ} {K : Int32 → Mem → LMem → Prop}  (hK : ∀ (v : Int32) (M : Mem) (L : LMem), K v M L → Q (some (.int v)) M L)  : ∀ (n_ : Nat) (v1 : Int32) (v2 : Int32) (v3 : Int32) (v4 : Int32) (M : Mem) (L : LMem), PL_X8_nextTry_11 K n_ v1 v2 v3 v4 M L → Wp E (d + 2) 52 11 [.ref 65, .int v1, .int v2, .int v3, .int v4, .null, .null] [] M L Q := by
  intro n_
  induction n_ with
  | zero => intro v1 v2 v3 v4 M L hP; exact False.elim hP
  | succ n_ ih =>
    intro v1 v2 v3 v4 M L hP
    unfold PL_X8_nextTry_11 at hP
    refine wp_seg (pc' := 15) [.iload 4, .iconst 8] (by decide +kernel) (?_ : Wp E (d + 2) 52 15 [.ref 65, .int v1, .int v2, .int v3, .int v4, .null, .null] [.int (Int32.ofInt 8), .int v4] M L Q)
    refine wp_icmpge (off := 62) 77 (by decide +kernel) (by decide) (fun c_1 => ?_) (fun c_1 => ?_)
    · have hP := hP.1 c_1
      refine wp_seg (pc' := 78) [.iload 3] (by decide +kernel) (?_ : Wp E (d + 2) 52 78 [.ref 65, .int v1, .int v2, .int v3, .int v4, .null, .null] [.int v3] M L Q)
      exact wp_iret (by decide +kernel) rfl (hK _ _ _ hP)
    · have hP := hP.2 c_1
      refine wp_seg (pc' := 21) [.iconst 0, .istore 5] (by decide +kernel) (?_ : Wp E (d + 2) 52 21 [.ref 65, .int v1, .int v2, .int v3, .int v4, .int (Int32.ofInt 0), .null] [] M L Q)
      exact tl_X8_nextTry_21 hK (fun v1 v2 v3 v4 M L hP => ih v1 v2 v3 v4 M L hP) 100000 v1 v2 v3 v4 (Int32.ofInt 0) M L hP
def P_X8_nextTry (x1 : Int32) (M : Mem) (L : LMem) (K : Int32 → Mem → LMem → Prop) : Prop := PL_X8_nextTry_11 K 100000 x1 (f_J6_bitCount_0f7a4 M x1) (Int32.ofInt (-6)) (Int32.ofInt 0) M L
theorem t_X8_nextTry {E : VE} {d : Nat} {Q : QQ} {K : Int32 → Mem → LMem → Prop} {x1 : Int32} {M : Mem} {L : LMem} (hP : P_X8_nextTry x1 M L K) (hK : ∀ (v : Int32) (M : Mem) (L : LMem), K v M L → Q (some (.int v)) M L) : Wp E (d + 2) 52 0 [.ref 65, .int x1, .null, .null, .null, .null, .null] [] M L Q := by
  unfold P_X8_nextTry at hP
  refine wp_seg (pc' := 1) [.iload 1] (by decide +kernel) (?_ : Wp E (d + 2) 52 1 [.ref 65, .int x1, .null, .null, .null, .null, .null] [.int x1] M L Q)
  refine wp_callS 87 [.int x1] (i := 45) (by decide +kernel) (by decide +kernel) (by decide +kernel) rfl rfl rfl (rest := []) rfl rfl ?_
  refine s_J6_bitCount_0f7a4 M x1  ?_
  show Wp E (d + 2) 52 4 [.ref 65, .int x1, .null, .null, .null, .null, .null] [.int (f_J6_bitCount_0f7a4 M x1)] M L Q
  refine wp_seg (pc' := 11) [.istore 2, .iconst (-6), .istore 3, .iconst 0, .istore 4] (by decide +kernel) (?_ : Wp E (d + 2) 52 11 [.ref 65, .int x1, .int (f_J6_bitCount_0f7a4 M x1), .int (Int32.ofInt (-6)), .int (Int32.ofInt 0), .null, .null] [] M L Q)
  exact tl_X8_nextTry_11 hK 100000 x1 (f_J6_bitCount_0f7a4 M x1) (Int32.ofInt (-6)) (Int32.ofInt 0) M L hP

def PL_X8_hasPart_2 (K : Int32 → Mem → LMem → Prop)  : Nat → Int32 → Int32 → Int32 → Mem → LMem → Prop
  | 0, _, _, _, _, _ => False
  | n_ + 1, v1, v2, v3, M, L => (((M 65 2) ≤ v3 → K (Int32.ofInt 0) M L) ∧ (¬ ((M 65 2) ≤ v3) → (vp_in v3 64 ∧ (((M 67 v3.toNatClampNeg) = v1 → K (Int32.ofInt 1) M L) ∧ (¬ ((M 67 v3.toNatClampNeg) = v1) → (((M 67 v3.toNatClampNeg) = (v2 &&& (v1 ^^^ (Int32.ofInt (-1)))) → K (Int32.ofInt 1) M L) ∧ (¬ ((M 67 v3.toNatClampNeg) = (v2 &&& (v1 ^^^ (Int32.ofInt (-1))))) → PL_X8_hasPart_2 K n_ v1 v2 (v3 + Int32.ofInt 1) M L)))))))
theorem tl_X8_hasPart_2 {E : VE} {d : Nat} {Q : QQ} {K : Int32 → Mem → LMem → Prop}  (hK : ∀ (v : Int32) (M : Mem) (L : LMem), K v M L → Q (some (.int v)) M L)  : ∀ (n_ : Nat) (v1 : Int32) (v2 : Int32) (v3 : Int32) (M : Mem) (L : LMem), PL_X8_hasPart_2 K n_ v1 v2 v3 M L → Wp E d 56 2 [.ref 65, .int v1, .int v2, .int v3] [] M L Q := by
  intro n_
  induction n_ with
  | zero => intro v1 v2 v3 M L hP; exact False.elim hP
  | succ n_ ih =>
    intro v1 v2 v3 M L hP
    unfold PL_X8_hasPart_2 at hP
    refine wp_seg (pc' := 7) [.iload 3, .aload 0, .getfield 514] (by decide +kernel) (?_ : Wp E d 56 7 [.ref 65, .int v1, .int v2, .int v3] [.int (M 65 2), .int v3] M L Q)
    refine wp_icmpge (off := 35) 42 (by decide +kernel) (by decide) (fun c_1 => ?_) (fun c_1 => ?_)
    · have hP := hP.1 c_1
      refine wp_seg (pc' := 43) [.iconst 0] (by decide +kernel) (?_ : Wp E d 56 43 [.ref 65, .int v1, .int v2, .int v3] [.int (Int32.ofInt 0)] M L Q)
      exact wp_zret (by decide +kernel) rfl (by decide) (hK _ _ _ hP)
    · have hP := hP.2 c_1
      obtain ⟨a_2, hP⟩ := hP
      refine wp_seg (pc' := 16) [.aload 0, .getfield 513, .iload 3, .iaload] (by decide +kernel) (show aok 67 0 v3 ∧ Wp E d 56 16 [.ref 65, .int v1, .int v2, .int v3] [.int (M 67 v3.toNatClampNeg)] M L Q from ⟨⟨rfl, a_2⟩, ?_⟩)
      refine wp_seg (pc' := 17) [.iload 1] (by decide +kernel) (?_ : Wp E d 56 17 [.ref 65, .int v1, .int v2, .int v3] [.int v1, .int (M 67 v3.toNatClampNeg)] M L Q)
      refine wp_icmpeq (off := 17) 34 (by decide +kernel) (by decide) (fun c_3 => ?_) (fun c_3 => ?_)
      · have hP := hP.1 c_3
        refine wp_seg (pc' := 35) [.iconst 1] (by decide +kernel) (?_ : Wp E d 56 35 [.ref 65, .int v1, .int v2, .int v3] [.int (Int32.ofInt 1)] M L Q)
        exact wp_zret (by decide +kernel) rfl (by decide) (hK _ _ _ hP)
      · have hP := hP.2 c_3
        refine wp_seg (pc' := 26) [.aload 0, .getfield 513, .iload 3, .iaload] (by decide +kernel) (show aok 67 0 v3 ∧ Wp E d 56 26 [.ref 65, .int v1, .int v2, .int v3] [.int (M 67 v3.toNatClampNeg)] M L Q from ⟨⟨rfl, a_2⟩, ?_⟩)
        refine wp_seg (pc' := 31) [.iload 2, .iload 1, .iconst (-1), .ixor, .iand] (by decide +kernel) (?_ : Wp E d 56 31 [.ref 65, .int v1, .int v2, .int v3] [.int (v2 &&& (v1 ^^^ (Int32.ofInt (-1)))), .int (M 67 v3.toNatClampNeg)] M L Q)
        refine wp_icmpne (off := 5) 36 (by decide +kernel) (by decide) (fun c_4 => ?_) (fun c_4 => ?_)
        · have hP := hP.2 c_4
          refine wp_seg (pc' := 2) [.iinc 3 1, .goto 0] (by decide +kernel) (?_ : Wp E d 56 2 [.ref 65, .int v1, .int v2, .int (v3 + Int32.ofInt 1)] [] M L Q)
          exact ih v1 v2 (v3 + Int32.ofInt 1) M L hP
        · have hP := hP.1 c_4
          refine wp_seg (pc' := 35) [.iconst 1] (by decide +kernel) (?_ : Wp E d 56 35 [.ref 65, .int v1, .int v2, .int v3] [.int (Int32.ofInt 1)] M L Q)
          exact wp_zret (by decide +kernel) rfl (by decide) (hK _ _ _ hP)
def P_X8_hasPart (x1 : Int32) (x2 : Int32) (M : Mem) (L : LMem) (K : Int32 → Mem → LMem → Prop) : Prop := PL_X8_hasPart_2 K 100000 x1 x2 (Int32.ofInt 0) M L
theorem t_X8_hasPart {E : VE} {d : Nat} {Q : QQ} {K : Int32 → Mem → LMem → Prop} {x1 : Int32} {x2 : Int32} {M : Mem} {L : LMem} (hP : P_X8_hasPart x1 x2 M L K) (hK : ∀ (v : Int32) (M : Mem) (L : LMem), K v M L → Q (some (.int v)) M L) : Wp E d 56 0 [.ref 65, .int x1, .int x2, .null] [] M L Q := by
  unfold P_X8_hasPart at hP
  refine wp_seg (pc' := 2) [.iconst 0, .istore 3] (by decide +kernel) (?_ : Wp E d 56 2 [.ref 65, .int x1, .int x2, .int (Int32.ofInt 0)] [] M L Q)
  exact tl_X8_hasPart_2 hK 100000 x1 x2 (Int32.ofInt 0) M L hP

def PL_X8_gatherParts_35 (K : Mem → LMem → Prop) (C_16 : Int32 → Int32 → Int32 → Mem → LMem → Prop) : Nat → Int32 → Int32 → Int32 → Int32 → Int32 → Mem → LMem → Prop
  | 0, _, _, _, _, _, _, _ => False
  | n_ + 1, v1, v2, v3, v5, v6, M, L => ((v5 ≤ v6 → C_16 v1 v2 (v3 + Int32.ofInt 1) M L) ∧ (¬ (v5 ≤ v6) → (vp_in v6 64 ∧ (((f_X8_largerPart M v1 (M 66 v6.toNatClampNeg)) = v3 → P_X8_hasPart ((M 66 v6.toNatClampNeg) &&& v1) v1 M L (fun v_7 M_5 L_6 => ((v_7 = 0 → (((Int32.ofNat 64) ≤ (M_5 65 2) → PL_X8_gatherParts_35 K C_16 n_ v1 v2 v3 v5 (v6 + Int32.ofInt 1) M_5 L_6) ∧ (¬ ((Int32.ofNat 64) ≤ (M_5 65 2)) → (vp_in (M_5 65 2) 64 ∧ PL_X8_gatherParts_35 K C_16 n_ v1 v2 v3 v5 (v6 + Int32.ofInt 1) (mput (mput M_5 67 ((M_5 65 2).toNatClampNeg) ((M 66 v6.toNatClampNeg) &&& v1)) 65 2 ((M_5 65 2) + (Int32.ofInt 1))) L_6)))) ∧ (¬ (v_7 = 0) → PL_X8_gatherParts_35 K C_16 n_ v1 v2 v3 v5 (v6 + Int32.ofInt 1) M_5 L_6)))) ∧ (¬ ((f_X8_largerPart M v1 (M 66 v6.toNatClampNeg)) = v3) → PL_X8_gatherParts_35 K C_16 n_ v1 v2 v3 v5 (v6 + Int32.ofInt 1) M L)))))
theorem tl_X8_gatherParts_35 {E : VE} {d : Nat} {Q : QQ} {K : Mem → LMem → Prop} {C_16 : Int32 → Int32 → Int32 → Mem → LMem → Prop} (hK : ∀ (M : Mem) (L : LMem), K M L → Q none M L) (hC_16 : ∀ (v1 : Int32) (v2 : Int32) (v3 : Int32) (M : Mem) (L : LMem), C_16 v1 v2 v3 M L → Wp E (d + 2) 55 16 [.ref 65, .int v1, .int v2, .int v3, .null, .null, .null, .null, .null] [] M L Q) : ∀ (n_ : Nat) (v1 : Int32) (v2 : Int32) (v3 : Int32) (v5 : Int32) (v6 : Int32) (M : Mem) (L : LMem), PL_X8_gatherParts_35 K C_16 n_ v1 v2 v3 v5 v6 M L → Wp E (d + 2) 55 35 [.ref 65, .int v1, .int v2, .int v3, .ref 66, .int v5, .int v6, .null, .null] [] M L Q := by
  intro n_
  induction n_ with
  | zero => intro v1 v2 v3 v5 v6 M L hP; exact False.elim hP
  | succ n_ ih =>
    intro v1 v2 v3 v5 v6 M L hP
    unfold PL_X8_gatherParts_35 at hP
    refine wp_seg (pc' := 39) [.iload 6, .iload 5] (by decide +kernel) (?_ : Wp E (d + 2) 55 39 [.ref 65, .int v1, .int v2, .int v3, .ref 66, .int v5, .int v6, .null, .null] [.int v5, .int v6] M L Q)
    refine wp_icmpge (off := 75) 114 (by decide +kernel) (by decide) (fun c_2 => ?_) (fun c_2 => ?_)
    · have hP := hP.1 c_2
      refine wp_seg (pc' := 16) [.iinc 3 1, .goto 0] (by decide +kernel) (?_ : Wp E (d + 2) 55 16 [.ref 65, .int v1, .int v2, .int (v3 + Int32.ofInt 1), .ref 66, .int v5, .int v6, .null, .null] [] M L Q)
      refine wp_drop (lo := [.ref 65, .int v1, .int v2, .int (v3 + Int32.ofInt 1), .null, .null, .null, .null, .null]) ⟨Or.inr rfl, Or.inr rfl, Or.inr rfl, Or.inr rfl, Or.inl rfl, Or.inl rfl, Or.inl rfl, Or.inl rfl, Or.inl rfl, trivial⟩ ?_
      exact hC_16 v1 v2 (v3 + Int32.ofInt 1) M L hP
    · have hP := hP.2 c_2
      obtain ⟨a_3, hP⟩ := hP
      refine wp_seg (pc' := 47) [.aload 4, .iload 6, .iaload] (by decide +kernel) (show aok 66 0 v6 ∧ Wp E (d + 2) 55 47 [.ref 65, .int v1, .int v2, .int v3, .ref 66, .int v5, .int v6, .null, .null] [.int (M 66 v6.toNatClampNeg)] M L Q from ⟨⟨rfl, a_3⟩, ?_⟩)
      refine wp_seg (pc' := 58) [.istore 7, .iload 7, .iload 1, .iand, .istore 8, .iload 1, .iload 7] (by decide +kernel) (?_ : Wp E (d + 2) 55 58 [.ref 65, .int v1, .int v2, .int v3, .ref 66, .int v5, .int v6, .int (M 66 v6.toNatClampNeg), .int ((M 66 v6.toNatClampNeg) &&& v1)] [.int (M 66 v6.toNatClampNeg), .int v1] M L Q)
      refine wp_callS 53 [.int v1, .int (M 66 v6.toNatClampNeg)] (i := 51) (by decide +kernel) (by decide +kernel) (by decide +kernel) rfl rfl rfl (rest := []) rfl rfl ?_
      refine s_X8_largerPart M v1 (M 66 v6.toNatClampNeg)  ?_
      show Wp E (d + 2) 55 61 [.ref 65, .int v1, .int v2, .int v3, .ref 66, .int v5, .int v6, .int (M 66 v6.toNatClampNeg), .int ((M 66 v6.toNatClampNeg) &&& v1)] [.int (f_X8_largerPart M v1 (M 66 v6.toNatClampNeg))] M L Q
      refine wp_seg (pc' := 62) [.iload 3] (by decide +kernel) (?_ : Wp E (d + 2) 55 62 [.ref 65, .int v1, .int v2, .int v3, .ref 66, .int v5, .int v6, .int (M 66 v6.toNatClampNeg), .int ((M 66 v6.toNatClampNeg) &&& v1)] [.int v3, .int (f_X8_largerPart M v1 (M 66 v6.toNatClampNeg))] M L Q)
      refine wp_icmpne (off := 46) 108 (by decide +kernel) (by decide) (fun c_4 => ?_) (fun c_4 => ?_)
      · have hP := hP.2 c_4
        refine wp_seg (pc' := 35) [.iinc 6 1, .goto 0] (by decide +kernel) (?_ : Wp E (d + 2) 55 35 [.ref 65, .int v1, .int v2, .int v3, .ref 66, .int v5, .int (v6 + Int32.ofInt 1), .int (M 66 v6.toNatClampNeg), .int ((M 66 v6.toNatClampNeg) &&& v1)] [] M L Q)
        refine wp_drop (lo := [.ref 65, .int v1, .int v2, .int v3, .ref 66, .int v5, .int (v6 + Int32.ofInt 1), .null, .null]) ⟨Or.inr rfl, Or.inr rfl, Or.inr rfl, Or.inr rfl, Or.inr rfl, Or.inr rfl, Or.inr rfl, Or.inl rfl, Or.inl rfl, trivial⟩ ?_
        exact ih v1 v2 v3 v5 (v6 + Int32.ofInt 1) M L hP
      · have hP := hP.1 c_4
        refine wp_seg (pc' := 69) [.aload 0, .iload 8, .iload 1] (by decide +kernel) (?_ : Wp E (d + 2) 55 69 [.ref 65, .int v1, .int v2, .int v3, .ref 66, .int v5, .int v6, .int (M 66 v6.toNatClampNeg), .int ((M 66 v6.toNatClampNeg) &&& v1)] [.int v1, .int ((M 66 v6.toNatClampNeg) &&& v1), .ref 65] M L Q)
        refine wp_callV 56 65 [.int ((M 66 v6.toNatClampNeg) &&& v1), .int v1] (i := 84) (by decide +kernel) (by decide +kernel) (by decide +kernel) (by decide +kernel) rfl rfl rfl (rest := []) rfl rfl ?_
        refine t_X8_hasPart hP (fun v_7 M_5 L_6 hP => ?_)
        show Wp E (d + 2) 55 72 [.ref 65, .int v1, .int v2, .int v3, .ref 66, .int v5, .int v6, .int (M 66 v6.toNatClampNeg), .int ((M 66 v6.toNatClampNeg) &&& v1)] [.int v_7] M_5 L_6 Q
        refine wp_ifne (off := 36) 108 (by decide +kernel) (by decide) (fun c_8 => ?_) (fun c_8 => ?_)
        · have hP := hP.2 c_8
          refine wp_seg (pc' := 35) [.iinc 6 1, .goto 0] (by decide +kernel) (?_ : Wp E (d + 2) 55 35 [.ref 65, .int v1, .int v2, .int v3, .ref 66, .int v5, .int (v6 + Int32.ofInt 1), .int (M 66 v6.toNatClampNeg), .int ((M 66 v6.toNatClampNeg) &&& v1)] [] M_5 L_6 Q)
          refine wp_drop (lo := [.ref 65, .int v1, .int v2, .int v3, .ref 66, .int v5, .int (v6 + Int32.ofInt 1), .null, .null]) ⟨Or.inr rfl, Or.inr rfl, Or.inr rfl, Or.inr rfl, Or.inr rfl, Or.inr rfl, Or.inr rfl, Or.inl rfl, Or.inl rfl, trivial⟩ ?_
          exact ih v1 v2 v3 v5 (v6 + Int32.ofInt 1) M_5 L_6 hP
        · have hP := hP.1 c_8
          refine wp_seg (pc' := 84) [.aload 0, .getfield 514, .aload 0, .getfield 513, .arraylength] (by decide +kernel) (?_ : Wp E (d + 2) 55 84 [.ref 65, .int v1, .int v2, .int v3, .ref 66, .int v5, .int v6, .int (M 66 v6.toNatClampNeg), .int ((M 66 v6.toNatClampNeg) &&& v1)] [.int (Int32.ofNat 64), .int (M_5 65 2)] M_5 L_6 Q)
          refine wp_icmpge (off := 24) 108 (by decide +kernel) (by decide) (fun c_9 => ?_) (fun c_9 => ?_)
          · have hP := hP.1 c_9
            refine wp_seg (pc' := 35) [.iinc 6 1, .goto 0] (by decide +kernel) (?_ : Wp E (d + 2) 55 35 [.ref 65, .int v1, .int v2, .int v3, .ref 66, .int v5, .int (v6 + Int32.ofInt 1), .int (M 66 v6.toNatClampNeg), .int ((M 66 v6.toNatClampNeg) &&& v1)] [] M_5 L_6 Q)
            refine wp_drop (lo := [.ref 65, .int v1, .int v2, .int v3, .ref 66, .int v5, .int (v6 + Int32.ofInt 1), .null, .null]) ⟨Or.inr rfl, Or.inr rfl, Or.inr rfl, Or.inr rfl, Or.inr rfl, Or.inr rfl, Or.inr rfl, Or.inl rfl, Or.inl rfl, trivial⟩ ?_
            exact ih v1 v2 v3 v5 (v6 + Int32.ofInt 1) M_5 L_6 hP
          · have hP := hP.2 c_9
            obtain ⟨a_10, hP⟩ := hP
            refine wp_seg (pc' := 98) [.aload 0, .getfield 513, .aload 0, .getfield 514, .iload 8, .iastore] (by decide +kernel) (show aok 67 0 (M_5 65 2) ∧ Wp E (d + 2) 55 98 [.ref 65, .int v1, .int v2, .int v3, .ref 66, .int v5, .int v6, .int (M 66 v6.toNatClampNeg), .int ((M 66 v6.toNatClampNeg) &&& v1)] [] (mput M_5 67 ((M_5 65 2).toNatClampNeg) ((M 66 v6.toNatClampNeg) &&& v1)) L_6 Q from ⟨⟨rfl, a_10⟩, ?_⟩)
            refine wp_seg (pc' := 35) [.aload 0, .dup, .getfield 514, .iconst 1, .iadd, .putfield 514, .iinc 6 1, .goto 0] (by decide +kernel) (?_ : Wp E (d + 2) 55 35 [.ref 65, .int v1, .int v2, .int v3, .ref 66, .int v5, .int (v6 + Int32.ofInt 1), .int (M 66 v6.toNatClampNeg), .int ((M 66 v6.toNatClampNeg) &&& v1)] [] (mput (mput M_5 67 ((M_5 65 2).toNatClampNeg) ((M 66 v6.toNatClampNeg) &&& v1)) 65 2 ((M_5 65 2) + (Int32.ofInt 1))) L_6 Q)
            refine wp_drop (lo := [.ref 65, .int v1, .int v2, .int v3, .ref 66, .int v5, .int (v6 + Int32.ofInt 1), .null, .null]) ⟨Or.inr rfl, Or.inr rfl, Or.inr rfl, Or.inr rfl, Or.inr rfl, Or.inr rfl, Or.inr rfl, Or.inl rfl, Or.inl rfl, trivial⟩ ?_
            exact ih v1 v2 v3 v5 (v6 + Int32.ofInt 1) (mput (mput M_5 67 ((M_5 65 2).toNatClampNeg) ((M 66 v6.toNatClampNeg) &&& v1)) 65 2 ((M_5 65 2) + (Int32.ofInt 1))) L_6 hP
def PL_X8_gatherParts_16 (K : Mem → LMem → Prop)  : Nat → Int32 → Int32 → Int32 → Mem → LMem → Prop
  | 0, _, _, _, _, _ => False
  | n_ + 1, v1, v2, v3, M, L => ((v2 ≤ v3 → K M L) ∧ (¬ (v2 ≤ v3) → PL_X8_gatherParts_35 K (PL_X8_gatherParts_16 K n_) 100000 v1 v2 v3 (Int32.ofNat 64) (Int32.ofInt 0) M L))
theorem tl_X8_gatherParts_16 {E : VE} {d : Nat} {Q : QQ} {K : Mem → LMem → Prop}  (hK : ∀ (M : Mem) (L : LMem), K M L → Q none M L)  : ∀ (n_ : Nat) (v1 : Int32) (v2 : Int32) (v3 : Int32) (M : Mem) (L : LMem), PL_X8_gatherParts_16 K n_ v1 v2 v3 M L → Wp E (d + 2) 55 16 [.ref 65, .int v1, .int v2, .int v3, .null, .null, .null, .null, .null] [] M L Q := by
  intro n_
  induction n_ with
  | zero => intro v1 v2 v3 M L hP; exact False.elim hP
  | succ n_ ih =>
    intro v1 v2 v3 M L hP
    unfold PL_X8_gatherParts_16 at hP
    refine wp_seg (pc' := 18) [.iload 3, .iload 2] (by decide +kernel) (?_ : Wp E (d + 2) 55 18 [.ref 65, .int v1, .int v2, .int v3, .null, .null, .null, .null, .null] [.int v2, .int v3] M L Q)
    refine wp_icmpge (off := 102) 120 (by decide +kernel) (by decide) (fun c_1 => ?_) (fun c_1 => ?_)
    · have hP := hP.1 c_1
      exact wp_vret (by decide +kernel) rfl (hK _ _ hP)
    · have hP := hP.2 c_1
      refine wp_seg (pc' := 35) [.aload 0, .getfield 512, .astore 4, .aload 4, .arraylength, .istore 5, .iconst 0, .istore 6] (by decide +kernel) (?_ : Wp E (d + 2) 55 35 [.ref 65, .int v1, .int v2, .int v3, .ref 66, .int (Int32.ofNat 64), .int (Int32.ofInt 0), .null, .null] [] M L Q)
      exact tl_X8_gatherParts_35 hK (fun v1 v2 v3 M L hP => ih v1 v2 v3 M L hP) 100000 v1 v2 v3 (Int32.ofNat 64) (Int32.ofInt 0) M L hP
def P_X8_gatherParts (x1 : Int32) (M : Mem) (L : LMem) (K : Mem → LMem → Prop) : Prop := PL_X8_gatherParts_16 K 100000 x1 (f_J6_bitCount_0f7a4 (mput M 65 2 (Int32.ofInt 0)) x1) (((f_J6_bitCount_0f7a4 (mput M 65 2 (Int32.ofInt 0)) x1) + (Int32.ofInt 1)) / (Int32.ofInt 2)) (mput M 65 2 (Int32.ofInt 0)) L
theorem t_X8_gatherParts {E : VE} {d : Nat} {Q : QQ} {K : Mem → LMem → Prop} {x1 : Int32} {M : Mem} {L : LMem} (hP : P_X8_gatherParts x1 M L K) (hK : ∀ (M : Mem) (L : LMem), K M L → Q none M L) : Wp E (d + 2) 55 0 [.ref 65, .int x1, .null, .null, .null, .null, .null, .null, .null] [] M L Q := by
  unfold P_X8_gatherParts at hP
  refine wp_seg (pc' := 6) [.aload 0, .iconst 0, .putfield 514, .iload 1] (by decide +kernel) (?_ : Wp E (d + 2) 55 6 [.ref 65, .int x1, .null, .null, .null, .null, .null, .null, .null] [.int x1] (mput M 65 2 (Int32.ofInt 0)) L Q)
  refine wp_callS 87 [.int x1] (i := 45) (by decide +kernel) (by decide +kernel) (by decide +kernel) rfl rfl rfl (rest := []) rfl rfl ?_
  refine s_J6_bitCount_0f7a4 (mput M 65 2 (Int32.ofInt 0)) x1  ?_
  show Wp E (d + 2) 55 9 [.ref 65, .int x1, .null, .null, .null, .null, .null, .null, .null] [.int (f_J6_bitCount_0f7a4 (mput M 65 2 (Int32.ofInt 0)) x1)] (mput M 65 2 (Int32.ofInt 0)) L Q
  refine wp_seg (pc' := 15) [.istore 2, .iload 2, .iconst 1, .iadd, .iconst 2, .idiv] (by decide +kernel) (show ¬ (Int32.ofInt 2) = 0 ∧ Wp E (d + 2) 55 15 [.ref 65, .int x1, .int (f_J6_bitCount_0f7a4 (mput M 65 2 (Int32.ofInt 0)) x1), .null, .null, .null, .null, .null, .null] [.int (((f_J6_bitCount_0f7a4 (mput M 65 2 (Int32.ofInt 0)) x1) + (Int32.ofInt 1)) / (Int32.ofInt 2))] (mput M 65 2 (Int32.ofInt 0)) L Q from ⟨(by decide), ?_⟩)
  refine wp_seg (pc' := 16) [.istore 3] (by decide +kernel) (?_ : Wp E (d + 2) 55 16 [.ref 65, .int x1, .int (f_J6_bitCount_0f7a4 (mput M 65 2 (Int32.ofInt 0)) x1), .int (((f_J6_bitCount_0f7a4 (mput M 65 2 (Int32.ofInt 0)) x1) + (Int32.ofInt 1)) / (Int32.ofInt 2)), .null, .null, .null, .null, .null] [] (mput M 65 2 (Int32.ofInt 0)) L Q)
  exact tl_X8_gatherParts_16 hK 100000 x1 (f_J6_bitCount_0f7a4 (mput M 65 2 (Int32.ofInt 0)) x1) (((f_J6_bitCount_0f7a4 (mput M 65 2 (Int32.ofInt 0)) x1) + (Int32.ofInt 1)) / (Int32.ofInt 2)) (mput M 65 2 (Int32.ofInt 0)) L hP

def PL_X8_allCanBeParted_13 (K : Int32 → Mem → LMem → Prop) (C_2 : Int32 → Int32 → Mem → LMem → Prop) : Nat → Int32 → Int32 → Int32 → Int32 → Mem → LMem → Prop
  | 0, _, _, _, _, _, _ => False
  | n_ + 1, v1, v2, v3, v4, M, L => (((M 65 2) ≤ v4 → ((((v1 >>> (v2 &&& 31)) &&& (Int32.ofInt 1)) = 0 → C_2 v1 (v2 + Int32.ofInt 1) M L) ∧ (¬ (((v1 >>> (v2 &&& 31)) &&& (Int32.ofInt 1)) = 0) → ((v3 = ((Int32.ofInt 1) <<< (v2 &&& 31)) → C_2 v1 (v2 + Int32.ofInt 1) M L) ∧ (¬ (v3 = ((Int32.ofInt 1) <<< (v2 &&& 31))) → K (Int32.ofInt 0) M L))))) ∧ (¬ ((M 65 2) ≤ v4) → (vp_in v4 64 ∧ (((((M 67 v4.toNatClampNeg) >>> (v2 &&& 31)) &&& (Int32.ofInt 1)) = 0 → PL_X8_allCanBeParted_13 K C_2 n_ v1 v2 (v3 &&& ((M 67 v4.toNatClampNeg) ^^^ (Int32.ofInt (-1)))) (v4 + Int32.ofInt 1) M L) ∧ (¬ ((((M 67 v4.toNatClampNeg) >>> (v2 &&& 31)) &&& (Int32.ofInt 1)) = 0) → PL_X8_allCanBeParted_13 K C_2 n_ v1 v2 (v3 &&& (M 67 v4.toNatClampNeg)) (v4 + Int32.ofInt 1) M L)))))
theorem tl_X8_allCanBeParted_13 {E : VE} {d : Nat} {Q : QQ} {K : Int32 → Mem → LMem → Prop} {C_2 : Int32 → Int32 → Mem → LMem → Prop} (hK : ∀ (v : Int32) (M : Mem) (L : LMem), K v M L → Q (some (.int v)) M L) (hC_2 : ∀ (v1 : Int32) (v2 : Int32) (M : Mem) (L : LMem), C_2 v1 v2 M L → Wp E d 57 2 [.ref 65, .int v1, .int v2, .null, .null] [] M L Q) : ∀ (n_ : Nat) (v1 : Int32) (v2 : Int32) (v3 : Int32) (v4 : Int32) (M : Mem) (L : LMem), PL_X8_allCanBeParted_13 K C_2 n_ v1 v2 v3 v4 M L → Wp E d 57 13 [.ref 65, .int v1, .int v2, .int v3, .int v4] [] M L Q := by
  intro n_
  induction n_ with
  | zero => intro v1 v2 v3 v4 M L hP; exact False.elim hP
  | succ n_ ih =>
    intro v1 v2 v3 v4 M L hP
    unfold PL_X8_allCanBeParted_13 at hP
    refine wp_seg (pc' := 19) [.iload 4, .aload 0, .getfield 514] (by decide +kernel) (?_ : Wp E d 57 19 [.ref 65, .int v1, .int v2, .int v3, .int v4] [.int (M 65 2), .int v4] M L Q)
    refine wp_icmpge (off := 45) 64 (by decide +kernel) (by decide) (fun c_2 => ?_) (fun c_2 => ?_)
    · have hP := hP.1 c_2
      refine wp_seg (pc' := 69) [.iload 1, .iload 2, .ishr, .iconst 1, .iand] (by decide +kernel) (?_ : Wp E d 57 69 [.ref 65, .int v1, .int v2, .int v3, .int v4] [.int ((v1 >>> (v2 &&& 31)) &&& (Int32.ofInt 1))] M L Q)
      refine wp_ifeq (off := 12) 81 (by decide +kernel) (by decide) (fun c_3 => ?_) (fun c_3 => ?_)
      · have hP := hP.1 c_3
        refine wp_seg (pc' := 2) [.iinc 2 1, .goto 0] (by decide +kernel) (?_ : Wp E d 57 2 [.ref 65, .int v1, .int (v2 + Int32.ofInt 1), .int v3, .int v4] [] M L Q)
        refine wp_drop (lo := [.ref 65, .int v1, .int (v2 + Int32.ofInt 1), .null, .null]) ⟨Or.inr rfl, Or.inr rfl, Or.inr rfl, Or.inl rfl, Or.inl rfl, trivial⟩ ?_
        exact hC_2 v1 (v2 + Int32.ofInt 1) M L hP
      · have hP := hP.2 c_3
        refine wp_seg (pc' := 76) [.iload 3, .iconst 1, .iload 2, .ishl] (by decide +kernel) (?_ : Wp E d 57 76 [.ref 65, .int v1, .int v2, .int v3, .int v4] [.int ((Int32.ofInt 1) <<< (v2 &&& 31)), .int v3] M L Q)
        refine wp_icmpeq (off := 5) 81 (by decide +kernel) (by decide) (fun c_4 => ?_) (fun c_4 => ?_)
        · have hP := hP.1 c_4
          refine wp_seg (pc' := 2) [.iinc 2 1, .goto 0] (by decide +kernel) (?_ : Wp E d 57 2 [.ref 65, .int v1, .int (v2 + Int32.ofInt 1), .int v3, .int v4] [] M L Q)
          refine wp_drop (lo := [.ref 65, .int v1, .int (v2 + Int32.ofInt 1), .null, .null]) ⟨Or.inr rfl, Or.inr rfl, Or.inr rfl, Or.inl rfl, Or.inl rfl, trivial⟩ ?_
          exact hC_2 v1 (v2 + Int32.ofInt 1) M L hP
        · have hP := hP.2 c_4
          refine wp_seg (pc' := 80) [.iconst 0] (by decide +kernel) (?_ : Wp E d 57 80 [.ref 65, .int v1, .int v2, .int v3, .int v4] [.int (Int32.ofInt 0)] M L Q)
          exact wp_zret (by decide +kernel) rfl (by decide) (hK _ _ _ hP)
    · have hP := hP.2 c_2
      obtain ⟨a_5, hP⟩ := hP
      refine wp_seg (pc' := 30) [.iload 3, .aload 0, .getfield 513, .iload 4, .iaload] (by decide +kernel) (show aok 67 0 v4 ∧ Wp E d 57 30 [.ref 65, .int v1, .int v2, .int v3, .int v4] [.int (M 67 v4.toNatClampNeg), .int v3] M L Q from ⟨⟨rfl, a_5⟩, ?_⟩)
      refine wp_seg (pc' := 34) [.iload 2, .ishr, .iconst 1, .iand] (by decide +kernel) (?_ : Wp E d 57 34 [.ref 65, .int v1, .int v2, .int v3, .int v4] [.int (((M 67 v4.toNatClampNeg) >>> (v2 &&& 31)) &&& (Int32.ofInt 1)), .int v3] M L Q)
      refine wp_ifeq (off := 13) 47 (by decide +kernel) (by decide) (fun c_6 => ?_) (fun c_6 => ?_)
      · have hP := hP.1 c_6
        refine wp_seg (pc' := 54) [.aload 0, .getfield 513, .iload 4, .iaload] (by decide +kernel) (show aok 67 0 v4 ∧ Wp E d 57 54 [.ref 65, .int v1, .int v2, .int v3, .int v4] [.int (M 67 v4.toNatClampNeg), .int v3] M L Q from ⟨⟨rfl, a_5⟩, ?_⟩)
        refine wp_seg (pc' := 13) [.iconst (-1), .ixor, .iand, .istore 3, .iinc 4 1, .goto 0] (by decide +kernel) (?_ : Wp E d 57 13 [.ref 65, .int v1, .int v2, .int (v3 &&& ((M 67 v4.toNatClampNeg) ^^^ (Int32.ofInt (-1)))), .int (v4 + Int32.ofInt 1)] [] M L Q)
        exact ih v1 v2 (v3 &&& ((M 67 v4.toNatClampNeg) ^^^ (Int32.ofInt (-1)))) (v4 + Int32.ofInt 1) M L hP
      · have hP := hP.2 c_6
        refine wp_seg (pc' := 44) [.aload 0, .getfield 513, .iload 4, .iaload] (by decide +kernel) (show aok 67 0 v4 ∧ Wp E d 57 44 [.ref 65, .int v1, .int v2, .int v3, .int v4] [.int (M 67 v4.toNatClampNeg), .int v3] M L Q from ⟨⟨rfl, a_5⟩, ?_⟩)
        refine wp_seg (pc' := 13) [.goto 0, .iand, .istore 3, .iinc 4 1, .goto 0] (by decide +kernel) (?_ : Wp E d 57 13 [.ref 65, .int v1, .int v2, .int (v3 &&& (M 67 v4.toNatClampNeg)), .int (v4 + Int32.ofInt 1)] [] M L Q)
        exact ih v1 v2 (v3 &&& (M 67 v4.toNatClampNeg)) (v4 + Int32.ofInt 1) M L hP
def PL_X8_allCanBeParted_2 (K : Int32 → Mem → LMem → Prop)  : Nat → Int32 → Int32 → Mem → LMem → Prop
  | 0, _, _, _, _ => False
  | n_ + 1, v1, v2, M, L => (((Int32.ofInt 13) ≤ v2 → K (Int32.ofInt 1) M L) ∧ (¬ ((Int32.ofInt 13) ≤ v2) → PL_X8_allCanBeParted_13 K (PL_X8_allCanBeParted_2 K n_) 100000 v1 v2 v1 (Int32.ofInt 0) M L))
theorem tl_X8_allCanBeParted_2 {E : VE} {d : Nat} {Q : QQ} {K : Int32 → Mem → LMem → Prop}  (hK : ∀ (v : Int32) (M : Mem) (L : LMem), K v M L → Q (some (.int v)) M L)  : ∀ (n_ : Nat) (v1 : Int32) (v2 : Int32) (M : Mem) (L : LMem), PL_X8_allCanBeParted_2 K n_ v1 v2 M L → Wp E d 57 2 [.ref 65, .int v1, .int v2, .null, .null] [] M L Q := by
  intro n_
  induction n_ with
  | zero => intro v1 v2 M L hP; exact False.elim hP
  | succ n_ ih =>
    intro v1 v2 M L hP
    unfold PL_X8_allCanBeParted_2 at hP
    refine wp_seg (pc' := 5) [.iload 2, .iconst 13] (by decide +kernel) (?_ : Wp E d 57 5 [.ref 65, .int v1, .int v2, .null, .null] [.int (Int32.ofInt 13), .int v2] M L Q)
    refine wp_icmpge (off := 82) 87 (by decide +kernel) (by decide) (fun c_1 => ?_) (fun c_1 => ?_)
    · have hP := hP.1 c_1
      refine wp_seg (pc' := 88) [.iconst 1] (by decide +kernel) (?_ : Wp E d 57 88 [.ref 65, .int v1, .int v2, .null, .null] [.int (Int32.ofInt 1)] M L Q)
      exact wp_zret (by decide +kernel) rfl (by decide) (hK _ _ _ hP)
    · have hP := hP.2 c_1
      refine wp_seg (pc' := 13) [.iload 1, .istore 3, .iconst 0, .istore 4] (by decide +kernel) (?_ : Wp E d 57 13 [.ref 65, .int v1, .int v2, .int v1, .int (Int32.ofInt 0)] [] M L Q)
      exact tl_X8_allCanBeParted_13 hK (fun v1 v2 M L hP => ih v1 v2 M L hP) 100000 v1 v2 v1 (Int32.ofInt 0) M L hP
def P_X8_allCanBeParted (x1 : Int32) (M : Mem) (L : LMem) (K : Int32 → Mem → LMem → Prop) : Prop := PL_X8_allCanBeParted_2 K 100000 x1 (Int32.ofInt 0) M L
theorem t_X8_allCanBeParted {E : VE} {d : Nat} {Q : QQ} {K : Int32 → Mem → LMem → Prop} {x1 : Int32} {M : Mem} {L : LMem} (hP : P_X8_allCanBeParted x1 M L K) (hK : ∀ (v : Int32) (M : Mem) (L : LMem), K v M L → Q (some (.int v)) M L) : Wp E d 57 0 [.ref 65, .int x1, .null, .null, .null] [] M L Q := by
  unfold P_X8_allCanBeParted at hP
  refine wp_seg (pc' := 2) [.iconst 0, .istore 2] (by decide +kernel) (?_ : Wp E d 57 2 [.ref 65, .int x1, .int (Int32.ofInt 0), .null, .null] [] M L Q)
  exact tl_X8_allCanBeParted_2 hK 100000 x1 (Int32.ofInt 0) M L hP

def PL_X8_layBounds_40 (K : Mem → LMem → Prop)  : Nat → Int32 → Int32 → Int32 → Mem → LMem → Prop
  | 0, _, _, _, _, _ => False
  | n_ + 1, v1, v2, v3, M, L => (((Int32.ofInt 13) < v3 → K M L) ∧ (¬ ((Int32.ofInt 13) < v3) → ((v3 ≤ (if ((v3 + (Int32.ofInt 1)) / (Int32.ofInt 2)) < (v3 - v2) then (v3 - v2) else ((v3 + (Int32.ofInt 1)) / (Int32.ofInt 2))) → (vp_in v3 14 ∧ PL_X8_layBounds_40 K n_ v1 v2 (v3 + Int32.ofInt 1) (mput M 68 v3.toNatClampNeg (Int32.ofInt 99)) L)) ∧ (¬ (v3 ≤ (if ((v3 + (Int32.ofInt 1)) / (Int32.ofInt 2)) < (v3 - v2) then (v3 - v2) else ((v3 + (Int32.ofInt 1)) / (Int32.ofInt 2)))) → (vp_in (if ((v3 + (Int32.ofInt 1)) / (Int32.ofInt 2)) < (v3 - v2) then (v3 - v2) else ((v3 + (Int32.ofInt 1)) / (Int32.ofInt 2))) 14 ∧ (vp_in v3 14 ∧ PL_X8_layBounds_40 K n_ v1 v2 (v3 + Int32.ofInt 1) (mput M 68 v3.toNatClampNeg ((Int32.ofInt 1) + (M 68 ((if ((v3 + (Int32.ofInt 1)) / (Int32.ofInt 2)) < (v3 - v2) then (v3 - v2) else ((v3 + (Int32.ofInt 1)) / (Int32.ofInt 2))).toNatClampNeg)))) L))))))
theorem tl_X8_layBounds_40 {E : VE} {d : Nat} {Q : QQ} {K : Mem → LMem → Prop}  (hK : ∀ (M : Mem) (L : LMem), K M L → Q none M L)  : ∀ (n_ : Nat) (v1 : Int32) (v2 : Int32) (v3 : Int32) (M : Mem) (L : LMem), PL_X8_layBounds_40 K n_ v1 v2 v3 M L → Wp E (d + 2) 58 40 [.ref 65, .int v1, .int v2, .int v3, .null] [] M L Q := by
  intro n_
  induction n_ with
  | zero => intro v1 v2 v3 M L hP; exact False.elim hP
  | succ n_ ih =>
    intro v1 v2 v3 M L hP
    unfold PL_X8_layBounds_40 at hP
    refine wp_seg (pc' := 43) [.iload 3, .iconst 13] (by decide +kernel) (?_ : Wp E (d + 2) 58 43 [.ref 65, .int v1, .int v2, .int v3, .null] [.int (Int32.ofInt 13), .int v3] M L Q)
    refine wp_icmpgt (off := 48) 91 (by decide +kernel) (by decide) (fun c_2 => ?_) (fun c_2 => ?_)
    · have hP := hP.1 c_2
      exact wp_vret (by decide +kernel) rfl (hK _ _ hP)
    · have hP := hP.2 c_2
      refine wp_seg (pc' := 51) [.iload 3, .iconst 1, .iadd, .iconst 2, .idiv] (by decide +kernel) (show ¬ (Int32.ofInt 2) = 0 ∧ Wp E (d + 2) 58 51 [.ref 65, .int v1, .int v2, .int v3, .null] [.int ((v3 + (Int32.ofInt 1)) / (Int32.ofInt 2))] M L Q from ⟨(by decide), ?_⟩)
      refine wp_seg (pc' := 57) [.iload 3, .iload 2, .isub, .invokestatic 0] (by decide +kernel) (?_ : Wp E (d + 2) 58 57 [.ref 65, .int v1, .int v2, .int v3, .null] [.int (if ((v3 + (Int32.ofInt 1)) / (Int32.ofInt 2)) < (v3 - v2) then (v3 - v2) else ((v3 + (Int32.ofInt 1)) / (Int32.ofInt 2)))] M L Q)
      refine wp_seg (pc' := 67) [.istore 4, .aload 0, .getfield 515, .iload 3, .iload 4, .iload 3] (by decide +kernel) (?_ : Wp E (d + 2) 58 67 [.ref 65, .int v1, .int v2, .int v3, .int (if ((v3 + (Int32.ofInt 1)) / (Int32.ofInt 2)) < (v3 - v2) then (v3 - v2) else ((v3 + (Int32.ofInt 1)) / (Int32.ofInt 2)))] [.int v3, .int (if ((v3 + (Int32.ofInt 1)) / (Int32.ofInt 2)) < (v3 - v2) then (v3 - v2) else ((v3 + (Int32.ofInt 1)) / (Int32.ofInt 2))), .int v3, .ref 68] M L Q)
      refine wp_icmpge (off := 15) 82 (by decide +kernel) (by decide) (fun c_3 => ?_) (fun c_3 => ?_)
      · have hP := hP.1 c_3
        obtain ⟨a_4, hP⟩ := hP
        refine wp_seg (pc' := 85) [.iconst 99, .iastore] (by decide +kernel) (show aok 68 0 v3 ∧ Wp E (d + 2) 58 85 [.ref 65, .int v1, .int v2, .int v3, .int (if ((v3 + (Int32.ofInt 1)) / (Int32.ofInt 2)) < (v3 - v2) then (v3 - v2) else ((v3 + (Int32.ofInt 1)) / (Int32.ofInt 2)))] [] (mput M 68 v3.toNatClampNeg (Int32.ofInt 99)) L Q from ⟨⟨rfl, a_4⟩, ?_⟩)
        refine wp_seg (pc' := 40) [.iinc 3 1, .goto 0] (by decide +kernel) (?_ : Wp E (d + 2) 58 40 [.ref 65, .int v1, .int v2, .int (v3 + Int32.ofInt 1), .int (if ((v3 + (Int32.ofInt 1)) / (Int32.ofInt 2)) < (v3 - v2) then (v3 - v2) else ((v3 + (Int32.ofInt 1)) / (Int32.ofInt 2)))] [] (mput M 68 v3.toNatClampNeg (Int32.ofInt 99)) L Q)
        refine wp_drop (lo := [.ref 65, .int v1, .int v2, .int (v3 + Int32.ofInt 1), .null]) ⟨Or.inr rfl, Or.inr rfl, Or.inr rfl, Or.inr rfl, Or.inl rfl, trivial⟩ ?_
        exact ih v1 v2 (v3 + Int32.ofInt 1) (mput M 68 v3.toNatClampNeg (Int32.ofInt 99)) L hP
      · have hP := hP.2 c_3
        obtain ⟨a_5, hP⟩ := hP
        refine wp_seg (pc' := 78) [.iconst 1, .aload 0, .getfield 515, .iload 4, .iaload] (by decide +kernel) (show aok 68 0 (if ((v3 + (Int32.ofInt 1)) / (Int32.ofInt 2)) < (v3 - v2) then (v3 - v2) else ((v3 + (Int32.ofInt 1)) / (Int32.ofInt 2))) ∧ Wp E (d + 2) 58 78 [.ref 65, .int v1, .int v2, .int v3, .int (if ((v3 + (Int32.ofInt 1)) / (Int32.ofInt 2)) < (v3 - v2) then (v3 - v2) else ((v3 + (Int32.ofInt 1)) / (Int32.ofInt 2)))] [.int (M 68 ((if ((v3 + (Int32.ofInt 1)) / (Int32.ofInt 2)) < (v3 - v2) then (v3 - v2) else ((v3 + (Int32.ofInt 1)) / (Int32.ofInt 2))).toNatClampNeg)), .int (Int32.ofInt 1), .int v3, .ref 68] M L Q from ⟨⟨rfl, a_5⟩, ?_⟩)
        obtain ⟨a_6, hP⟩ := hP
        refine wp_seg (pc' := 85) [.iadd, .goto 0, .iastore] (by decide +kernel) (show aok 68 0 v3 ∧ Wp E (d + 2) 58 85 [.ref 65, .int v1, .int v2, .int v3, .int (if ((v3 + (Int32.ofInt 1)) / (Int32.ofInt 2)) < (v3 - v2) then (v3 - v2) else ((v3 + (Int32.ofInt 1)) / (Int32.ofInt 2)))] [] (mput M 68 v3.toNatClampNeg ((Int32.ofInt 1) + (M 68 ((if ((v3 + (Int32.ofInt 1)) / (Int32.ofInt 2)) < (v3 - v2) then (v3 - v2) else ((v3 + (Int32.ofInt 1)) / (Int32.ofInt 2))).toNatClampNeg)))) L Q from ⟨⟨rfl, a_6⟩, ?_⟩)
        refine wp_seg (pc' := 40) [.iinc 3 1, .goto 0] (by decide +kernel) (?_ : Wp E (d + 2) 58 40 [.ref 65, .int v1, .int v2, .int (v3 + Int32.ofInt 1), .int (if ((v3 + (Int32.ofInt 1)) / (Int32.ofInt 2)) < (v3 - v2) then (v3 - v2) else ((v3 + (Int32.ofInt 1)) / (Int32.ofInt 2)))] [] (mput M 68 v3.toNatClampNeg ((Int32.ofInt 1) + (M 68 ((if ((v3 + (Int32.ofInt 1)) / (Int32.ofInt 2)) < (v3 - v2) then (v3 - v2) else ((v3 + (Int32.ofInt 1)) / (Int32.ofInt 2))).toNatClampNeg)))) L Q)
        refine wp_drop (lo := [.ref 65, .int v1, .int v2, .int (v3 + Int32.ofInt 1), .null]) ⟨Or.inr rfl, Or.inr rfl, Or.inr rfl, Or.inr rfl, Or.inl rfl, trivial⟩ ?_
        exact ih v1 v2 (v3 + Int32.ofInt 1) (mput M 68 v3.toNatClampNeg ((Int32.ofInt 1) + (M 68 ((if ((v3 + (Int32.ofInt 1)) / (Int32.ofInt 2)) < (v3 - v2) then (v3 - v2) else ((v3 + (Int32.ofInt 1)) / (Int32.ofInt 2))).toNatClampNeg)))) L hP
def PL_X8_layBounds_4 (K : Mem → LMem → Prop)  : Nat → Int32 → Int32 → Int32 → Mem → LMem → Prop
  | 0, _, _, _, _, _ => False
  | n_ + 1, v1, v2, v3, M, L => (((M 65 2) ≤ v3 → PL_X8_layBounds_40 K 100000 v1 v2 (Int32.ofInt 2) M L) ∧ (¬ ((M 65 2) ≤ v3) → (vp_in v3 64 ∧ PL_X8_layBounds_4 K n_ v1 (if v2 < ((f_J6_bitCount_0f7a4 M v1) - (f_X8_largerPart M v1 (M 67 v3.toNatClampNeg))) then ((f_J6_bitCount_0f7a4 M v1) - (f_X8_largerPart M v1 (M 67 v3.toNatClampNeg))) else v2) (v3 + Int32.ofInt 1) M L)))
theorem tl_X8_layBounds_4 {E : VE} {d : Nat} {Q : QQ} {K : Mem → LMem → Prop}  (hK : ∀ (M : Mem) (L : LMem), K M L → Q none M L)  : ∀ (n_ : Nat) (v1 : Int32) (v2 : Int32) (v3 : Int32) (M : Mem) (L : LMem), PL_X8_layBounds_4 K n_ v1 v2 v3 M L → Wp E (d + 2) 58 4 [.ref 65, .int v1, .int v2, .int v3, .null] [] M L Q := by
  intro n_
  induction n_ with
  | zero => intro v1 v2 v3 M L hP; exact False.elim hP
  | succ n_ ih =>
    intro v1 v2 v3 M L hP
    unfold PL_X8_layBounds_4 at hP
    refine wp_seg (pc' := 9) [.iload 3, .aload 0, .getfield 514] (by decide +kernel) (?_ : Wp E (d + 2) 58 9 [.ref 65, .int v1, .int v2, .int v3, .null] [.int (M 65 2), .int v3] M L Q)
    refine wp_icmpge (off := 29) 38 (by decide +kernel) (by decide) (fun c_1 => ?_) (fun c_1 => ?_)
    · have hP := hP.1 c_1
      refine wp_seg (pc' := 40) [.iconst 2, .istore 3] (by decide +kernel) (?_ : Wp E (d + 2) 58 40 [.ref 65, .int v1, .int v2, .int (Int32.ofInt 2), .null] [] M L Q)
      exact tl_X8_layBounds_40 hK 100000 v1 v2 (Int32.ofInt 2) M L hP
    · have hP := hP.2 c_1
      refine wp_seg (pc' := 14) [.iload 2, .iload 1] (by decide +kernel) (?_ : Wp E (d + 2) 58 14 [.ref 65, .int v1, .int v2, .int v3, .null] [.int v1, .int v2] M L Q)
      refine wp_callS 87 [.int v1] (i := 45) (by decide +kernel) (by decide +kernel) (by decide +kernel) rfl rfl rfl (rest := [.int v2]) rfl rfl ?_
      refine s_J6_bitCount_0f7a4 M v1  ?_
      show Wp E (d + 2) 58 17 [.ref 65, .int v1, .int v2, .int v3, .null] [.int (f_J6_bitCount_0f7a4 M v1), .int v2] M L Q
      obtain ⟨a_7, hP⟩ := hP
      refine wp_seg (pc' := 24) [.iload 1, .aload 0, .getfield 513, .iload 3, .iaload] (by decide +kernel) (show aok 67 0 v3 ∧ Wp E (d + 2) 58 24 [.ref 65, .int v1, .int v2, .int v3, .null] [.int (M 67 v3.toNatClampNeg), .int v1, .int (f_J6_bitCount_0f7a4 M v1), .int v2] M L Q from ⟨⟨rfl, a_7⟩, ?_⟩)
      refine wp_callS 53 [.int v1, .int (M 67 v3.toNatClampNeg)] (i := 51) (by decide +kernel) (by decide +kernel) (by decide +kernel) rfl rfl rfl (rest := [.int (f_J6_bitCount_0f7a4 M v1), .int v2]) rfl rfl ?_
      refine s_X8_largerPart M v1 (M 67 v3.toNatClampNeg)  ?_
      show Wp E (d + 2) 58 27 [.ref 65, .int v1, .int v2, .int v3, .null] [.int (f_X8_largerPart M v1 (M 67 v3.toNatClampNeg)), .int (f_J6_bitCount_0f7a4 M v1), .int v2] M L Q
      refine wp_seg (pc' := 31) [.isub, .invokestatic 0] (by decide +kernel) (?_ : Wp E (d + 2) 58 31 [.ref 65, .int v1, .int v2, .int v3, .null] [.int (if v2 < ((f_J6_bitCount_0f7a4 M v1) - (f_X8_largerPart M v1 (M 67 v3.toNatClampNeg))) then ((f_J6_bitCount_0f7a4 M v1) - (f_X8_largerPart M v1 (M 67 v3.toNatClampNeg))) else v2)] M L Q)
      refine wp_seg (pc' := 4) [.istore 2, .iinc 3 1, .goto 0] (by decide +kernel) (?_ : Wp E (d + 2) 58 4 [.ref 65, .int v1, .int (if v2 < ((f_J6_bitCount_0f7a4 M v1) - (f_X8_largerPart M v1 (M 67 v3.toNatClampNeg))) then ((f_J6_bitCount_0f7a4 M v1) - (f_X8_largerPart M v1 (M 67 v3.toNatClampNeg))) else v2), .int (v3 + Int32.ofInt 1), .null] [] M L Q)
      exact ih v1 (if v2 < ((f_J6_bitCount_0f7a4 M v1) - (f_X8_largerPart M v1 (M 67 v3.toNatClampNeg))) then ((f_J6_bitCount_0f7a4 M v1) - (f_X8_largerPart M v1 (M 67 v3.toNatClampNeg))) else v2) (v3 + Int32.ofInt 1) M L hP
def P_X8_layBounds (x1 : Int32) (M : Mem) (L : LMem) (K : Mem → LMem → Prop) : Prop := PL_X8_layBounds_4 K 100000 x1 (Int32.ofInt 0) (Int32.ofInt 0) M L
theorem t_X8_layBounds {E : VE} {d : Nat} {Q : QQ} {K : Mem → LMem → Prop} {x1 : Int32} {M : Mem} {L : LMem} (hP : P_X8_layBounds x1 M L K) (hK : ∀ (M : Mem) (L : LMem), K M L → Q none M L) : Wp E (d + 2) 58 0 [.ref 65, .int x1, .null, .null, .null] [] M L Q := by
  unfold P_X8_layBounds at hP
  refine wp_seg (pc' := 4) [.iconst 0, .istore 2, .iconst 0, .istore 3] (by decide +kernel) (?_ : Wp E (d + 2) 58 4 [.ref 65, .int x1, .int (Int32.ofInt 0), .int (Int32.ofInt 0), .null] [] M L Q)
  exact tl_X8_layBounds_4 hK 100000 x1 (Int32.ofInt 0) (Int32.ofInt 0) M L hP

def PL_J7_fill_031fb_5 (K : Mem → LMem → Prop)  : Nat → Int32 → Int32 → Int32 → Mem → LMem → Prop
  | 0, _, _, _, _, _ => False
  | n_ + 1, v1, v2, v3, M, L => ((v3 ≤ v2 → K M L) ∧ (¬ (v3 ≤ v2) → (vp_in v2 8192 ∧ PL_J7_fill_031fb_5 K n_ v1 (v2 + Int32.ofInt 1) v3 (mput M 69 v2.toNatClampNeg (vp_nar .byte v1)) L)))
theorem tl_J7_fill_031fb_5 {E : VE} {d : Nat} {Q : QQ} {K : Mem → LMem → Prop}  (hK : ∀ (M : Mem) (L : LMem), K M L → Q none M L)  : ∀ (n_ : Nat) (v1 : Int32) (v2 : Int32) (v3 : Int32) (M : Mem) (L : LMem), PL_J7_fill_031fb_5 K n_ v1 v2 v3 M L → Wp E d 88 5 [.ref 69, .int v1, .int v2, .int v3] [] M L Q := by
  intro n_
  induction n_ with
  | zero => intro v1 v2 v3 M L hP; exact False.elim hP
  | succ n_ ih =>
    intro v1 v2 v3 M L hP
    unfold PL_J7_fill_031fb_5 at hP
    refine wp_seg (pc' := 7) [.iload 2, .iload 3] (by decide +kernel) (?_ : Wp E d 88 7 [.ref 69, .int v1, .int v2, .int v3] [.int v3, .int v2] M L Q)
    refine wp_icmpge (off := 13) 20 (by decide +kernel) (by decide) (fun c_1 => ?_) (fun c_1 => ?_)
    · have hP := hP.1 c_1
      exact wp_vret (by decide +kernel) rfl (hK _ _ hP)
    · have hP := hP.2 c_1
      obtain ⟨a_2, hP⟩ := hP
      refine wp_seg (pc' := 14) [.aload 0, .iload 2, .iload 1, .bastore] (by decide +kernel) (Or.inr (show aok 69 3 v2 ∧ Wp E d 88 14 [.ref 69, .int v1, .int v2, .int v3] [] (mput M 69 v2.toNatClampNeg (vp_nar .byte v1)) L Q from ⟨⟨rfl, a_2⟩, ?_⟩))
      refine wp_seg (pc' := 5) [.iinc 2 1, .goto 0] (by decide +kernel) (?_ : Wp E d 88 5 [.ref 69, .int v1, .int (v2 + Int32.ofInt 1), .int v3] [] (mput M 69 v2.toNatClampNeg (vp_nar .byte v1)) L Q)
      exact ih v1 (v2 + Int32.ofInt 1) v3 (mput M 69 v2.toNatClampNeg (vp_nar .byte v1)) L hP
def P_J7_fill_031fb (x2 : Int32) (M : Mem) (L : LMem) (K : Mem → LMem → Prop) : Prop := PL_J7_fill_031fb_5 K 100000 x2 (Int32.ofInt 0) (Int32.ofNat 8192) M L
theorem t_J7_fill_031fb {E : VE} {d : Nat} {Q : QQ} {K : Mem → LMem → Prop} {x2 : Int32} {M : Mem} {L : LMem} (hP : P_J7_fill_031fb x2 M L K) (hK : ∀ (M : Mem) (L : LMem), K M L → Q none M L) : Wp E d 88 0 [.ref 69, .int x2, .null, .null] [] M L Q := by
  unfold P_J7_fill_031fb at hP
  refine wp_seg (pc' := 5) [.iconst 0, .istore 2, .aload 0, .arraylength, .istore 3] (by decide +kernel) (?_ : Wp E d 88 5 [.ref 69, .int x2, .int (Int32.ofInt 0), .int (Int32.ofNat 8192)] [] M L Q)
  exact tl_J7_fill_031fb_5 hK 100000 x2 (Int32.ofInt 0) (Int32.ofNat 8192) M L hP

def PL_X1_goBy_70_10 (K : Mem → LMem → Prop) (C_2 : Int32 → Int32 → Mem → LMem → Prop) : Nat → Int32 → Int32 → Int32 → Mem → LMem → Prop
  | 0, _, _, _, _, _ => False
  | n_ + 1, v1, v2, v3, M, L => (((Int32.ofInt 8) ≤ v3 → C_2 v1 (v2 + Int32.ofInt 1) M L) ∧ (¬ ((Int32.ofInt 8) ≤ v3) → (vp_in (((Int32.ofInt 8) * v2) + v1) 64 ∧ (vp_in (((Int32.ofInt 8) * v1) + v3) 64 ∧ (vp_in (((Int32.ofInt 8) * v2) + v3) 64 ∧ PL_X1_goBy_70_10 K C_2 n_ v1 v2 (v3 + Int32.ofInt 1) (mput M 71 ((((Int32.ofInt 8) * v2) + v3).toNatClampNeg) (if ((M 71 ((((Int32.ofInt 8) * v2) + v1).toNatClampNeg)) + (M 71 ((((Int32.ofInt 8) * v1) + v3).toNatClampNeg))) < (M 71 ((((Int32.ofInt 8) * v2) + v3).toNatClampNeg)) then ((M 71 ((((Int32.ofInt 8) * v2) + v1).toNatClampNeg)) + (M 71 ((((Int32.ofInt 8) * v1) + v3).toNatClampNeg))) else (M 71 ((((Int32.ofInt 8) * v2) + v3).toNatClampNeg)))) L)))))
theorem tl_X1_goBy_70_10 {E : VE} {d : Nat} {Q : QQ} {K : Mem → LMem → Prop} {C_2 : Int32 → Int32 → Mem → LMem → Prop} (hK : ∀ (M : Mem) (L : LMem), K M L → Q none M L) (hC_2 : ∀ (v1 : Int32) (v2 : Int32) (M : Mem) (L : LMem), C_2 v1 v2 M L → Wp E d 7 2 [.ref 70, .int v1, .int v2, .null, .null] [] M L Q) : ∀ (n_ : Nat) (v1 : Int32) (v2 : Int32) (v3 : Int32) (M : Mem) (L : LMem), PL_X1_goBy_70_10 K C_2 n_ v1 v2 v3 M L → Wp E d 7 10 [.ref 70, .int v1, .int v2, .int v3, .null] [] M L Q := by
  intro n_
  induction n_ with
  | zero => intro v1 v2 v3 M L hP; exact False.elim hP
  | succ n_ ih =>
    intro v1 v2 v3 M L hP
    unfold PL_X1_goBy_70_10 at hP
    refine wp_seg (pc' := 13) [.iload 3, .iconst 8] (by decide +kernel) (?_ : Wp E d 7 13 [.ref 70, .int v1, .int v2, .int v3, .null] [.int (Int32.ofInt 8), .int v3] M L Q)
    refine wp_icmpge (off := 61) 74 (by decide +kernel) (by decide) (fun c_2 => ?_) (fun c_2 => ?_)
    · have hP := hP.1 c_2
      refine wp_seg (pc' := 2) [.iinc 2 1, .goto 0] (by decide +kernel) (?_ : Wp E d 7 2 [.ref 70, .int v1, .int (v2 + Int32.ofInt 1), .int v3, .null] [] M L Q)
      refine wp_drop (lo := [.ref 70, .int v1, .int (v2 + Int32.ofInt 1), .null, .null]) ⟨Or.inr rfl, Or.inr rfl, Or.inr rfl, Or.inl rfl, Or.inl rfl, trivial⟩ ?_
      exact hC_2 v1 (v2 + Int32.ofInt 1) M L hP
    · have hP := hP.2 c_2
      obtain ⟨a_3, hP⟩ := hP
      refine wp_seg (pc' := 27) [.aload 0, .getfield 64, .iconst 8, .iload 2, .imul, .iload 1, .iadd, .iaload] (by decide +kernel) (show aok 71 0 (((Int32.ofInt 8) * v2) + v1) ∧ Wp E d 7 27 [.ref 70, .int v1, .int v2, .int v3, .null] [.int (M 71 ((((Int32.ofInt 8) * v2) + v1).toNatClampNeg))] M L Q from ⟨⟨rfl, a_3⟩, ?_⟩)
      obtain ⟨a_4, hP⟩ := hP
      refine wp_seg (pc' := 38) [.aload 0, .getfield 64, .iconst 8, .iload 1, .imul, .iload 3, .iadd, .iaload] (by decide +kernel) (show aok 71 0 (((Int32.ofInt 8) * v1) + v3) ∧ Wp E d 7 38 [.ref 70, .int v1, .int v2, .int v3, .null] [.int (M 71 ((((Int32.ofInt 8) * v1) + v3).toNatClampNeg)), .int (M 71 ((((Int32.ofInt 8) * v2) + v1).toNatClampNeg))] M L Q from ⟨⟨rfl, a_4⟩, ?_⟩)
      obtain ⟨a_5, hP⟩ := hP
      refine wp_seg (pc' := 62) [.iadd, .istore 4, .aload 0, .getfield 64, .iconst 8, .iload 2, .imul, .iload 3, .iadd, .aload 0, .getfield 64, .iconst 8, .iload 2, .imul, .iload 3, .iadd, .iaload] (by decide +kernel) (show aok 71 0 (((Int32.ofInt 8) * v2) + v3) ∧ Wp E d 7 62 [.ref 70, .int v1, .int v2, .int v3, .int ((M 71 ((((Int32.ofInt 8) * v2) + v1).toNatClampNeg)) + (M 71 ((((Int32.ofInt 8) * v1) + v3).toNatClampNeg)))] [.int (M 71 ((((Int32.ofInt 8) * v2) + v3).toNatClampNeg)), .int (((Int32.ofInt 8) * v2) + v3), .ref 71] M L Q from ⟨⟨rfl, a_5⟩, ?_⟩)
      refine wp_seg (pc' := 67) [.iload 4, .invokestatic 1] (by decide +kernel) (?_ : Wp E d 7 67 [.ref 70, .int v1, .int v2, .int v3, .int ((M 71 ((((Int32.ofInt 8) * v2) + v1).toNatClampNeg)) + (M 71 ((((Int32.ofInt 8) * v1) + v3).toNatClampNeg)))] [.int (if ((M 71 ((((Int32.ofInt 8) * v2) + v1).toNatClampNeg)) + (M 71 ((((Int32.ofInt 8) * v1) + v3).toNatClampNeg))) < (M 71 ((((Int32.ofInt 8) * v2) + v3).toNatClampNeg)) then ((M 71 ((((Int32.ofInt 8) * v2) + v1).toNatClampNeg)) + (M 71 ((((Int32.ofInt 8) * v1) + v3).toNatClampNeg))) else (M 71 ((((Int32.ofInt 8) * v2) + v3).toNatClampNeg))), .int (((Int32.ofInt 8) * v2) + v3), .ref 71] M L Q)
      refine wp_seg (pc' := 68) [.iastore] (by decide +kernel) (show aok 71 0 (((Int32.ofInt 8) * v2) + v3) ∧ Wp E d 7 68 [.ref 70, .int v1, .int v2, .int v3, .int ((M 71 ((((Int32.ofInt 8) * v2) + v1).toNatClampNeg)) + (M 71 ((((Int32.ofInt 8) * v1) + v3).toNatClampNeg)))] [] (mput M 71 ((((Int32.ofInt 8) * v2) + v3).toNatClampNeg) (if ((M 71 ((((Int32.ofInt 8) * v2) + v1).toNatClampNeg)) + (M 71 ((((Int32.ofInt 8) * v1) + v3).toNatClampNeg))) < (M 71 ((((Int32.ofInt 8) * v2) + v3).toNatClampNeg)) then ((M 71 ((((Int32.ofInt 8) * v2) + v1).toNatClampNeg)) + (M 71 ((((Int32.ofInt 8) * v1) + v3).toNatClampNeg))) else (M 71 ((((Int32.ofInt 8) * v2) + v3).toNatClampNeg)))) L Q from ⟨⟨rfl, a_5⟩, ?_⟩)
      refine wp_seg (pc' := 10) [.iinc 3 1, .goto 0] (by decide +kernel) (?_ : Wp E d 7 10 [.ref 70, .int v1, .int v2, .int (v3 + Int32.ofInt 1), .int ((M 71 ((((Int32.ofInt 8) * v2) + v1).toNatClampNeg)) + (M 71 ((((Int32.ofInt 8) * v1) + v3).toNatClampNeg)))] [] (mput M 71 ((((Int32.ofInt 8) * v2) + v3).toNatClampNeg) (if ((M 71 ((((Int32.ofInt 8) * v2) + v1).toNatClampNeg)) + (M 71 ((((Int32.ofInt 8) * v1) + v3).toNatClampNeg))) < (M 71 ((((Int32.ofInt 8) * v2) + v3).toNatClampNeg)) then ((M 71 ((((Int32.ofInt 8) * v2) + v1).toNatClampNeg)) + (M 71 ((((Int32.ofInt 8) * v1) + v3).toNatClampNeg))) else (M 71 ((((Int32.ofInt 8) * v2) + v3).toNatClampNeg)))) L Q)
      refine wp_drop (lo := [.ref 70, .int v1, .int v2, .int (v3 + Int32.ofInt 1), .null]) ⟨Or.inr rfl, Or.inr rfl, Or.inr rfl, Or.inr rfl, Or.inl rfl, trivial⟩ ?_
      exact ih v1 v2 (v3 + Int32.ofInt 1) (mput M 71 ((((Int32.ofInt 8) * v2) + v3).toNatClampNeg) (if ((M 71 ((((Int32.ofInt 8) * v2) + v1).toNatClampNeg)) + (M 71 ((((Int32.ofInt 8) * v1) + v3).toNatClampNeg))) < (M 71 ((((Int32.ofInt 8) * v2) + v3).toNatClampNeg)) then ((M 71 ((((Int32.ofInt 8) * v2) + v1).toNatClampNeg)) + (M 71 ((((Int32.ofInt 8) * v1) + v3).toNatClampNeg))) else (M 71 ((((Int32.ofInt 8) * v2) + v3).toNatClampNeg)))) L hP
def PL_X1_goBy_70_2 (K : Mem → LMem → Prop)  : Nat → Int32 → Int32 → Mem → LMem → Prop
  | 0, _, _, _, _ => False
  | n_ + 1, v1, v2, M, L => (((Int32.ofInt 8) ≤ v2 → K M L) ∧ (¬ ((Int32.ofInt 8) ≤ v2) → PL_X1_goBy_70_10 K (PL_X1_goBy_70_2 K n_) 100000 v1 v2 (Int32.ofInt 0) M L))
theorem tl_X1_goBy_70_2 {E : VE} {d : Nat} {Q : QQ} {K : Mem → LMem → Prop}  (hK : ∀ (M : Mem) (L : LMem), K M L → Q none M L)  : ∀ (n_ : Nat) (v1 : Int32) (v2 : Int32) (M : Mem) (L : LMem), PL_X1_goBy_70_2 K n_ v1 v2 M L → Wp E d 7 2 [.ref 70, .int v1, .int v2, .null, .null] [] M L Q := by
  intro n_
  induction n_ with
  | zero => intro v1 v2 M L hP; exact False.elim hP
  | succ n_ ih =>
    intro v1 v2 M L hP
    unfold PL_X1_goBy_70_2 at hP
    refine wp_seg (pc' := 5) [.iload 2, .iconst 8] (by decide +kernel) (?_ : Wp E d 7 5 [.ref 70, .int v1, .int v2, .null, .null] [.int (Int32.ofInt 8), .int v2] M L Q)
    refine wp_icmpge (off := 75) 80 (by decide +kernel) (by decide) (fun c_1 => ?_) (fun c_1 => ?_)
    · have hP := hP.1 c_1
      exact wp_vret (by decide +kernel) rfl (hK _ _ hP)
    · have hP := hP.2 c_1
      refine wp_seg (pc' := 10) [.iconst 0, .istore 3] (by decide +kernel) (?_ : Wp E d 7 10 [.ref 70, .int v1, .int v2, .int (Int32.ofInt 0), .null] [] M L Q)
      exact tl_X1_goBy_70_10 hK (fun v1 v2 M L hP => ih v1 v2 M L hP) 100000 v1 v2 (Int32.ofInt 0) M L hP
def P_X1_goBy_70 (x1 : Int32) (M : Mem) (L : LMem) (K : Mem → LMem → Prop) : Prop := PL_X1_goBy_70_2 K 100000 x1 (Int32.ofInt 0) M L
theorem t_X1_goBy_70 {E : VE} {d : Nat} {Q : QQ} {K : Mem → LMem → Prop} {x1 : Int32} {M : Mem} {L : LMem} (hP : P_X1_goBy_70 x1 M L K) (hK : ∀ (M : Mem) (L : LMem), K M L → Q none M L) : Wp E d 7 0 [.ref 70, .int x1, .null, .null, .null] [] M L Q := by
  unfold P_X1_goBy_70 at hP
  refine wp_seg (pc' := 2) [.iconst 0, .istore 2] (by decide +kernel) (?_ : Wp E d 7 2 [.ref 70, .int x1, .int (Int32.ofInt 0), .null, .null] [] M L Q)
  exact tl_X1_goBy_70_2 hK 100000 x1 (Int32.ofInt 0) M L hP

def PL_X1_measure_70_93 (K : Mem → LMem → Prop)  : Nat → Int32 → Int32 → Mem → LMem → Prop
  | 0, _, _, _, _ => False
  | n_ + 1, v2, v3, M, L => (((Int32.ofNat 64) ≤ v3 → K M L) ∧ (¬ ((Int32.ofNat 64) ≤ v3) → (vp_in v3 64 ∧ PL_X1_measure_70_93 K n_ v2 (v3 + Int32.ofInt 1) (mput M 71 v3.toNatClampNeg (f_X1_carried M (M 71 v3.toNatClampNeg) (M 3 1))) L)))
theorem tl_X1_measure_70_93 {E : VE} {d : Nat} {Q : QQ} {K : Mem → LMem → Prop}  (hK : ∀ (M : Mem) (L : LMem), K M L → Q none M L)  : ∀ (n_ : Nat) (v2 : Int32) (v3 : Int32) (M : Mem) (L : LMem), PL_X1_measure_70_93 K n_ v2 v3 M L → Wp E (d + 1) 5 93 [.ref 70, .ref 3, .int v2, .int v3] [] M L Q := by
  intro n_
  induction n_ with
  | zero => intro v2 v3 M L hP; exact False.elim hP
  | succ n_ ih =>
    intro v2 v3 M L hP
    unfold PL_X1_measure_70_93 at hP
    refine wp_seg (pc' := 99) [.iload 3, .aload 0, .getfield 64, .arraylength] (by decide +kernel) (?_ : Wp E (d + 1) 5 99 [.ref 70, .ref 3, .int v2, .int v3] [.int (Int32.ofNat 64), .int v3] M L Q)
    refine wp_icmpge (off := 28) 127 (by decide +kernel) (by decide) (fun c_4 => ?_) (fun c_4 => ?_)
    · have hP := hP.1 c_4
      exact wp_vret (by decide +kernel) rfl (hK _ _ hP)
    · have hP := hP.2 c_4
      obtain ⟨a_5, hP⟩ := hP
      refine wp_seg (pc' := 113) [.aload 0, .getfield 64, .iload 3, .aload 0, .getfield 64, .iload 3, .iaload] (by decide +kernel) (show aok 71 0 v3 ∧ Wp E (d + 1) 5 113 [.ref 70, .ref 3, .int v2, .int v3] [.int (M 71 v3.toNatClampNeg), .int v3, .ref 71] M L Q from ⟨⟨rfl, a_5⟩, ?_⟩)
      refine wp_seg (pc' := 117) [.aload 1, .getfield 193] (by decide +kernel) (?_ : Wp E (d + 1) 5 117 [.ref 70, .ref 3, .int v2, .int v3] [.int (M 3 1), .int (M 71 v3.toNatClampNeg), .int v3, .ref 71] M L Q)
      refine wp_callS 8 [.int (M 71 v3.toNatClampNeg), .int (M 3 1)] (i := 38) (by decide +kernel) (by decide +kernel) (by decide +kernel) rfl rfl rfl (rest := [.int v3, .ref 71]) rfl rfl ?_
      refine s_X1_carried M (M 71 v3.toNatClampNeg) (M 3 1)  ?_
      show Wp E (d + 1) 5 120 [.ref 70, .ref 3, .int v2, .int v3] [.int (f_X1_carried M (M 71 v3.toNatClampNeg) (M 3 1)), .int v3, .ref 71] M L Q
      refine wp_seg (pc' := 121) [.iastore] (by decide +kernel) (show aok 71 0 v3 ∧ Wp E (d + 1) 5 121 [.ref 70, .ref 3, .int v2, .int v3] [] (mput M 71 v3.toNatClampNeg (f_X1_carried M (M 71 v3.toNatClampNeg) (M 3 1))) L Q from ⟨⟨rfl, a_5⟩, ?_⟩)
      refine wp_seg (pc' := 93) [.iinc 3 1, .goto 0] (by decide +kernel) (?_ : Wp E (d + 1) 5 93 [.ref 70, .ref 3, .int v2, .int (v3 + Int32.ofInt 1)] [] (mput M 71 v3.toNatClampNeg (f_X1_carried M (M 71 v3.toNatClampNeg) (M 3 1))) L Q)
      exact ih v2 (v3 + Int32.ofInt 1) (mput M 71 v3.toNatClampNeg (f_X1_carried M (M 71 v3.toNatClampNeg) (M 3 1))) L hP
def PL_X1_measure_70_74 (K : Mem → LMem → Prop)  : Nat → Int32 → Int32 → Mem → LMem → Prop
  | 0, _, _, _, _ => False
  | n_ + 1, v2, v3, M, L => (((Int32.ofInt 8) ≤ v3 → PL_X1_measure_70_93 K 100000 v2 (Int32.ofInt 0) M L) ∧ (¬ ((Int32.ofInt 8) ≤ v3) → P_X1_goBy_70 v3 M L (fun M_6 L_7 => PL_X1_measure_70_74 K n_ v2 (v3 + Int32.ofInt 1) M_6 L_7)))
theorem tl_X1_measure_70_74 {E : VE} {d : Nat} {Q : QQ} {K : Mem → LMem → Prop}  (hK : ∀ (M : Mem) (L : LMem), K M L → Q none M L)  : ∀ (n_ : Nat) (v2 : Int32) (v3 : Int32) (M : Mem) (L : LMem), PL_X1_measure_70_74 K n_ v2 v3 M L → Wp E (d + 1) 5 74 [.ref 70, .ref 3, .int v2, .int v3] [] M L Q := by
  intro n_
  induction n_ with
  | zero => intro v2 v3 M L hP; exact False.elim hP
  | succ n_ ih =>
    intro v2 v3 M L hP
    unfold PL_X1_measure_70_74 at hP
    refine wp_seg (pc' := 77) [.iload 3, .iconst 8] (by decide +kernel) (?_ : Wp E (d + 1) 5 77 [.ref 70, .ref 3, .int v2, .int v3] [.int (Int32.ofInt 8), .int v3] M L Q)
    refine wp_icmpge (off := 14) 91 (by decide +kernel) (by decide) (fun c_3 => ?_) (fun c_3 => ?_)
    · have hP := hP.1 c_3
      refine wp_seg (pc' := 93) [.iconst 0, .istore 3] (by decide +kernel) (?_ : Wp E (d + 1) 5 93 [.ref 70, .ref 3, .int v2, .int (Int32.ofInt 0)] [] M L Q)
      exact tl_X1_measure_70_93 hK 100000 v2 (Int32.ofInt 0) M L hP
    · have hP := hP.2 c_3
      refine wp_seg (pc' := 82) [.aload 0, .iload 3] (by decide +kernel) (?_ : Wp E (d + 1) 5 82 [.ref 70, .ref 3, .int v2, .int v3] [.int v3, .ref 70] M L Q)
      refine wp_callV 7 70 [.int v3] (i := 31) (by decide +kernel) (by decide +kernel) (by decide +kernel) (by decide +kernel) rfl rfl rfl (rest := []) rfl rfl ?_
      refine t_X1_goBy_70 hP (fun M_6 L_7 hP => ?_)
      show Wp E (d + 1) 5 85 [.ref 70, .ref 3, .int v2, .int v3] [] M_6 L_7 Q
      refine wp_seg (pc' := 74) [.iinc 3 1, .goto 0] (by decide +kernel) (?_ : Wp E (d + 1) 5 74 [.ref 70, .ref 3, .int v2, .int (v3 + Int32.ofInt 1)] [] M_6 L_7 Q)
      exact ih v2 (v3 + Int32.ofInt 1) M_6 L_7 hP
def PL_X1_measure_70_38 (K : Mem → LMem → Prop)  : Nat → Int32 → Int32 → Mem → LMem → Prop
  | 0, _, _, _, _ => False
  | n_ + 1, v2, v3, M, L => (((M 4 4) ≤ v3 → PL_X1_measure_70_74 K 100000 v2 (Int32.ofInt 0) M L) ∧ (¬ ((M 4 4) ≤ v3) → ((((v2 >>> (v3 &&& 31)) &&& (Int32.ofInt 1)) = 0 → ((vp_in v3 12) ∧ ((¬ ((M 7 v3.toNatClampNeg) = (Int32.ofInt 120)) → vp_in (((Int32.ofInt 8) * (M 5 v3.toNatClampNeg)) + (M 6 v3.toNatClampNeg)) 64) ∧ ((¬ ((M 7 v3.toNatClampNeg) = (Int32.ofInt 120)) → ¬ ((M 7 v3.toNatClampNeg) = (Int32.ofInt 62)) → vp_in (((Int32.ofInt 8) * (M 6 v3.toNatClampNeg)) + (M 5 v3.toNatClampNeg)) 64) ∧ PL_X1_measure_70_38 K n_ v2 (v3 + Int32.ofInt 1) (g_X1_layTube_70 M v3) L)))) ∧ (¬ (((v2 >>> (v3 &&& 31)) &&& (Int32.ofInt 1)) = 0) → PL_X1_measure_70_38 K n_ v2 (v3 + Int32.ofInt 1) M L))))
theorem tl_X1_measure_70_38 {E : VE} {d : Nat} {Q : QQ} {K : Mem → LMem → Prop}  (hK : ∀ (M : Mem) (L : LMem), K M L → Q none M L)  : ∀ (n_ : Nat) (v2 : Int32) (v3 : Int32) (M : Mem) (L : LMem), PL_X1_measure_70_38 K n_ v2 v3 M L → Wp E (d + 1) 5 38 [.ref 70, .ref 3, .int v2, .int v3] [] M L Q := by
  intro n_
  induction n_ with
  | zero => intro v2 v3 M L hP; exact False.elim hP
  | succ n_ ih =>
    intro v2 v3 M L hP
    unfold PL_X1_measure_70_38 at hP
    refine wp_seg (pc' := 46) [.iload 3, .aload 1, .getfield 192, .getfield 132] (by decide +kernel) (?_ : Wp E (d + 1) 5 46 [.ref 70, .ref 3, .int v2, .int v3] [.int (M 4 4), .int v3] M L Q)
    refine wp_icmpge (off := 26) 72 (by decide +kernel) (by decide) (fun c_2 => ?_) (fun c_2 => ?_)
    · have hP := hP.1 c_2
      refine wp_seg (pc' := 74) [.iconst 0, .istore 3] (by decide +kernel) (?_ : Wp E (d + 1) 5 74 [.ref 70, .ref 3, .int v2, .int (Int32.ofInt 0)] [] M L Q)
      exact tl_X1_measure_70_74 hK 100000 v2 (Int32.ofInt 0) M L hP
    · have hP := hP.2 c_2
      refine wp_seg (pc' := 54) [.iload 2, .iload 3, .ishr, .iconst 1, .iand] (by decide +kernel) (?_ : Wp E (d + 1) 5 54 [.ref 70, .ref 3, .int v2, .int v3] [.int ((v2 >>> (v3 &&& 31)) &&& (Int32.ofInt 1))] M L Q)
      refine wp_ifne (off := 12) 66 (by decide +kernel) (by decide) (fun c_8 => ?_) (fun c_8 => ?_)
      · have hP := hP.2 c_8
        refine wp_seg (pc' := 38) [.iinc 3 1, .goto 0] (by decide +kernel) (?_ : Wp E (d + 1) 5 38 [.ref 70, .ref 3, .int v2, .int (v3 + Int32.ofInt 1)] [] M L Q)
        exact ih v2 (v3 + Int32.ofInt 1) M L hP
      · have hP := hP.1 c_8
        refine wp_seg (pc' := 63) [.aload 0, .aload 1, .getfield 192, .iload 3] (by decide +kernel) (?_ : Wp E (d + 1) 5 63 [.ref 70, .ref 3, .int v2, .int v3] [.int v3, .ref 4, .ref 70] M L Q)
        refine wp_callV 6 70 [.ref 4, .int v3] (i := 27) (by decide +kernel) (by decide +kernel) (by decide +kernel) (by decide +kernel) rfl rfl rfl (rest := []) rfl rfl ?_
        obtain ⟨a_9, hP⟩ := hP
        obtain ⟨a_10, hP⟩ := hP
        obtain ⟨a_11, hP⟩ := hP
        refine s_X1_layTube_70 M v3 a_9 a_10 a_11 ?_
        show Wp E (d + 1) 5 66 [.ref 70, .ref 3, .int v2, .int v3] [] (g_X1_layTube_70 M v3) L Q
        refine wp_seg (pc' := 38) [.iinc 3 1, .goto 0] (by decide +kernel) (?_ : Wp E (d + 1) 5 38 [.ref 70, .ref 3, .int v2, .int (v3 + Int32.ofInt 1)] [] (g_X1_layTube_70 M v3) L Q)
        exact ih v2 (v3 + Int32.ofInt 1) (g_X1_layTube_70 M v3) L hP
def PL_X1_measure_70_2 (K : Mem → LMem → Prop)  : Nat → Int32 → Int32 → Mem → LMem → Prop
  | 0, _, _, _, _ => False
  | n_ + 1, v2, v3, M, L => (((Int32.ofNat 64) ≤ v3 → PL_X1_measure_70_38 K 100000 v2 (Int32.ofInt 0) M L) ∧ (¬ ((Int32.ofNat 64) ≤ v3) → (((v3 - v3 / (Int32.ofInt 9) * (Int32.ofInt 9)) = 0 → (vp_in v3 64 ∧ PL_X1_measure_70_2 K n_ v2 (v3 + Int32.ofInt 1) (mput M 71 v3.toNatClampNeg (Int32.ofInt 0)) L)) ∧ (¬ ((v3 - v3 / (Int32.ofInt 9) * (Int32.ofInt 9)) = 0) → (vp_in v3 64 ∧ PL_X1_measure_70_2 K n_ v2 (v3 + Int32.ofInt 1) (mput M 71 v3.toNatClampNeg (Int32.ofInt 99)) L)))))
theorem tl_X1_measure_70_2 {E : VE} {d : Nat} {Q : QQ} {K : Mem → LMem → Prop}  (hK : ∀ (M : Mem) (L : LMem), K M L → Q none M L)  : ∀ (n_ : Nat) (v2 : Int32) (v3 : Int32) (M : Mem) (L : LMem), PL_X1_measure_70_2 K n_ v2 v3 M L → Wp E (d + 1) 5 2 [.ref 70, .ref 3, .int v2, .int v3] [] M L Q := by
  intro n_
  induction n_ with
  | zero => intro v2 v3 M L hP; exact False.elim hP
  | succ n_ ih =>
    intro v2 v3 M L hP
    unfold PL_X1_measure_70_2 at hP
    refine wp_seg (pc' := 8) [.iload 3, .aload 0, .getfield 64, .arraylength] (by decide +kernel) (?_ : Wp E (d + 1) 5 8 [.ref 70, .ref 3, .int v2, .int v3] [.int (Int32.ofNat 64), .int v3] M L Q)
    refine wp_icmpge (off := 28) 36 (by decide +kernel) (by decide) (fun c_1 => ?_) (fun c_1 => ?_)
    · have hP := hP.1 c_1
      refine wp_seg (pc' := 38) [.iconst 0, .istore 3] (by decide +kernel) (?_ : Wp E (d + 1) 5 38 [.ref 70, .ref 3, .int v2, .int (Int32.ofInt 0)] [] M L Q)
      exact tl_X1_measure_70_38 hK 100000 v2 (Int32.ofInt 0) M L hP
    · have hP := hP.2 c_1
      refine wp_seg (pc' := 20) [.aload 0, .getfield 64, .iload 3, .iload 3, .iconst 9, .irem] (by decide +kernel) (show ¬ (Int32.ofInt 9) = 0 ∧ Wp E (d + 1) 5 20 [.ref 70, .ref 3, .int v2, .int v3] [.int (v3 - v3 / (Int32.ofInt 9) * (Int32.ofInt 9)), .int v3, .ref 71] M L Q from ⟨(by decide), ?_⟩)
      refine wp_ifne (off := 7) 27 (by decide +kernel) (by decide) (fun c_12 => ?_) (fun c_12 => ?_)
      · have hP := hP.2 c_12
        obtain ⟨a_13, hP⟩ := hP
        refine wp_seg (pc' := 30) [.iconst 99, .iastore] (by decide +kernel) (show aok 71 0 v3 ∧ Wp E (d + 1) 5 30 [.ref 70, .ref 3, .int v2, .int v3] [] (mput M 71 v3.toNatClampNeg (Int32.ofInt 99)) L Q from ⟨⟨rfl, a_13⟩, ?_⟩)
        refine wp_seg (pc' := 2) [.iinc 3 1, .goto 0] (by decide +kernel) (?_ : Wp E (d + 1) 5 2 [.ref 70, .ref 3, .int v2, .int (v3 + Int32.ofInt 1)] [] (mput M 71 v3.toNatClampNeg (Int32.ofInt 99)) L Q)
        exact ih v2 (v3 + Int32.ofInt 1) (mput M 71 v3.toNatClampNeg (Int32.ofInt 99)) L hP
      · have hP := hP.1 c_12
        obtain ⟨a_14, hP⟩ := hP
        refine wp_seg (pc' := 30) [.iconst 0, .goto 0, .iastore] (by decide +kernel) (show aok 71 0 v3 ∧ Wp E (d + 1) 5 30 [.ref 70, .ref 3, .int v2, .int v3] [] (mput M 71 v3.toNatClampNeg (Int32.ofInt 0)) L Q from ⟨⟨rfl, a_14⟩, ?_⟩)
        refine wp_seg (pc' := 2) [.iinc 3 1, .goto 0] (by decide +kernel) (?_ : Wp E (d + 1) 5 2 [.ref 70, .ref 3, .int v2, .int (v3 + Int32.ofInt 1)] [] (mput M 71 v3.toNatClampNeg (Int32.ofInt 0)) L Q)
        exact ih v2 (v3 + Int32.ofInt 1) (mput M 71 v3.toNatClampNeg (Int32.ofInt 0)) L hP
def P_X1_measure_70 (x2 : Int32) (M : Mem) (L : LMem) (K : Mem → LMem → Prop) : Prop := PL_X1_measure_70_2 K 100000 x2 (Int32.ofInt 0) M L
theorem t_X1_measure_70 {E : VE} {d : Nat} {Q : QQ} {K : Mem → LMem → Prop} {x2 : Int32} {M : Mem} {L : LMem} (hP : P_X1_measure_70 x2 M L K) (hK : ∀ (M : Mem) (L : LMem), K M L → Q none M L) : Wp E (d + 1) 5 0 [.ref 70, .ref 3, .int x2, .null] [] M L Q := by
  unfold P_X1_measure_70 at hP
  refine wp_seg (pc' := 2) [.iconst 0, .istore 3] (by decide +kernel) (?_ : Wp E (d + 1) 5 2 [.ref 70, .ref 3, .int x2, .int (Int32.ofInt 0)] [] M L Q)
  exact tl_X1_measure_70_2 hK 100000 x2 (Int32.ofInt 0) M L hP

def PL_X1_goBy_72_10 (K : Mem → LMem → Prop) (C_2 : Int32 → Int32 → Mem → LMem → Prop) : Nat → Int32 → Int32 → Int32 → Mem → LMem → Prop
  | 0, _, _, _, _, _ => False
  | n_ + 1, v1, v2, v3, M, L => (((Int32.ofInt 8) ≤ v3 → C_2 v1 (v2 + Int32.ofInt 1) M L) ∧ (¬ ((Int32.ofInt 8) ≤ v3) → (vp_in (((Int32.ofInt 8) * v2) + v1) 64 ∧ (vp_in (((Int32.ofInt 8) * v1) + v3) 64 ∧ (vp_in (((Int32.ofInt 8) * v2) + v3) 64 ∧ PL_X1_goBy_72_10 K C_2 n_ v1 v2 (v3 + Int32.ofInt 1) (mput M 73 ((((Int32.ofInt 8) * v2) + v3).toNatClampNeg) (if ((M 73 ((((Int32.ofInt 8) * v2) + v1).toNatClampNeg)) + (M 73 ((((Int32.ofInt 8) * v1) + v3).toNatClampNeg))) < (M 73 ((((Int32.ofInt 8) * v2) + v3).toNatClampNeg)) then ((M 73 ((((Int32.ofInt 8) * v2) + v1).toNatClampNeg)) + (M 73 ((((Int32.ofInt 8) * v1) + v3).toNatClampNeg))) else (M 73 ((((Int32.ofInt 8) * v2) + v3).toNatClampNeg)))) L)))))
theorem tl_X1_goBy_72_10 {E : VE} {d : Nat} {Q : QQ} {K : Mem → LMem → Prop} {C_2 : Int32 → Int32 → Mem → LMem → Prop} (hK : ∀ (M : Mem) (L : LMem), K M L → Q none M L) (hC_2 : ∀ (v1 : Int32) (v2 : Int32) (M : Mem) (L : LMem), C_2 v1 v2 M L → Wp E d 7 2 [.ref 72, .int v1, .int v2, .null, .null] [] M L Q) : ∀ (n_ : Nat) (v1 : Int32) (v2 : Int32) (v3 : Int32) (M : Mem) (L : LMem), PL_X1_goBy_72_10 K C_2 n_ v1 v2 v3 M L → Wp E d 7 10 [.ref 72, .int v1, .int v2, .int v3, .null] [] M L Q := by
  intro n_
  induction n_ with
  | zero => intro v1 v2 v3 M L hP; exact False.elim hP
  | succ n_ ih =>
    intro v1 v2 v3 M L hP
    unfold PL_X1_goBy_72_10 at hP
    refine wp_seg (pc' := 13) [.iload 3, .iconst 8] (by decide +kernel) (?_ : Wp E d 7 13 [.ref 72, .int v1, .int v2, .int v3, .null] [.int (Int32.ofInt 8), .int v3] M L Q)
    refine wp_icmpge (off := 61) 74 (by decide +kernel) (by decide) (fun c_2 => ?_) (fun c_2 => ?_)
    · have hP := hP.1 c_2
      refine wp_seg (pc' := 2) [.iinc 2 1, .goto 0] (by decide +kernel) (?_ : Wp E d 7 2 [.ref 72, .int v1, .int (v2 + Int32.ofInt 1), .int v3, .null] [] M L Q)
      refine wp_drop (lo := [.ref 72, .int v1, .int (v2 + Int32.ofInt 1), .null, .null]) ⟨Or.inr rfl, Or.inr rfl, Or.inr rfl, Or.inl rfl, Or.inl rfl, trivial⟩ ?_
      exact hC_2 v1 (v2 + Int32.ofInt 1) M L hP
    · have hP := hP.2 c_2
      obtain ⟨a_3, hP⟩ := hP
      refine wp_seg (pc' := 27) [.aload 0, .getfield 64, .iconst 8, .iload 2, .imul, .iload 1, .iadd, .iaload] (by decide +kernel) (show aok 73 0 (((Int32.ofInt 8) * v2) + v1) ∧ Wp E d 7 27 [.ref 72, .int v1, .int v2, .int v3, .null] [.int (M 73 ((((Int32.ofInt 8) * v2) + v1).toNatClampNeg))] M L Q from ⟨⟨rfl, a_3⟩, ?_⟩)
      obtain ⟨a_4, hP⟩ := hP
      refine wp_seg (pc' := 38) [.aload 0, .getfield 64, .iconst 8, .iload 1, .imul, .iload 3, .iadd, .iaload] (by decide +kernel) (show aok 73 0 (((Int32.ofInt 8) * v1) + v3) ∧ Wp E d 7 38 [.ref 72, .int v1, .int v2, .int v3, .null] [.int (M 73 ((((Int32.ofInt 8) * v1) + v3).toNatClampNeg)), .int (M 73 ((((Int32.ofInt 8) * v2) + v1).toNatClampNeg))] M L Q from ⟨⟨rfl, a_4⟩, ?_⟩)
      obtain ⟨a_5, hP⟩ := hP
      refine wp_seg (pc' := 62) [.iadd, .istore 4, .aload 0, .getfield 64, .iconst 8, .iload 2, .imul, .iload 3, .iadd, .aload 0, .getfield 64, .iconst 8, .iload 2, .imul, .iload 3, .iadd, .iaload] (by decide +kernel) (show aok 73 0 (((Int32.ofInt 8) * v2) + v3) ∧ Wp E d 7 62 [.ref 72, .int v1, .int v2, .int v3, .int ((M 73 ((((Int32.ofInt 8) * v2) + v1).toNatClampNeg)) + (M 73 ((((Int32.ofInt 8) * v1) + v3).toNatClampNeg)))] [.int (M 73 ((((Int32.ofInt 8) * v2) + v3).toNatClampNeg)), .int (((Int32.ofInt 8) * v2) + v3), .ref 73] M L Q from ⟨⟨rfl, a_5⟩, ?_⟩)
      refine wp_seg (pc' := 67) [.iload 4, .invokestatic 1] (by decide +kernel) (?_ : Wp E d 7 67 [.ref 72, .int v1, .int v2, .int v3, .int ((M 73 ((((Int32.ofInt 8) * v2) + v1).toNatClampNeg)) + (M 73 ((((Int32.ofInt 8) * v1) + v3).toNatClampNeg)))] [.int (if ((M 73 ((((Int32.ofInt 8) * v2) + v1).toNatClampNeg)) + (M 73 ((((Int32.ofInt 8) * v1) + v3).toNatClampNeg))) < (M 73 ((((Int32.ofInt 8) * v2) + v3).toNatClampNeg)) then ((M 73 ((((Int32.ofInt 8) * v2) + v1).toNatClampNeg)) + (M 73 ((((Int32.ofInt 8) * v1) + v3).toNatClampNeg))) else (M 73 ((((Int32.ofInt 8) * v2) + v3).toNatClampNeg))), .int (((Int32.ofInt 8) * v2) + v3), .ref 73] M L Q)
      refine wp_seg (pc' := 68) [.iastore] (by decide +kernel) (show aok 73 0 (((Int32.ofInt 8) * v2) + v3) ∧ Wp E d 7 68 [.ref 72, .int v1, .int v2, .int v3, .int ((M 73 ((((Int32.ofInt 8) * v2) + v1).toNatClampNeg)) + (M 73 ((((Int32.ofInt 8) * v1) + v3).toNatClampNeg)))] [] (mput M 73 ((((Int32.ofInt 8) * v2) + v3).toNatClampNeg) (if ((M 73 ((((Int32.ofInt 8) * v2) + v1).toNatClampNeg)) + (M 73 ((((Int32.ofInt 8) * v1) + v3).toNatClampNeg))) < (M 73 ((((Int32.ofInt 8) * v2) + v3).toNatClampNeg)) then ((M 73 ((((Int32.ofInt 8) * v2) + v1).toNatClampNeg)) + (M 73 ((((Int32.ofInt 8) * v1) + v3).toNatClampNeg))) else (M 73 ((((Int32.ofInt 8) * v2) + v3).toNatClampNeg)))) L Q from ⟨⟨rfl, a_5⟩, ?_⟩)
      refine wp_seg (pc' := 10) [.iinc 3 1, .goto 0] (by decide +kernel) (?_ : Wp E d 7 10 [.ref 72, .int v1, .int v2, .int (v3 + Int32.ofInt 1), .int ((M 73 ((((Int32.ofInt 8) * v2) + v1).toNatClampNeg)) + (M 73 ((((Int32.ofInt 8) * v1) + v3).toNatClampNeg)))] [] (mput M 73 ((((Int32.ofInt 8) * v2) + v3).toNatClampNeg) (if ((M 73 ((((Int32.ofInt 8) * v2) + v1).toNatClampNeg)) + (M 73 ((((Int32.ofInt 8) * v1) + v3).toNatClampNeg))) < (M 73 ((((Int32.ofInt 8) * v2) + v3).toNatClampNeg)) then ((M 73 ((((Int32.ofInt 8) * v2) + v1).toNatClampNeg)) + (M 73 ((((Int32.ofInt 8) * v1) + v3).toNatClampNeg))) else (M 73 ((((Int32.ofInt 8) * v2) + v3).toNatClampNeg)))) L Q)
      refine wp_drop (lo := [.ref 72, .int v1, .int v2, .int (v3 + Int32.ofInt 1), .null]) ⟨Or.inr rfl, Or.inr rfl, Or.inr rfl, Or.inr rfl, Or.inl rfl, trivial⟩ ?_
      exact ih v1 v2 (v3 + Int32.ofInt 1) (mput M 73 ((((Int32.ofInt 8) * v2) + v3).toNatClampNeg) (if ((M 73 ((((Int32.ofInt 8) * v2) + v1).toNatClampNeg)) + (M 73 ((((Int32.ofInt 8) * v1) + v3).toNatClampNeg))) < (M 73 ((((Int32.ofInt 8) * v2) + v3).toNatClampNeg)) then ((M 73 ((((Int32.ofInt 8) * v2) + v1).toNatClampNeg)) + (M 73 ((((Int32.ofInt 8) * v1) + v3).toNatClampNeg))) else (M 73 ((((Int32.ofInt 8) * v2) + v3).toNatClampNeg)))) L hP
def PL_X1_goBy_72_2 (K : Mem → LMem → Prop)  : Nat → Int32 → Int32 → Mem → LMem → Prop
  | 0, _, _, _, _ => False
  | n_ + 1, v1, v2, M, L => (((Int32.ofInt 8) ≤ v2 → K M L) ∧ (¬ ((Int32.ofInt 8) ≤ v2) → PL_X1_goBy_72_10 K (PL_X1_goBy_72_2 K n_) 100000 v1 v2 (Int32.ofInt 0) M L))
theorem tl_X1_goBy_72_2 {E : VE} {d : Nat} {Q : QQ} {K : Mem → LMem → Prop}  (hK : ∀ (M : Mem) (L : LMem), K M L → Q none M L)  : ∀ (n_ : Nat) (v1 : Int32) (v2 : Int32) (M : Mem) (L : LMem), PL_X1_goBy_72_2 K n_ v1 v2 M L → Wp E d 7 2 [.ref 72, .int v1, .int v2, .null, .null] [] M L Q := by
  intro n_
  induction n_ with
  | zero => intro v1 v2 M L hP; exact False.elim hP
  | succ n_ ih =>
    intro v1 v2 M L hP
    unfold PL_X1_goBy_72_2 at hP
    refine wp_seg (pc' := 5) [.iload 2, .iconst 8] (by decide +kernel) (?_ : Wp E d 7 5 [.ref 72, .int v1, .int v2, .null, .null] [.int (Int32.ofInt 8), .int v2] M L Q)
    refine wp_icmpge (off := 75) 80 (by decide +kernel) (by decide) (fun c_1 => ?_) (fun c_1 => ?_)
    · have hP := hP.1 c_1
      exact wp_vret (by decide +kernel) rfl (hK _ _ hP)
    · have hP := hP.2 c_1
      refine wp_seg (pc' := 10) [.iconst 0, .istore 3] (by decide +kernel) (?_ : Wp E d 7 10 [.ref 72, .int v1, .int v2, .int (Int32.ofInt 0), .null] [] M L Q)
      exact tl_X1_goBy_72_10 hK (fun v1 v2 M L hP => ih v1 v2 M L hP) 100000 v1 v2 (Int32.ofInt 0) M L hP
def P_X1_goBy_72 (x1 : Int32) (M : Mem) (L : LMem) (K : Mem → LMem → Prop) : Prop := PL_X1_goBy_72_2 K 100000 x1 (Int32.ofInt 0) M L
theorem t_X1_goBy_72 {E : VE} {d : Nat} {Q : QQ} {K : Mem → LMem → Prop} {x1 : Int32} {M : Mem} {L : LMem} (hP : P_X1_goBy_72 x1 M L K) (hK : ∀ (M : Mem) (L : LMem), K M L → Q none M L) : Wp E d 7 0 [.ref 72, .int x1, .null, .null, .null] [] M L Q := by
  unfold P_X1_goBy_72 at hP
  refine wp_seg (pc' := 2) [.iconst 0, .istore 2] (by decide +kernel) (?_ : Wp E d 7 2 [.ref 72, .int x1, .int (Int32.ofInt 0), .null, .null] [] M L Q)
  exact tl_X1_goBy_72_2 hK 100000 x1 (Int32.ofInt 0) M L hP

def PL_X1_measure_72_93 (K : Mem → LMem → Prop)  : Nat → Int32 → Int32 → Mem → LMem → Prop
  | 0, _, _, _, _ => False
  | n_ + 1, v2, v3, M, L => (((Int32.ofNat 64) ≤ v3 → K M L) ∧ (¬ ((Int32.ofNat 64) ≤ v3) → (vp_in v3 64 ∧ PL_X1_measure_72_93 K n_ v2 (v3 + Int32.ofInt 1) (mput M 73 v3.toNatClampNeg (f_X1_carried M (M 73 v3.toNatClampNeg) (M 3 1))) L)))
theorem tl_X1_measure_72_93 {E : VE} {d : Nat} {Q : QQ} {K : Mem → LMem → Prop}  (hK : ∀ (M : Mem) (L : LMem), K M L → Q none M L)  : ∀ (n_ : Nat) (v2 : Int32) (v3 : Int32) (M : Mem) (L : LMem), PL_X1_measure_72_93 K n_ v2 v3 M L → Wp E (d + 1) 5 93 [.ref 72, .ref 3, .int v2, .int v3] [] M L Q := by
  intro n_
  induction n_ with
  | zero => intro v2 v3 M L hP; exact False.elim hP
  | succ n_ ih =>
    intro v2 v3 M L hP
    unfold PL_X1_measure_72_93 at hP
    refine wp_seg (pc' := 99) [.iload 3, .aload 0, .getfield 64, .arraylength] (by decide +kernel) (?_ : Wp E (d + 1) 5 99 [.ref 72, .ref 3, .int v2, .int v3] [.int (Int32.ofNat 64), .int v3] M L Q)
    refine wp_icmpge (off := 28) 127 (by decide +kernel) (by decide) (fun c_4 => ?_) (fun c_4 => ?_)
    · have hP := hP.1 c_4
      exact wp_vret (by decide +kernel) rfl (hK _ _ hP)
    · have hP := hP.2 c_4
      obtain ⟨a_5, hP⟩ := hP
      refine wp_seg (pc' := 113) [.aload 0, .getfield 64, .iload 3, .aload 0, .getfield 64, .iload 3, .iaload] (by decide +kernel) (show aok 73 0 v3 ∧ Wp E (d + 1) 5 113 [.ref 72, .ref 3, .int v2, .int v3] [.int (M 73 v3.toNatClampNeg), .int v3, .ref 73] M L Q from ⟨⟨rfl, a_5⟩, ?_⟩)
      refine wp_seg (pc' := 117) [.aload 1, .getfield 193] (by decide +kernel) (?_ : Wp E (d + 1) 5 117 [.ref 72, .ref 3, .int v2, .int v3] [.int (M 3 1), .int (M 73 v3.toNatClampNeg), .int v3, .ref 73] M L Q)
      refine wp_callS 8 [.int (M 73 v3.toNatClampNeg), .int (M 3 1)] (i := 38) (by decide +kernel) (by decide +kernel) (by decide +kernel) rfl rfl rfl (rest := [.int v3, .ref 73]) rfl rfl ?_
      refine s_X1_carried M (M 73 v3.toNatClampNeg) (M 3 1)  ?_
      show Wp E (d + 1) 5 120 [.ref 72, .ref 3, .int v2, .int v3] [.int (f_X1_carried M (M 73 v3.toNatClampNeg) (M 3 1)), .int v3, .ref 73] M L Q
      refine wp_seg (pc' := 121) [.iastore] (by decide +kernel) (show aok 73 0 v3 ∧ Wp E (d + 1) 5 121 [.ref 72, .ref 3, .int v2, .int v3] [] (mput M 73 v3.toNatClampNeg (f_X1_carried M (M 73 v3.toNatClampNeg) (M 3 1))) L Q from ⟨⟨rfl, a_5⟩, ?_⟩)
      refine wp_seg (pc' := 93) [.iinc 3 1, .goto 0] (by decide +kernel) (?_ : Wp E (d + 1) 5 93 [.ref 72, .ref 3, .int v2, .int (v3 + Int32.ofInt 1)] [] (mput M 73 v3.toNatClampNeg (f_X1_carried M (M 73 v3.toNatClampNeg) (M 3 1))) L Q)
      exact ih v2 (v3 + Int32.ofInt 1) (mput M 73 v3.toNatClampNeg (f_X1_carried M (M 73 v3.toNatClampNeg) (M 3 1))) L hP
def PL_X1_measure_72_74 (K : Mem → LMem → Prop)  : Nat → Int32 → Int32 → Mem → LMem → Prop
  | 0, _, _, _, _ => False
  | n_ + 1, v2, v3, M, L => (((Int32.ofInt 8) ≤ v3 → PL_X1_measure_72_93 K 100000 v2 (Int32.ofInt 0) M L) ∧ (¬ ((Int32.ofInt 8) ≤ v3) → P_X1_goBy_72 v3 M L (fun M_6 L_7 => PL_X1_measure_72_74 K n_ v2 (v3 + Int32.ofInt 1) M_6 L_7)))
theorem tl_X1_measure_72_74 {E : VE} {d : Nat} {Q : QQ} {K : Mem → LMem → Prop}  (hK : ∀ (M : Mem) (L : LMem), K M L → Q none M L)  : ∀ (n_ : Nat) (v2 : Int32) (v3 : Int32) (M : Mem) (L : LMem), PL_X1_measure_72_74 K n_ v2 v3 M L → Wp E (d + 1) 5 74 [.ref 72, .ref 3, .int v2, .int v3] [] M L Q := by
  intro n_
  induction n_ with
  | zero => intro v2 v3 M L hP; exact False.elim hP
  | succ n_ ih =>
    intro v2 v3 M L hP
    unfold PL_X1_measure_72_74 at hP
    refine wp_seg (pc' := 77) [.iload 3, .iconst 8] (by decide +kernel) (?_ : Wp E (d + 1) 5 77 [.ref 72, .ref 3, .int v2, .int v3] [.int (Int32.ofInt 8), .int v3] M L Q)
    refine wp_icmpge (off := 14) 91 (by decide +kernel) (by decide) (fun c_3 => ?_) (fun c_3 => ?_)
    · have hP := hP.1 c_3
      refine wp_seg (pc' := 93) [.iconst 0, .istore 3] (by decide +kernel) (?_ : Wp E (d + 1) 5 93 [.ref 72, .ref 3, .int v2, .int (Int32.ofInt 0)] [] M L Q)
      exact tl_X1_measure_72_93 hK 100000 v2 (Int32.ofInt 0) M L hP
    · have hP := hP.2 c_3
      refine wp_seg (pc' := 82) [.aload 0, .iload 3] (by decide +kernel) (?_ : Wp E (d + 1) 5 82 [.ref 72, .ref 3, .int v2, .int v3] [.int v3, .ref 72] M L Q)
      refine wp_callV 7 72 [.int v3] (i := 31) (by decide +kernel) (by decide +kernel) (by decide +kernel) (by decide +kernel) rfl rfl rfl (rest := []) rfl rfl ?_
      refine t_X1_goBy_72 hP (fun M_6 L_7 hP => ?_)
      show Wp E (d + 1) 5 85 [.ref 72, .ref 3, .int v2, .int v3] [] M_6 L_7 Q
      refine wp_seg (pc' := 74) [.iinc 3 1, .goto 0] (by decide +kernel) (?_ : Wp E (d + 1) 5 74 [.ref 72, .ref 3, .int v2, .int (v3 + Int32.ofInt 1)] [] M_6 L_7 Q)
      exact ih v2 (v3 + Int32.ofInt 1) M_6 L_7 hP
def PL_X1_measure_72_38 (K : Mem → LMem → Prop)  : Nat → Int32 → Int32 → Mem → LMem → Prop
  | 0, _, _, _, _ => False
  | n_ + 1, v2, v3, M, L => (((M 4 4) ≤ v3 → PL_X1_measure_72_74 K 100000 v2 (Int32.ofInt 0) M L) ∧ (¬ ((M 4 4) ≤ v3) → ((((v2 >>> (v3 &&& 31)) &&& (Int32.ofInt 1)) = 0 → ((vp_in v3 12) ∧ ((¬ ((M 7 v3.toNatClampNeg) = (Int32.ofInt 120)) → vp_in (((Int32.ofInt 8) * (M 5 v3.toNatClampNeg)) + (M 6 v3.toNatClampNeg)) 64) ∧ ((¬ ((M 7 v3.toNatClampNeg) = (Int32.ofInt 120)) → ¬ ((M 7 v3.toNatClampNeg) = (Int32.ofInt 62)) → vp_in (((Int32.ofInt 8) * (M 6 v3.toNatClampNeg)) + (M 5 v3.toNatClampNeg)) 64) ∧ PL_X1_measure_72_38 K n_ v2 (v3 + Int32.ofInt 1) (g_X1_layTube_72 M v3) L)))) ∧ (¬ (((v2 >>> (v3 &&& 31)) &&& (Int32.ofInt 1)) = 0) → PL_X1_measure_72_38 K n_ v2 (v3 + Int32.ofInt 1) M L))))
theorem tl_X1_measure_72_38 {E : VE} {d : Nat} {Q : QQ} {K : Mem → LMem → Prop}  (hK : ∀ (M : Mem) (L : LMem), K M L → Q none M L)  : ∀ (n_ : Nat) (v2 : Int32) (v3 : Int32) (M : Mem) (L : LMem), PL_X1_measure_72_38 K n_ v2 v3 M L → Wp E (d + 1) 5 38 [.ref 72, .ref 3, .int v2, .int v3] [] M L Q := by
  intro n_
  induction n_ with
  | zero => intro v2 v3 M L hP; exact False.elim hP
  | succ n_ ih =>
    intro v2 v3 M L hP
    unfold PL_X1_measure_72_38 at hP
    refine wp_seg (pc' := 46) [.iload 3, .aload 1, .getfield 192, .getfield 132] (by decide +kernel) (?_ : Wp E (d + 1) 5 46 [.ref 72, .ref 3, .int v2, .int v3] [.int (M 4 4), .int v3] M L Q)
    refine wp_icmpge (off := 26) 72 (by decide +kernel) (by decide) (fun c_2 => ?_) (fun c_2 => ?_)
    · have hP := hP.1 c_2
      refine wp_seg (pc' := 74) [.iconst 0, .istore 3] (by decide +kernel) (?_ : Wp E (d + 1) 5 74 [.ref 72, .ref 3, .int v2, .int (Int32.ofInt 0)] [] M L Q)
      exact tl_X1_measure_72_74 hK 100000 v2 (Int32.ofInt 0) M L hP
    · have hP := hP.2 c_2
      refine wp_seg (pc' := 54) [.iload 2, .iload 3, .ishr, .iconst 1, .iand] (by decide +kernel) (?_ : Wp E (d + 1) 5 54 [.ref 72, .ref 3, .int v2, .int v3] [.int ((v2 >>> (v3 &&& 31)) &&& (Int32.ofInt 1))] M L Q)
      refine wp_ifne (off := 12) 66 (by decide +kernel) (by decide) (fun c_8 => ?_) (fun c_8 => ?_)
      · have hP := hP.2 c_8
        refine wp_seg (pc' := 38) [.iinc 3 1, .goto 0] (by decide +kernel) (?_ : Wp E (d + 1) 5 38 [.ref 72, .ref 3, .int v2, .int (v3 + Int32.ofInt 1)] [] M L Q)
        exact ih v2 (v3 + Int32.ofInt 1) M L hP
      · have hP := hP.1 c_8
        refine wp_seg (pc' := 63) [.aload 0, .aload 1, .getfield 192, .iload 3] (by decide +kernel) (?_ : Wp E (d + 1) 5 63 [.ref 72, .ref 3, .int v2, .int v3] [.int v3, .ref 4, .ref 72] M L Q)
        refine wp_callV 6 72 [.ref 4, .int v3] (i := 27) (by decide +kernel) (by decide +kernel) (by decide +kernel) (by decide +kernel) rfl rfl rfl (rest := []) rfl rfl ?_
        obtain ⟨a_9, hP⟩ := hP
        obtain ⟨a_10, hP⟩ := hP
        obtain ⟨a_11, hP⟩ := hP
        refine s_X1_layTube_72 M v3 a_9 a_10 a_11 ?_
        show Wp E (d + 1) 5 66 [.ref 72, .ref 3, .int v2, .int v3] [] (g_X1_layTube_72 M v3) L Q
        refine wp_seg (pc' := 38) [.iinc 3 1, .goto 0] (by decide +kernel) (?_ : Wp E (d + 1) 5 38 [.ref 72, .ref 3, .int v2, .int (v3 + Int32.ofInt 1)] [] (g_X1_layTube_72 M v3) L Q)
        exact ih v2 (v3 + Int32.ofInt 1) (g_X1_layTube_72 M v3) L hP
def PL_X1_measure_72_2 (K : Mem → LMem → Prop)  : Nat → Int32 → Int32 → Mem → LMem → Prop
  | 0, _, _, _, _ => False
  | n_ + 1, v2, v3, M, L => (((Int32.ofNat 64) ≤ v3 → PL_X1_measure_72_38 K 100000 v2 (Int32.ofInt 0) M L) ∧ (¬ ((Int32.ofNat 64) ≤ v3) → (((v3 - v3 / (Int32.ofInt 9) * (Int32.ofInt 9)) = 0 → (vp_in v3 64 ∧ PL_X1_measure_72_2 K n_ v2 (v3 + Int32.ofInt 1) (mput M 73 v3.toNatClampNeg (Int32.ofInt 0)) L)) ∧ (¬ ((v3 - v3 / (Int32.ofInt 9) * (Int32.ofInt 9)) = 0) → (vp_in v3 64 ∧ PL_X1_measure_72_2 K n_ v2 (v3 + Int32.ofInt 1) (mput M 73 v3.toNatClampNeg (Int32.ofInt 99)) L)))))
theorem tl_X1_measure_72_2 {E : VE} {d : Nat} {Q : QQ} {K : Mem → LMem → Prop}  (hK : ∀ (M : Mem) (L : LMem), K M L → Q none M L)  : ∀ (n_ : Nat) (v2 : Int32) (v3 : Int32) (M : Mem) (L : LMem), PL_X1_measure_72_2 K n_ v2 v3 M L → Wp E (d + 1) 5 2 [.ref 72, .ref 3, .int v2, .int v3] [] M L Q := by
  intro n_
  induction n_ with
  | zero => intro v2 v3 M L hP; exact False.elim hP
  | succ n_ ih =>
    intro v2 v3 M L hP
    unfold PL_X1_measure_72_2 at hP
    refine wp_seg (pc' := 8) [.iload 3, .aload 0, .getfield 64, .arraylength] (by decide +kernel) (?_ : Wp E (d + 1) 5 8 [.ref 72, .ref 3, .int v2, .int v3] [.int (Int32.ofNat 64), .int v3] M L Q)
    refine wp_icmpge (off := 28) 36 (by decide +kernel) (by decide) (fun c_1 => ?_) (fun c_1 => ?_)
    · have hP := hP.1 c_1
      refine wp_seg (pc' := 38) [.iconst 0, .istore 3] (by decide +kernel) (?_ : Wp E (d + 1) 5 38 [.ref 72, .ref 3, .int v2, .int (Int32.ofInt 0)] [] M L Q)
      exact tl_X1_measure_72_38 hK 100000 v2 (Int32.ofInt 0) M L hP
    · have hP := hP.2 c_1
      refine wp_seg (pc' := 20) [.aload 0, .getfield 64, .iload 3, .iload 3, .iconst 9, .irem] (by decide +kernel) (show ¬ (Int32.ofInt 9) = 0 ∧ Wp E (d + 1) 5 20 [.ref 72, .ref 3, .int v2, .int v3] [.int (v3 - v3 / (Int32.ofInt 9) * (Int32.ofInt 9)), .int v3, .ref 73] M L Q from ⟨(by decide), ?_⟩)
      refine wp_ifne (off := 7) 27 (by decide +kernel) (by decide) (fun c_12 => ?_) (fun c_12 => ?_)
      · have hP := hP.2 c_12
        obtain ⟨a_13, hP⟩ := hP
        refine wp_seg (pc' := 30) [.iconst 99, .iastore] (by decide +kernel) (show aok 73 0 v3 ∧ Wp E (d + 1) 5 30 [.ref 72, .ref 3, .int v2, .int v3] [] (mput M 73 v3.toNatClampNeg (Int32.ofInt 99)) L Q from ⟨⟨rfl, a_13⟩, ?_⟩)
        refine wp_seg (pc' := 2) [.iinc 3 1, .goto 0] (by decide +kernel) (?_ : Wp E (d + 1) 5 2 [.ref 72, .ref 3, .int v2, .int (v3 + Int32.ofInt 1)] [] (mput M 73 v3.toNatClampNeg (Int32.ofInt 99)) L Q)
        exact ih v2 (v3 + Int32.ofInt 1) (mput M 73 v3.toNatClampNeg (Int32.ofInt 99)) L hP
      · have hP := hP.1 c_12
        obtain ⟨a_14, hP⟩ := hP
        refine wp_seg (pc' := 30) [.iconst 0, .goto 0, .iastore] (by decide +kernel) (show aok 73 0 v3 ∧ Wp E (d + 1) 5 30 [.ref 72, .ref 3, .int v2, .int v3] [] (mput M 73 v3.toNatClampNeg (Int32.ofInt 0)) L Q from ⟨⟨rfl, a_14⟩, ?_⟩)
        refine wp_seg (pc' := 2) [.iinc 3 1, .goto 0] (by decide +kernel) (?_ : Wp E (d + 1) 5 2 [.ref 72, .ref 3, .int v2, .int (v3 + Int32.ofInt 1)] [] (mput M 73 v3.toNatClampNeg (Int32.ofInt 0)) L Q)
        exact ih v2 (v3 + Int32.ofInt 1) (mput M 73 v3.toNatClampNeg (Int32.ofInt 0)) L hP
def P_X1_measure_72 (x2 : Int32) (M : Mem) (L : LMem) (K : Mem → LMem → Prop) : Prop := PL_X1_measure_72_2 K 100000 x2 (Int32.ofInt 0) M L
theorem t_X1_measure_72 {E : VE} {d : Nat} {Q : QQ} {K : Mem → LMem → Prop} {x2 : Int32} {M : Mem} {L : LMem} (hP : P_X1_measure_72 x2 M L K) (hK : ∀ (M : Mem) (L : LMem), K M L → Q none M L) : Wp E (d + 1) 5 0 [.ref 72, .ref 3, .int x2, .null] [] M L Q := by
  unfold P_X1_measure_72 at hP
  refine wp_seg (pc' := 2) [.iconst 0, .istore 3] (by decide +kernel) (?_ : Wp E (d + 1) 5 2 [.ref 72, .ref 3, .int x2, .int (Int32.ofInt 0)] [] M L Q)
  exact tl_X1_measure_72_2 hK 100000 x2 (Int32.ofInt 0) M L hP

def PL_X1_sum_13 (K : Int32 → Mem → LMem → Prop)  : Nat → Int32 → Int32 → Int32 → Mem → LMem → Prop
  | 0, _, _, _, _, _ => False
  | n_ + 1, v1, v3, v4, M, L => ((v3 ≤ v4 → K v1 M L) ∧ (¬ (v3 ≤ v4) → (vp_in v4 64 ∧ PL_X1_sum_13 K n_ (v1 + (M 71 v4.toNatClampNeg)) v3 (v4 + Int32.ofInt 1) M L)))
theorem tl_X1_sum_13 {E : VE} {d : Nat} {Q : QQ} {K : Int32 → Mem → LMem → Prop}  (hK : ∀ (v : Int32) (M : Mem) (L : LMem), K v M L → Q (some (.int v)) M L)  : ∀ (n_ : Nat) (v1 : Int32) (v3 : Int32) (v4 : Int32) (M : Mem) (L : LMem), PL_X1_sum_13 K n_ v1 v3 v4 M L → Wp E d 9 13 [.ref 70, .int v1, .ref 71, .int v3, .int v4, .null] [] M L Q := by
  intro n_
  induction n_ with
  | zero => intro v1 v3 v4 M L hP; exact False.elim hP
  | succ n_ ih =>
    intro v1 v3 v4 M L hP
    unfold PL_X1_sum_13 at hP
    refine wp_seg (pc' := 16) [.iload 4, .iload 3] (by decide +kernel) (?_ : Wp E d 9 16 [.ref 70, .int v1, .ref 71, .int v3, .int v4, .null] [.int v3, .int v4] M L Q)
    refine wp_icmpge (off := 20) 36 (by decide +kernel) (by decide) (fun c_1 => ?_) (fun c_1 => ?_)
    · have hP := hP.1 c_1
      refine wp_seg (pc' := 37) [.iload 1] (by decide +kernel) (?_ : Wp E d 9 37 [.ref 70, .int v1, .ref 71, .int v3, .int v4, .null] [.int v1] M L Q)
      exact wp_iret (by decide +kernel) rfl (hK _ _ _ hP)
    · have hP := hP.2 c_1
      obtain ⟨a_2, hP⟩ := hP
      refine wp_seg (pc' := 23) [.aload 2, .iload 4, .iaload] (by decide +kernel) (show aok 71 0 v4 ∧ Wp E d 9 23 [.ref 70, .int v1, .ref 71, .int v3, .int v4, .null] [.int (M 71 v4.toNatClampNeg)] M L Q from ⟨⟨rfl, a_2⟩, ?_⟩)
      refine wp_seg (pc' := 13) [.istore 5, .iload 1, .iload 5, .iadd, .istore 1, .iinc 4 1, .goto 0] (by decide +kernel) (?_ : Wp E d 9 13 [.ref 70, .int (v1 + (M 71 v4.toNatClampNeg)), .ref 71, .int v3, .int (v4 + Int32.ofInt 1), .int (M 71 v4.toNatClampNeg)] [] M L Q)
      refine wp_drop (lo := [.ref 70, .int (v1 + (M 71 v4.toNatClampNeg)), .ref 71, .int v3, .int (v4 + Int32.ofInt 1), .null]) ⟨Or.inr rfl, Or.inr rfl, Or.inr rfl, Or.inr rfl, Or.inr rfl, Or.inl rfl, trivial⟩ ?_
      exact ih (v1 + (M 71 v4.toNatClampNeg)) v3 (v4 + Int32.ofInt 1) M L hP
def P_X1_sum (M : Mem) (L : LMem) (K : Int32 → Mem → LMem → Prop) : Prop := PL_X1_sum_13 K 100000 (Int32.ofInt 0) (Int32.ofNat 64) (Int32.ofInt 0) M L
theorem t_X1_sum {E : VE} {d : Nat} {Q : QQ} {K : Int32 → Mem → LMem → Prop} {M : Mem} {L : LMem} (hP : P_X1_sum M L K) (hK : ∀ (v : Int32) (M : Mem) (L : LMem), K v M L → Q (some (.int v)) M L) : Wp E d 9 0 [.ref 70, .null, .null, .null, .null, .null] [] M L Q := by
  unfold P_X1_sum at hP
  refine wp_seg (pc' := 13) [.iconst 0, .istore 1, .aload 0, .getfield 64, .astore 2, .aload 2, .arraylength, .istore 3, .iconst 0, .istore 4] (by decide +kernel) (?_ : Wp E d 9 13 [.ref 70, .int (Int32.ofInt 0), .ref 71, .int (Int32.ofNat 64), .int (Int32.ofInt 0), .null] [] M L Q)
  exact tl_X1_sum_13 hK 100000 (Int32.ofInt 0) (Int32.ofNat 64) (Int32.ofInt 0) M L hP

def PL_X1_sumWith_48 (K : Int32 → Mem → LMem → Prop) (C_6 : Int32 → Int32 → Int32 → Int32 → Int32 → Int32 → Mem → LMem → Prop) : Nat → Int32 → Int32 → Int32 → Int32 → Int32 → Int32 → Int32 → Int32 → Int32 → Mem → LMem → Prop
  | 0, _, _, _, _, _, _, _, _, _, _, _ => False
  | n_ + 1, v1, v2, v3, v4, v5, v6, v7, v8, v9, M, L => (((Int32.ofInt 8) ≤ v9 → C_6 v1 v2 v3 v4 v5 (v6 + Int32.ofInt 1) M L) ∧ (¬ ((Int32.ofInt 8) ≤ v9) → (vp_in (((Int32.ofInt 8) * v2) + v9) 64 ∧ (vp_in (((Int32.ofInt 8) * v1) + v9) 64 ∧ (vp_in (((Int32.ofInt 8) * v6) + v9) 64 ∧ PL_X1_sumWith_48 K C_6 n_ v1 v2 v3 v4 (v5 + (f_X1_carried M (if (if (v8 + (M 71 ((((Int32.ofInt 8) * v1) + v9).toNatClampNeg))) < (v7 + (M 71 ((((Int32.ofInt 8) * v2) + v9).toNatClampNeg))) then (v8 + (M 71 ((((Int32.ofInt 8) * v1) + v9).toNatClampNeg))) else (v7 + (M 71 ((((Int32.ofInt 8) * v2) + v9).toNatClampNeg)))) < (M 71 ((((Int32.ofInt 8) * v6) + v9).toNatClampNeg)) then (if (v8 + (M 71 ((((Int32.ofInt 8) * v1) + v9).toNatClampNeg))) < (v7 + (M 71 ((((Int32.ofInt 8) * v2) + v9).toNatClampNeg))) then (v8 + (M 71 ((((Int32.ofInt 8) * v1) + v9).toNatClampNeg))) else (v7 + (M 71 ((((Int32.ofInt 8) * v2) + v9).toNatClampNeg)))) else (M 71 ((((Int32.ofInt 8) * v6) + v9).toNatClampNeg))) v4)) v6 v7 v8 (v9 + Int32.ofInt 1) M L)))))
theorem tl_X1_sumWith_48 {E : VE} {d : Nat} {Q : QQ} {K : Int32 → Mem → LMem → Prop} {C_6 : Int32 → Int32 → Int32 → Int32 → Int32 → Int32 → Mem → LMem → Prop} (hK : ∀ (v : Int32) (M : Mem) (L : LMem), K v M L → Q (some (.int v)) M L) (hC_6 : ∀ (v1 : Int32) (v2 : Int32) (v3 : Int32) (v4 : Int32) (v5 : Int32) (v6 : Int32) (M : Mem) (L : LMem), C_6 v1 v2 v3 v4 v5 v6 M L → Wp E (d + 1) 10 6 [.ref 70, .int v1, .int v2, .int v3, .int v4, .int v5, .int v6, .null, .null, .null, .null, .null, .null] [] M L Q) : ∀ (n_ : Nat) (v1 : Int32) (v2 : Int32) (v3 : Int32) (v4 : Int32) (v5 : Int32) (v6 : Int32) (v7 : Int32) (v8 : Int32) (v9 : Int32) (M : Mem) (L : LMem), PL_X1_sumWith_48 K C_6 n_ v1 v2 v3 v4 v5 v6 v7 v8 v9 M L → Wp E (d + 1) 10 48 [.ref 70, .int v1, .int v2, .int v3, .int v4, .int v5, .int v6, .int v7, .int v8, .int v9, .null, .null, .null] [] M L Q := by
  intro n_
  induction n_ with
  | zero => intro v1 v2 v3 v4 v5 v6 v7 v8 v9 M L hP; exact False.elim hP
  | succ n_ ih =>
    intro v1 v2 v3 v4 v5 v6 v7 v8 v9 M L hP
    unfold PL_X1_sumWith_48 at hP
    refine wp_seg (pc' := 52) [.iload 9, .iconst 8] (by decide +kernel) (?_ : Wp E (d + 1) 10 52 [.ref 70, .int v1, .int v2, .int v3, .int v4, .int v5, .int v6, .int v7, .int v8, .int v9, .null, .null, .null] [.int (Int32.ofInt 8), .int v9] M L Q)
    refine wp_icmpge (off := 80) 132 (by decide +kernel) (by decide) (fun c_4 => ?_) (fun c_4 => ?_)
    · have hP := hP.1 c_4
      refine wp_seg (pc' := 6) [.iinc 6 1, .goto 0] (by decide +kernel) (?_ : Wp E (d + 1) 10 6 [.ref 70, .int v1, .int v2, .int v3, .int v4, .int v5, .int (v6 + Int32.ofInt 1), .int v7, .int v8, .int v9, .null, .null, .null] [] M L Q)
      refine wp_drop (lo := [.ref 70, .int v1, .int v2, .int v3, .int v4, .int v5, .int (v6 + Int32.ofInt 1), .null, .null, .null, .null, .null, .null]) ⟨Or.inr rfl, Or.inr rfl, Or.inr rfl, Or.inr rfl, Or.inr rfl, Or.inr rfl, Or.inr rfl, Or.inl rfl, Or.inl rfl, Or.inl rfl, Or.inl rfl, Or.inl rfl, Or.inl rfl, trivial⟩ ?_
      exact hC_6 v1 v2 v3 v4 v5 (v6 + Int32.ofInt 1) M L hP
    · have hP := hP.2 c_4
      obtain ⟨a_5, hP⟩ := hP
      refine wp_seg (pc' := 69) [.iload 7, .aload 0, .getfield 64, .iconst 8, .iload 2, .imul, .iload 9, .iadd, .iaload] (by decide +kernel) (show aok 71 0 (((Int32.ofInt 8) * v2) + v9) ∧ Wp E (d + 1) 10 69 [.ref 70, .int v1, .int v2, .int v3, .int v4, .int v5, .int v6, .int v7, .int v8, .int v9, .null, .null, .null] [.int (M 71 ((((Int32.ofInt 8) * v2) + v9).toNatClampNeg)), .int v7] M L Q from ⟨⟨rfl, a_5⟩, ?_⟩)
      obtain ⟨a_6, hP⟩ := hP
      refine wp_seg (pc' := 86) [.iadd, .istore 10, .iload 8, .aload 0, .getfield 64, .iconst 8, .iload 1, .imul, .iload 9, .iadd, .iaload] (by decide +kernel) (show aok 71 0 (((Int32.ofInt 8) * v1) + v9) ∧ Wp E (d + 1) 10 86 [.ref 70, .int v1, .int v2, .int v3, .int v4, .int v5, .int v6, .int v7, .int v8, .int v9, .int (v7 + (M 71 ((((Int32.ofInt 8) * v2) + v9).toNatClampNeg))), .null, .null] [.int (M 71 ((((Int32.ofInt 8) * v1) + v9).toNatClampNeg)), .int v8] M L Q from ⟨⟨rfl, a_6⟩, ?_⟩)
      obtain ⟨a_7, hP⟩ := hP
      refine wp_seg (pc' := 102) [.iadd, .istore 11, .aload 0, .getfield 64, .iconst 8, .iload 6, .imul, .iload 9, .iadd, .iaload] (by decide +kernel) (show aok 71 0 (((Int32.ofInt 8) * v6) + v9) ∧ Wp E (d + 1) 10 102 [.ref 70, .int v1, .int v2, .int v3, .int v4, .int v5, .int v6, .int v7, .int v8, .int v9, .int (v7 + (M 71 ((((Int32.ofInt 8) * v2) + v9).toNatClampNeg))), .int (v8 + (M 71 ((((Int32.ofInt 8) * v1) + v9).toNatClampNeg))), .null] [.int (M 71 ((((Int32.ofInt 8) * v6) + v9).toNatClampNeg))] M L Q from ⟨⟨rfl, a_7⟩, ?_⟩)
      refine wp_seg (pc' := 109) [.iload 10, .iload 11, .invokestatic 1] (by decide +kernel) (?_ : Wp E (d + 1) 10 109 [.ref 70, .int v1, .int v2, .int v3, .int v4, .int v5, .int v6, .int v7, .int v8, .int v9, .int (v7 + (M 71 ((((Int32.ofInt 8) * v2) + v9).toNatClampNeg))), .int (v8 + (M 71 ((((Int32.ofInt 8) * v1) + v9).toNatClampNeg))), .null] [.int (if (v8 + (M 71 ((((Int32.ofInt 8) * v1) + v9).toNatClampNeg))) < (v7 + (M 71 ((((Int32.ofInt 8) * v2) + v9).toNatClampNeg))) then (v8 + (M 71 ((((Int32.ofInt 8) * v1) + v9).toNatClampNeg))) else (v7 + (M 71 ((((Int32.ofInt 8) * v2) + v9).toNatClampNeg)))), .int (M 71 ((((Int32.ofInt 8) * v6) + v9).toNatClampNeg))] M L Q)
      refine wp_seg (pc' := 112) [.invokestatic 1] (by decide +kernel) (?_ : Wp E (d + 1) 10 112 [.ref 70, .int v1, .int v2, .int v3, .int v4, .int v5, .int v6, .int v7, .int v8, .int v9, .int (v7 + (M 71 ((((Int32.ofInt 8) * v2) + v9).toNatClampNeg))), .int (v8 + (M 71 ((((Int32.ofInt 8) * v1) + v9).toNatClampNeg))), .null] [.int (if (if (v8 + (M 71 ((((Int32.ofInt 8) * v1) + v9).toNatClampNeg))) < (v7 + (M 71 ((((Int32.ofInt 8) * v2) + v9).toNatClampNeg))) then (v8 + (M 71 ((((Int32.ofInt 8) * v1) + v9).toNatClampNeg))) else (v7 + (M 71 ((((Int32.ofInt 8) * v2) + v9).toNatClampNeg)))) < (M 71 ((((Int32.ofInt 8) * v6) + v9).toNatClampNeg)) then (if (v8 + (M 71 ((((Int32.ofInt 8) * v1) + v9).toNatClampNeg))) < (v7 + (M 71 ((((Int32.ofInt 8) * v2) + v9).toNatClampNeg))) then (v8 + (M 71 ((((Int32.ofInt 8) * v1) + v9).toNatClampNeg))) else (v7 + (M 71 ((((Int32.ofInt 8) * v2) + v9).toNatClampNeg)))) else (M 71 ((((Int32.ofInt 8) * v6) + v9).toNatClampNeg)))] M L Q)
      refine wp_seg (pc' := 120) [.istore 12, .iload 5, .iload 12, .iload 4] (by decide +kernel) (?_ : Wp E (d + 1) 10 120 [.ref 70, .int v1, .int v2, .int v3, .int v4, .int v5, .int v6, .int v7, .int v8, .int v9, .int (v7 + (M 71 ((((Int32.ofInt 8) * v2) + v9).toNatClampNeg))), .int (v8 + (M 71 ((((Int32.ofInt 8) * v1) + v9).toNatClampNeg))), .int (if (if (v8 + (M 71 ((((Int32.ofInt 8) * v1) + v9).toNatClampNeg))) < (v7 + (M 71 ((((Int32.ofInt 8) * v2) + v9).toNatClampNeg))) then (v8 + (M 71 ((((Int32.ofInt 8) * v1) + v9).toNatClampNeg))) else (v7 + (M 71 ((((Int32.ofInt 8) * v2) + v9).toNatClampNeg)))) < (M 71 ((((Int32.ofInt 8) * v6) + v9).toNatClampNeg)) then (if (v8 + (M 71 ((((Int32.ofInt 8) * v1) + v9).toNatClampNeg))) < (v7 + (M 71 ((((Int32.ofInt 8) * v2) + v9).toNatClampNeg))) then (v8 + (M 71 ((((Int32.ofInt 8) * v1) + v9).toNatClampNeg))) else (v7 + (M 71 ((((Int32.ofInt 8) * v2) + v9).toNatClampNeg)))) else (M 71 ((((Int32.ofInt 8) * v6) + v9).toNatClampNeg)))] [.int v4, .int (if (if (v8 + (M 71 ((((Int32.ofInt 8) * v1) + v9).toNatClampNeg))) < (v7 + (M 71 ((((Int32.ofInt 8) * v2) + v9).toNatClampNeg))) then (v8 + (M 71 ((((Int32.ofInt 8) * v1) + v9).toNatClampNeg))) else (v7 + (M 71 ((((Int32.ofInt 8) * v2) + v9).toNatClampNeg)))) < (M 71 ((((Int32.ofInt 8) * v6) + v9).toNatClampNeg)) then (if (v8 + (M 71 ((((Int32.ofInt 8) * v1) + v9).toNatClampNeg))) < (v7 + (M 71 ((((Int32.ofInt 8) * v2) + v9).toNatClampNeg))) then (v8 + (M 71 ((((Int32.ofInt 8) * v1) + v9).toNatClampNeg))) else (v7 + (M 71 ((((Int32.ofInt 8) * v2) + v9).toNatClampNeg)))) else (M 71 ((((Int32.ofInt 8) * v6) + v9).toNatClampNeg))), .int v5] M L Q)
      refine wp_callS 8 [.int (if (if (v8 + (M 71 ((((Int32.ofInt 8) * v1) + v9).toNatClampNeg))) < (v7 + (M 71 ((((Int32.ofInt 8) * v2) + v9).toNatClampNeg))) then (v8 + (M 71 ((((Int32.ofInt 8) * v1) + v9).toNatClampNeg))) else (v7 + (M 71 ((((Int32.ofInt 8) * v2) + v9).toNatClampNeg)))) < (M 71 ((((Int32.ofInt 8) * v6) + v9).toNatClampNeg)) then (if (v8 + (M 71 ((((Int32.ofInt 8) * v1) + v9).toNatClampNeg))) < (v7 + (M 71 ((((Int32.ofInt 8) * v2) + v9).toNatClampNeg))) then (v8 + (M 71 ((((Int32.ofInt 8) * v1) + v9).toNatClampNeg))) else (v7 + (M 71 ((((Int32.ofInt 8) * v2) + v9).toNatClampNeg)))) else (M 71 ((((Int32.ofInt 8) * v6) + v9).toNatClampNeg))), .int v4] (i := 38) (by decide +kernel) (by decide +kernel) (by decide +kernel) rfl rfl rfl (rest := [.int v5]) rfl rfl ?_
      refine s_X1_carried M (if (if (v8 + (M 71 ((((Int32.ofInt 8) * v1) + v9).toNatClampNeg))) < (v7 + (M 71 ((((Int32.ofInt 8) * v2) + v9).toNatClampNeg))) then (v8 + (M 71 ((((Int32.ofInt 8) * v1) + v9).toNatClampNeg))) else (v7 + (M 71 ((((Int32.ofInt 8) * v2) + v9).toNatClampNeg)))) < (M 71 ((((Int32.ofInt 8) * v6) + v9).toNatClampNeg)) then (if (v8 + (M 71 ((((Int32.ofInt 8) * v1) + v9).toNatClampNeg))) < (v7 + (M 71 ((((Int32.ofInt 8) * v2) + v9).toNatClampNeg))) then (v8 + (M 71 ((((Int32.ofInt 8) * v1) + v9).toNatClampNeg))) else (v7 + (M 71 ((((Int32.ofInt 8) * v2) + v9).toNatClampNeg)))) else (M 71 ((((Int32.ofInt 8) * v6) + v9).toNatClampNeg))) v4  ?_
      show Wp E (d + 1) 10 123 [.ref 70, .int v1, .int v2, .int v3, .int v4, .int v5, .int v6, .int v7, .int v8, .int v9, .int (v7 + (M 71 ((((Int32.ofInt 8) * v2) + v9).toNatClampNeg))), .int (v8 + (M 71 ((((Int32.ofInt 8) * v1) + v9).toNatClampNeg))), .int (if (if (v8 + (M 71 ((((Int32.ofInt 8) * v1) + v9).toNatClampNeg))) < (v7 + (M 71 ((((Int32.ofInt 8) * v2) + v9).toNatClampNeg))) then (v8 + (M 71 ((((Int32.ofInt 8) * v1) + v9).toNatClampNeg))) else (v7 + (M 71 ((((Int32.ofInt 8) * v2) + v9).toNatClampNeg)))) < (M 71 ((((Int32.ofInt 8) * v6) + v9).toNatClampNeg)) then (if (v8 + (M 71 ((((Int32.ofInt 8) * v1) + v9).toNatClampNeg))) < (v7 + (M 71 ((((Int32.ofInt 8) * v2) + v9).toNatClampNeg))) then (v8 + (M 71 ((((Int32.ofInt 8) * v1) + v9).toNatClampNeg))) else (v7 + (M 71 ((((Int32.ofInt 8) * v2) + v9).toNatClampNeg)))) else (M 71 ((((Int32.ofInt 8) * v6) + v9).toNatClampNeg)))] [.int (f_X1_carried M (if (if (v8 + (M 71 ((((Int32.ofInt 8) * v1) + v9).toNatClampNeg))) < (v7 + (M 71 ((((Int32.ofInt 8) * v2) + v9).toNatClampNeg))) then (v8 + (M 71 ((((Int32.ofInt 8) * v1) + v9).toNatClampNeg))) else (v7 + (M 71 ((((Int32.ofInt 8) * v2) + v9).toNatClampNeg)))) < (M 71 ((((Int32.ofInt 8) * v6) + v9).toNatClampNeg)) then (if (v8 + (M 71 ((((Int32.ofInt 8) * v1) + v9).toNatClampNeg))) < (v7 + (M 71 ((((Int32.ofInt 8) * v2) + v9).toNatClampNeg))) then (v8 + (M 71 ((((Int32.ofInt 8) * v1) + v9).toNatClampNeg))) else (v7 + (M 71 ((((Int32.ofInt 8) * v2) + v9).toNatClampNeg)))) else (M 71 ((((Int32.ofInt 8) * v6) + v9).toNatClampNeg))) v4), .int v5] M L Q
      refine wp_seg (pc' := 48) [.iadd, .istore 5, .iinc 9 1, .goto 0] (by decide +kernel) (?_ : Wp E (d + 1) 10 48 [.ref 70, .int v1, .int v2, .int v3, .int v4, .int (v5 + (f_X1_carried M (if (if (v8 + (M 71 ((((Int32.ofInt 8) * v1) + v9).toNatClampNeg))) < (v7 + (M 71 ((((Int32.ofInt 8) * v2) + v9).toNatClampNeg))) then (v8 + (M 71 ((((Int32.ofInt 8) * v1) + v9).toNatClampNeg))) else (v7 + (M 71 ((((Int32.ofInt 8) * v2) + v9).toNatClampNeg)))) < (M 71 ((((Int32.ofInt 8) * v6) + v9).toNatClampNeg)) then (if (v8 + (M 71 ((((Int32.ofInt 8) * v1) + v9).toNatClampNeg))) < (v7 + (M 71 ((((Int32.ofInt 8) * v2) + v9).toNatClampNeg))) then (v8 + (M 71 ((((Int32.ofInt 8) * v1) + v9).toNatClampNeg))) else (v7 + (M 71 ((((Int32.ofInt 8) * v2) + v9).toNatClampNeg)))) else (M 71 ((((Int32.ofInt 8) * v6) + v9).toNatClampNeg))) v4)), .int v6, .int v7, .int v8, .int (v9 + Int32.ofInt 1), .int (v7 + (M 71 ((((Int32.ofInt 8) * v2) + v9).toNatClampNeg))), .int (v8 + (M 71 ((((Int32.ofInt 8) * v1) + v9).toNatClampNeg))), .int (if (if (v8 + (M 71 ((((Int32.ofInt 8) * v1) + v9).toNatClampNeg))) < (v7 + (M 71 ((((Int32.ofInt 8) * v2) + v9).toNatClampNeg))) then (v8 + (M 71 ((((Int32.ofInt 8) * v1) + v9).toNatClampNeg))) else (v7 + (M 71 ((((Int32.ofInt 8) * v2) + v9).toNatClampNeg)))) < (M 71 ((((Int32.ofInt 8) * v6) + v9).toNatClampNeg)) then (if (v8 + (M 71 ((((Int32.ofInt 8) * v1) + v9).toNatClampNeg))) < (v7 + (M 71 ((((Int32.ofInt 8) * v2) + v9).toNatClampNeg))) then (v8 + (M 71 ((((Int32.ofInt 8) * v1) + v9).toNatClampNeg))) else (v7 + (M 71 ((((Int32.ofInt 8) * v2) + v9).toNatClampNeg)))) else (M 71 ((((Int32.ofInt 8) * v6) + v9).toNatClampNeg)))] [] M L Q)
      refine wp_drop (lo := [.ref 70, .int v1, .int v2, .int v3, .int v4, .int (v5 + (f_X1_carried M (if (if (v8 + (M 71 ((((Int32.ofInt 8) * v1) + v9).toNatClampNeg))) < (v7 + (M 71 ((((Int32.ofInt 8) * v2) + v9).toNatClampNeg))) then (v8 + (M 71 ((((Int32.ofInt 8) * v1) + v9).toNatClampNeg))) else (v7 + (M 71 ((((Int32.ofInt 8) * v2) + v9).toNatClampNeg)))) < (M 71 ((((Int32.ofInt 8) * v6) + v9).toNatClampNeg)) then (if (v8 + (M 71 ((((Int32.ofInt 8) * v1) + v9).toNatClampNeg))) < (v7 + (M 71 ((((Int32.ofInt 8) * v2) + v9).toNatClampNeg))) then (v8 + (M 71 ((((Int32.ofInt 8) * v1) + v9).toNatClampNeg))) else (v7 + (M 71 ((((Int32.ofInt 8) * v2) + v9).toNatClampNeg)))) else (M 71 ((((Int32.ofInt 8) * v6) + v9).toNatClampNeg))) v4)), .int v6, .int v7, .int v8, .int (v9 + Int32.ofInt 1), .null, .null, .null]) ⟨Or.inr rfl, Or.inr rfl, Or.inr rfl, Or.inr rfl, Or.inr rfl, Or.inr rfl, Or.inr rfl, Or.inr rfl, Or.inr rfl, Or.inr rfl, Or.inl rfl, Or.inl rfl, Or.inl rfl, trivial⟩ ?_
      exact ih v1 v2 v3 v4 (v5 + (f_X1_carried M (if (if (v8 + (M 71 ((((Int32.ofInt 8) * v1) + v9).toNatClampNeg))) < (v7 + (M 71 ((((Int32.ofInt 8) * v2) + v9).toNatClampNeg))) then (v8 + (M 71 ((((Int32.ofInt 8) * v1) + v9).toNatClampNeg))) else (v7 + (M 71 ((((Int32.ofInt 8) * v2) + v9).toNatClampNeg)))) < (M 71 ((((Int32.ofInt 8) * v6) + v9).toNatClampNeg)) then (if (v8 + (M 71 ((((Int32.ofInt 8) * v1) + v9).toNatClampNeg))) < (v7 + (M 71 ((((Int32.ofInt 8) * v2) + v9).toNatClampNeg))) then (v8 + (M 71 ((((Int32.ofInt 8) * v1) + v9).toNatClampNeg))) else (v7 + (M 71 ((((Int32.ofInt 8) * v2) + v9).toNatClampNeg)))) else (M 71 ((((Int32.ofInt 8) * v6) + v9).toNatClampNeg))) v4)) v6 v7 v8 (v9 + Int32.ofInt 1) M L hP
def PL_X1_sumWith_6 (K : Int32 → Mem → LMem → Prop)  : Nat → Int32 → Int32 → Int32 → Int32 → Int32 → Int32 → Mem → LMem → Prop
  | 0, _, _, _, _, _, _, _, _ => False
  | n_ + 1, v1, v2, v3, v4, v5, v6, M, L => (((Int32.ofInt 8) ≤ v6 → K v5 M L) ∧ (¬ ((Int32.ofInt 8) ≤ v6) → (vp_in (((Int32.ofInt 8) * v6) + v1) 64 ∧ (vp_in (((Int32.ofInt 8) * v6) + v2) 64 ∧ PL_X1_sumWith_48 K (PL_X1_sumWith_6 K n_) 100000 v1 v2 v3 v4 v5 v6 ((M 71 ((((Int32.ofInt 8) * v6) + v1).toNatClampNeg)) + v3) ((M 71 ((((Int32.ofInt 8) * v6) + v2).toNatClampNeg)) + v3) (Int32.ofInt 0) M L))))
theorem tl_X1_sumWith_6 {E : VE} {d : Nat} {Q : QQ} {K : Int32 → Mem → LMem → Prop}  (hK : ∀ (v : Int32) (M : Mem) (L : LMem), K v M L → Q (some (.int v)) M L)  : ∀ (n_ : Nat) (v1 : Int32) (v2 : Int32) (v3 : Int32) (v4 : Int32) (v5 : Int32) (v6 : Int32) (M : Mem) (L : LMem), PL_X1_sumWith_6 K n_ v1 v2 v3 v4 v5 v6 M L → Wp E (d + 1) 10 6 [.ref 70, .int v1, .int v2, .int v3, .int v4, .int v5, .int v6, .null, .null, .null, .null, .null, .null] [] M L Q := by
  intro n_
  induction n_ with
  | zero => intro v1 v2 v3 v4 v5 v6 M L hP; exact False.elim hP
  | succ n_ ih =>
    intro v1 v2 v3 v4 v5 v6 M L hP
    unfold PL_X1_sumWith_6 at hP
    refine wp_seg (pc' := 10) [.iload 6, .iconst 8] (by decide +kernel) (?_ : Wp E (d + 1) 10 10 [.ref 70, .int v1, .int v2, .int v3, .int v4, .int v5, .int v6, .null, .null, .null, .null, .null, .null] [.int (Int32.ofInt 8), .int v6] M L Q)
    refine wp_icmpge (off := 128) 138 (by decide +kernel) (by decide) (fun c_1 => ?_) (fun c_1 => ?_)
    · have hP := hP.1 c_1
      refine wp_seg (pc' := 140) [.iload 5] (by decide +kernel) (?_ : Wp E (d + 1) 10 140 [.ref 70, .int v1, .int v2, .int v3, .int v4, .int v5, .int v6, .null, .null, .null, .null, .null, .null] [.int v5] M L Q)
      exact wp_iret (by decide +kernel) rfl (hK _ _ _ hP)
    · have hP := hP.2 c_1
      obtain ⟨a_2, hP⟩ := hP
      refine wp_seg (pc' := 25) [.aload 0, .getfield 64, .iconst 8, .iload 6, .imul, .iload 1, .iadd, .iaload] (by decide +kernel) (show aok 71 0 (((Int32.ofInt 8) * v6) + v1) ∧ Wp E (d + 1) 10 25 [.ref 70, .int v1, .int v2, .int v3, .int v4, .int v5, .int v6, .null, .null, .null, .null, .null, .null] [.int (M 71 ((((Int32.ofInt 8) * v6) + v1).toNatClampNeg))] M L Q from ⟨⟨rfl, a_2⟩, ?_⟩)
      obtain ⟨a_3, hP⟩ := hP
      refine wp_seg (pc' := 41) [.iload 3, .iadd, .istore 7, .aload 0, .getfield 64, .iconst 8, .iload 6, .imul, .iload 2, .iadd, .iaload] (by decide +kernel) (show aok 71 0 (((Int32.ofInt 8) * v6) + v2) ∧ Wp E (d + 1) 10 41 [.ref 70, .int v1, .int v2, .int v3, .int v4, .int v5, .int v6, .int ((M 71 ((((Int32.ofInt 8) * v6) + v1).toNatClampNeg)) + v3), .null, .null, .null, .null, .null] [.int (M 71 ((((Int32.ofInt 8) * v6) + v2).toNatClampNeg))] M L Q from ⟨⟨rfl, a_3⟩, ?_⟩)
      refine wp_seg (pc' := 48) [.iload 3, .iadd, .istore 8, .iconst 0, .istore 9] (by decide +kernel) (?_ : Wp E (d + 1) 10 48 [.ref 70, .int v1, .int v2, .int v3, .int v4, .int v5, .int v6, .int ((M 71 ((((Int32.ofInt 8) * v6) + v1).toNatClampNeg)) + v3), .int ((M 71 ((((Int32.ofInt 8) * v6) + v2).toNatClampNeg)) + v3), .int (Int32.ofInt 0), .null, .null, .null] [] M L Q)
      exact tl_X1_sumWith_48 hK (fun v1 v2 v3 v4 v5 v6 M L hP => ih v1 v2 v3 v4 v5 v6 M L hP) 100000 v1 v2 v3 v4 v5 v6 ((M 71 ((((Int32.ofInt 8) * v6) + v1).toNatClampNeg)) + v3) ((M 71 ((((Int32.ofInt 8) * v6) + v2).toNatClampNeg)) + v3) (Int32.ofInt 0) M L hP
def P_X1_sumWith (x1 : Int32) (x2 : Int32) (x3 : Int32) (x4 : Int32) (M : Mem) (L : LMem) (K : Int32 → Mem → LMem → Prop) : Prop := PL_X1_sumWith_6 K 100000 x1 x2 x3 x4 (Int32.ofInt 0) (Int32.ofInt 0) M L
theorem t_X1_sumWith {E : VE} {d : Nat} {Q : QQ} {K : Int32 → Mem → LMem → Prop} {x1 : Int32} {x2 : Int32} {x3 : Int32} {x4 : Int32} {M : Mem} {L : LMem} (hP : P_X1_sumWith x1 x2 x3 x4 M L K) (hK : ∀ (v : Int32) (M : Mem) (L : LMem), K v M L → Q (some (.int v)) M L) : Wp E (d + 1) 10 0 [.ref 70, .int x1, .int x2, .int x3, .int x4, .null, .null, .null, .null, .null, .null, .null, .null] [] M L Q := by
  unfold P_X1_sumWith at hP
  refine wp_seg (pc' := 6) [.iconst 0, .istore 5, .iconst 0, .istore 6] (by decide +kernel) (?_ : Wp E (d + 1) 10 6 [.ref 70, .int x1, .int x2, .int x3, .int x4, .int (Int32.ofInt 0), .int (Int32.ofInt 0), .null, .null, .null, .null, .null, .null] [] M L Q)
  exact tl_X1_sumWith_6 hK 100000 x1 x2 x3 x4 (Int32.ofInt 0) (Int32.ofInt 0) M L hP

def PL_X1_lacksOneOf_2 (K : Int32 → Mem → LMem → Prop)  : Nat → Int32 → Mem → LMem → Prop
  | 0, _, _, _ => False
  | n_ + 1, v2, M, L => (((Int32.ofNat 64) ≤ v2 → K (Int32.ofInt 0) M L) ∧ (¬ ((Int32.ofNat 64) ≤ v2) → (vp_in v2 64 ∧ (((M 73 v2.toNatClampNeg) = (Int32.ofInt 99) → (((M 71 v2.toNatClampNeg) = (Int32.ofInt 99) → PL_X1_lacksOneOf_2 K n_ (v2 + Int32.ofInt 1) M L) ∧ (¬ ((M 71 v2.toNatClampNeg) = (Int32.ofInt 99)) → K (Int32.ofInt 1) M L))) ∧ (¬ ((M 73 v2.toNatClampNeg) = (Int32.ofInt 99)) → PL_X1_lacksOneOf_2 K n_ (v2 + Int32.ofInt 1) M L)))))
theorem tl_X1_lacksOneOf_2 {E : VE} {d : Nat} {Q : QQ} {K : Int32 → Mem → LMem → Prop}  (hK : ∀ (v : Int32) (M : Mem) (L : LMem), K v M L → Q (some (.int v)) M L)  : ∀ (n_ : Nat) (v2 : Int32) (M : Mem) (L : LMem), PL_X1_lacksOneOf_2 K n_ v2 M L → Wp E d 11 2 [.ref 72, .ref 70, .int v2] [] M L Q := by
  intro n_
  induction n_ with
  | zero => intro v2 M L hP; exact False.elim hP
  | succ n_ ih =>
    intro v2 M L hP
    unfold PL_X1_lacksOneOf_2 at hP
    refine wp_seg (pc' := 8) [.iload 2, .aload 0, .getfield 64, .arraylength] (by decide +kernel) (?_ : Wp E d 11 8 [.ref 72, .ref 70, .int v2] [.int (Int32.ofNat 64), .int v2] M L Q)
    refine wp_icmpge (off := 33) 41 (by decide +kernel) (by decide) (fun c_1 => ?_) (fun c_1 => ?_)
    · have hP := hP.1 c_1
      refine wp_seg (pc' := 42) [.iconst 0] (by decide +kernel) (?_ : Wp E d 11 42 [.ref 72, .ref 70, .int v2] [.int (Int32.ofInt 0)] M L Q)
      exact wp_zret (by decide +kernel) rfl (by decide) (hK _ _ _ hP)
    · have hP := hP.2 c_1
      obtain ⟨a_2, hP⟩ := hP
      refine wp_seg (pc' := 17) [.aload 0, .getfield 64, .iload 2, .iaload] (by decide +kernel) (show aok 73 0 v2 ∧ Wp E d 11 17 [.ref 72, .ref 70, .int v2] [.int (M 73 v2.toNatClampNeg)] M L Q from ⟨⟨rfl, a_2⟩, ?_⟩)
      refine wp_seg (pc' := 19) [.iconst 99] (by decide +kernel) (?_ : Wp E d 11 19 [.ref 72, .ref 70, .int v2] [.int (Int32.ofInt 99), .int (M 73 v2.toNatClampNeg)] M L Q)
      refine wp_icmpne (off := 16) 35 (by decide +kernel) (by decide) (fun c_3 => ?_) (fun c_3 => ?_)
      · have hP := hP.2 c_3
        refine wp_seg (pc' := 2) [.iinc 2 1, .goto 0] (by decide +kernel) (?_ : Wp E d 11 2 [.ref 72, .ref 70, .int (v2 + Int32.ofInt 1)] [] M L Q)
        exact ih (v2 + Int32.ofInt 1) M L hP
      · have hP := hP.1 c_3
        refine wp_seg (pc' := 28) [.aload 1, .getfield 64, .iload 2, .iaload] (by decide +kernel) (show aok 71 0 v2 ∧ Wp E d 11 28 [.ref 72, .ref 70, .int v2] [.int (M 71 v2.toNatClampNeg)] M L Q from ⟨⟨rfl, a_2⟩, ?_⟩)
        refine wp_seg (pc' := 30) [.iconst 99] (by decide +kernel) (?_ : Wp E d 11 30 [.ref 72, .ref 70, .int v2] [.int (Int32.ofInt 99), .int (M 71 v2.toNatClampNeg)] M L Q)
        refine wp_icmpeq (off := 5) 35 (by decide +kernel) (by decide) (fun c_4 => ?_) (fun c_4 => ?_)
        · have hP := hP.1 c_4
          refine wp_seg (pc' := 2) [.iinc 2 1, .goto 0] (by decide +kernel) (?_ : Wp E d 11 2 [.ref 72, .ref 70, .int (v2 + Int32.ofInt 1)] [] M L Q)
          exact ih (v2 + Int32.ofInt 1) M L hP
        · have hP := hP.2 c_4
          refine wp_seg (pc' := 34) [.iconst 1] (by decide +kernel) (?_ : Wp E d 11 34 [.ref 72, .ref 70, .int v2] [.int (Int32.ofInt 1)] M L Q)
          exact wp_zret (by decide +kernel) rfl (by decide) (hK _ _ _ hP)
def P_X1_lacksOneOf (M : Mem) (L : LMem) (K : Int32 → Mem → LMem → Prop) : Prop := PL_X1_lacksOneOf_2 K 100000 (Int32.ofInt 0) M L
theorem t_X1_lacksOneOf {E : VE} {d : Nat} {Q : QQ} {K : Int32 → Mem → LMem → Prop} {M : Mem} {L : LMem} (hP : P_X1_lacksOneOf M L K) (hK : ∀ (v : Int32) (M : Mem) (L : LMem), K v M L → Q (some (.int v)) M L) : Wp E d 11 0 [.ref 72, .ref 70, .null] [] M L Q := by
  unfold P_X1_lacksOneOf at hP
  refine wp_seg (pc' := 2) [.iconst 0, .istore 2] (by decide +kernel) (?_ : Wp E d 11 2 [.ref 72, .ref 70, .int (Int32.ofInt 0)] [] M L Q)
  exact tl_X1_lacksOneOf_2 hK 100000 (Int32.ofInt 0) M L hP
end
section
def PL_X7_leastFrom_67 (K : Int32 → Mem → LMem → Prop) (REC : Int32 → Int32 → Int32 → Int32 → Int32 → Mem → LMem → (Int32 → Mem → LMem → Prop) → Prop)  : Nat → Int32 → Int32 → Int32 → Int32 → Int32 → Int32 → Int32 → Mem → LMem → Prop
  | 0, _, _, _, _, _, _, _, _, _ => False
  | n_ + 1, v1, v2, v3, v4, v5, v6, v7, M, L => (vp_in v1 5 ∧ (((M 64 v1.toNatClampNeg) ≤ v7 → K v6 M L) ∧ (¬ ((M 64 v1.toNatClampNeg) ≤ v7) → ((v6 = 0 → (aok (58 + 1 + v1.toNatClampNeg) 0 (v7 - (Int32.ofInt 1)) ∧ ((((f_X9_takenOf M v2 v3 (M 57 2)) &&& ((Int32.ofInt 1) <<< ((M (58 + 1 + v1.toNatClampNeg) ((v7 - (Int32.ofInt 1)).toNatClampNeg)) &&& 31))) = 0 → (aok (58 + 1 + v1.toNatClampNeg) 0 v7 ∧ REC (v1 + (Int32.ofInt 1)) (v2 ||| ((Int32.ofInt 1) <<< ((M (58 + 1 + v1.toNatClampNeg) ((v7 - (Int32.ofInt 1)).toNatClampNeg)) &&& 31))) (v3 ||| (v2 &&& ((Int32.ofInt 1) <<< ((M (58 + 1 + v1.toNatClampNeg) ((v7 - (Int32.ofInt 1)).toNatClampNeg)) &&& 31)))) (v4 ||| ((Int32.ofInt 1) <<< ((M (58 + 1 + v1.toNatClampNeg) v7.toNatClampNeg) &&& 31))) (((Int32.ofInt 10) * v5) + v7) M L (fun v_11 M_12 L_13 => PL_X7_leastFrom_67 K REC n_ v1 (v2 ||| ((Int32.ofInt 1) <<< ((M (58 + 1 + v1.toNatClampNeg) ((v7 - (Int32.ofInt 1)).toNatClampNeg)) &&& 31))) (v3 ||| (v2 &&& ((Int32.ofInt 1) <<< ((M (58 + 1 + v1.toNatClampNeg) ((v7 - (Int32.ofInt 1)).toNatClampNeg)) &&& 31)))) v4 v5 v_11 (v7 + Int32.ofInt 1) M_12 L_13))) ∧ (¬ (((f_X9_takenOf M v2 v3 (M 57 2)) &&& ((Int32.ofInt 1) <<< ((M (58 + 1 + v1.toNatClampNeg) ((v7 - (Int32.ofInt 1)).toNatClampNeg)) &&& 31))) = 0) → K (Int32.ofInt 0) M L)))) ∧ (¬ (v6 = 0) → K v6 M L)))))
theorem tl_X7_leastFrom_67 {E : VE} {d : Nat} {Q : QQ} {K : Int32 → Mem → LMem → Prop} {REC : Int32 → Int32 → Int32 → Int32 → Int32 → Mem → LMem → (Int32 → Mem → LMem → Prop) → Prop}  (hK : ∀ (v : Int32) (M : Mem) (L : LMem), K v M L → Q (some (.int v)) M L)  (hR : ∀ (x2 x3 x4 x5 x6 : Int32) (M : Mem) (L : LMem) (K' : Int32 → Mem → LMem → Prop), REC x2 x3 x4 x5 x6 M L K' → ∀ Q' : QQ, (∀ (v : Int32) (M : Mem) (L : LMem), K' v M L → Q' (some (.int v)) M L) → Wp E (d + 1) 50 0 [.ref 57, .int x2, .int x3, .int x4, .int x5, .int x6, .null, .null, .null, .null] [] M L Q') : ∀ (n_ : Nat) (v1 : Int32) (v2 : Int32) (v3 : Int32) (v4 : Int32) (v5 : Int32) (v6 : Int32) (v7 : Int32) (M : Mem) (L : LMem), PL_X7_leastFrom_67 K REC n_ v1 v2 v3 v4 v5 v6 v7 M L → Wp E (d + 2) 50 67 [.ref 57, .int v1, .int v2, .int v3, .int v4, .int v5, .int v6, .int v7, .null, .null] [] M L Q := by
  intro n_
  induction n_ with
  | zero => intro v1 v2 v3 v4 v5 v6 v7 M L hP; exact False.elim hP
  | succ n_ ih =>
    intro v1 v2 v3 v4 v5 v6 v7 M L hP
    unfold PL_X7_leastFrom_67 at hP
    obtain ⟨a_5, hP⟩ := hP
    refine wp_seg (pc' := 75) [.iload 7, .aload 0, .getfield 449, .iload 1, .iaload] (by decide +kernel) (show aok 64 0 v1 ∧ Wp E (d + 2) 50 75 [.ref 57, .int v1, .int v2, .int v3, .int v4, .int v5, .int v6, .int v7, .null, .null] [.int (M 64 v1.toNatClampNeg), .int v7] M L Q from ⟨⟨rfl, a_5⟩, ?_⟩)
    refine wp_icmpge (off := 95) 170 (by decide +kernel) (by decide) (fun c_6 => ?_) (fun c_6 => ?_)
    · have hP := hP.1 c_6
      refine wp_seg (pc' := 172) [.iload 6] (by decide +kernel) (?_ : Wp E (d + 2) 50 172 [.ref 57, .int v1, .int v2, .int v3, .int v4, .int v5, .int v6, .int v7, .null, .null] [.int v6] M L Q)
      exact wp_iret (by decide +kernel) rfl (hK _ _ _ hP)
    · have hP := hP.2 c_6
      refine wp_seg (pc' := 80) [.iload 6] (by decide +kernel) (?_ : Wp E (d + 2) 50 80 [.ref 57, .int v1, .int v2, .int v3, .int v4, .int v5, .int v6, .int v7, .null, .null] [.int v6] M L Q)
      refine wp_ifne (off := 90) 170 (by decide +kernel) (by decide) (fun c_7 => ?_) (fun c_7 => ?_)
      · have hP := hP.2 c_7
        refine wp_seg (pc' := 172) [.iload 6] (by decide +kernel) (?_ : Wp E (d + 2) 50 172 [.ref 57, .int v1, .int v2, .int v3, .int v4, .int v5, .int v6, .int v7, .null, .null] [.int v6] M L Q)
        exact wp_iret (by decide +kernel) rfl (hK _ _ _ hP)
      · have hP := hP.1 c_7
        refine wp_seg (pc' := 90) [.iconst 1, .aload 0, .getfield 448, .iload 1, .aaload] (by decide +kernel) (show aok 58 4 v1 ∧ Wp E (d + 2) 50 90 [.ref 57, .int v1, .int v2, .int v3, .int v4, .int v5, .int v6, .int v7, .null, .null] [.ref (58 + 1 + v1.toNatClampNeg), .int (Int32.ofInt 1)] M L Q from ⟨⟨rfl, a_5⟩, ?_⟩)
        obtain ⟨a_8, hP⟩ := hP
        refine wp_seg (pc' := 95) [.iload 7, .iconst 1, .isub, .iaload] (by decide +kernel) (show aok (58 + 1 + v1.toNatClampNeg) 0 (v7 - (Int32.ofInt 1)) ∧ Wp E (d + 2) 50 95 [.ref 57, .int v1, .int v2, .int v3, .int v4, .int v5, .int v6, .int v7, .null, .null] [.int (M (58 + 1 + v1.toNatClampNeg) ((v7 - (Int32.ofInt 1)).toNatClampNeg)), .int (Int32.ofInt 1)] M L Q from ⟨a_8, ?_⟩)
        refine wp_seg (pc' := 104) [.ishl, .istore 8, .iload 2, .iload 3, .aload 0, .getfield 450] (by decide +kernel) (?_ : Wp E (d + 2) 50 104 [.ref 57, .int v1, .int v2, .int v3, .int v4, .int v5, .int v6, .int v7, .int ((Int32.ofInt 1) <<< ((M (58 + 1 + v1.toNatClampNeg) ((v7 - (Int32.ofInt 1)).toNatClampNeg)) &&& 31)), .null] [.int (M 57 2), .int v3, .int v2] M L Q)
        refine wp_callN 86 [.int v2, .int v3, .int (M 57 2)] (i := 74) (by decide +kernel) (by decide +kernel) (by decide +kernel) (by decide +kernel) rfl rfl rfl (rest := []) rfl rfl ?_
        refine s_X9_takenOf M v2 v3 (M 57 2)  ?_
        show Wp E (d + 2) 50 107 [.ref 57, .int v1, .int v2, .int v3, .int v4, .int v5, .int v6, .int v7, .int ((Int32.ofInt 1) <<< ((M (58 + 1 + v1.toNatClampNeg) ((v7 - (Int32.ofInt 1)).toNatClampNeg)) &&& 31)), .null] [.int (f_X9_takenOf M v2 v3 (M 57 2))] M L Q
        refine wp_seg (pc' := 110) [.iload 8, .iand] (by decide +kernel) (?_ : Wp E (d + 2) 50 110 [.ref 57, .int v1, .int v2, .int v3, .int v4, .int v5, .int v6, .int v7, .int ((Int32.ofInt 1) <<< ((M (58 + 1 + v1.toNatClampNeg) ((v7 - (Int32.ofInt 1)).toNatClampNeg)) &&& 31)), .null] [.int ((f_X9_takenOf M v2 v3 (M 57 2)) &&& ((Int32.ofInt 1) <<< ((M (58 + 1 + v1.toNatClampNeg) ((v7 - (Int32.ofInt 1)).toNatClampNeg)) &&& 31)))] M L Q)
        refine wp_ifeq (off := 5) 115 (by decide +kernel) (by decide) (fun c_9 => ?_) (fun c_9 => ?_)
        · have hP := hP.1 c_9
          refine wp_seg (pc' := 134) [.iload 3, .iload 2, .iload 8, .iand, .ior, .istore 3, .iload 2, .iload 8, .ior, .istore 2, .iconst 1, .aload 0, .getfield 448, .iload 1, .aaload] (by decide +kernel) (show aok 58 4 v1 ∧ Wp E (d + 2) 50 134 [.ref 57, .int v1, .int (v2 ||| ((Int32.ofInt 1) <<< ((M (58 + 1 + v1.toNatClampNeg) ((v7 - (Int32.ofInt 1)).toNatClampNeg)) &&& 31))), .int (v3 ||| (v2 &&& ((Int32.ofInt 1) <<< ((M (58 + 1 + v1.toNatClampNeg) ((v7 - (Int32.ofInt 1)).toNatClampNeg)) &&& 31)))), .int v4, .int v5, .int v6, .int v7, .int ((Int32.ofInt 1) <<< ((M (58 + 1 + v1.toNatClampNeg) ((v7 - (Int32.ofInt 1)).toNatClampNeg)) &&& 31)), .null] [.ref (58 + 1 + v1.toNatClampNeg), .int (Int32.ofInt 1)] M L Q from ⟨⟨rfl, a_5⟩, ?_⟩)
          obtain ⟨a_10, hP⟩ := hP
          refine wp_seg (pc' := 137) [.iload 7, .iaload] (by decide +kernel) (show aok (58 + 1 + v1.toNatClampNeg) 0 v7 ∧ Wp E (d + 2) 50 137 [.ref 57, .int v1, .int (v2 ||| ((Int32.ofInt 1) <<< ((M (58 + 1 + v1.toNatClampNeg) ((v7 - (Int32.ofInt 1)).toNatClampNeg)) &&& 31))), .int (v3 ||| (v2 &&& ((Int32.ofInt 1) <<< ((M (58 + 1 + v1.toNatClampNeg) ((v7 - (Int32.ofInt 1)).toNatClampNeg)) &&& 31)))), .int v4, .int v5, .int v6, .int v7, .int ((Int32.ofInt 1) <<< ((M (58 + 1 + v1.toNatClampNeg) ((v7 - (Int32.ofInt 1)).toNatClampNeg)) &&& 31)), .null] [.int (M (58 + 1 + v1.toNatClampNeg) v7.toNatClampNeg), .int (Int32.ofInt 1)] M L Q from ⟨a_10, ?_⟩)
          refine wp_seg (pc' := 159) [.ishl, .istore 9, .aload 0, .iload 1, .iconst 1, .iadd, .iload 2, .iload 3, .iload 4, .iload 9, .ior, .iconst 10, .iload 5, .imul, .iload 7, .iadd] (by decide +kernel) (?_ : Wp E (d + 2) 50 159 [.ref 57, .int v1, .int (v2 ||| ((Int32.ofInt 1) <<< ((M (58 + 1 + v1.toNatClampNeg) ((v7 - (Int32.ofInt 1)).toNatClampNeg)) &&& 31))), .int (v3 ||| (v2 &&& ((Int32.ofInt 1) <<< ((M (58 + 1 + v1.toNatClampNeg) ((v7 - (Int32.ofInt 1)).toNatClampNeg)) &&& 31)))), .int v4, .int v5, .int v6, .int v7, .int ((Int32.ofInt 1) <<< ((M (58 + 1 + v1.toNatClampNeg) ((v7 - (Int32.ofInt 1)).toNatClampNeg)) &&& 31)), .int ((Int32.ofInt 1) <<< ((M (58 + 1 + v1.toNatClampNeg) v7.toNatClampNeg) &&& 31))] [.int (((Int32.ofInt 10) * v5) + v7), .int (v4 ||| ((Int32.ofInt 1) <<< ((M (58 + 1 + v1.toNatClampNeg) v7.toNatClampNeg) &&& 31))), .int (v3 ||| (v2 &&& ((Int32.ofInt 1) <<< ((M (58 + 1 + v1.toNatClampNeg) ((v7 - (Int32.ofInt 1)).toNatClampNeg)) &&& 31)))), .int (v2 ||| ((Int32.ofInt 1) <<< ((M (58 + 1 + v1.toNatClampNeg) ((v7 - (Int32.ofInt 1)).toNatClampNeg)) &&& 31))), .int (v1 + (Int32.ofInt 1)), .ref 57] M L Q)
          refine wp_callS 50 [.ref 57, .int (v1 + (Int32.ofInt 1)), .int (v2 ||| ((Int32.ofInt 1) <<< ((M (58 + 1 + v1.toNatClampNeg) ((v7 - (Int32.ofInt 1)).toNatClampNeg)) &&& 31))), .int (v3 ||| (v2 &&& ((Int32.ofInt 1) <<< ((M (58 + 1 + v1.toNatClampNeg) ((v7 - (Int32.ofInt 1)).toNatClampNeg)) &&& 31)))), .int (v4 ||| ((Int32.ofInt 1) <<< ((M (58 + 1 + v1.toNatClampNeg) v7.toNatClampNeg) &&& 31))), .int (((Int32.ofInt 10) * v5) + v7)] (i := 70) (by decide +kernel) (by decide +kernel) (by decide +kernel) rfl rfl rfl (rest := []) rfl rfl ?_
          refine hR _ _ _ _ _ _ _ _ hP _ (fun v_11 M_12 L_13 hP => ?_)
          show Wp E (d + 2) 50 162 [.ref 57, .int v1, .int (v2 ||| ((Int32.ofInt 1) <<< ((M (58 + 1 + v1.toNatClampNeg) ((v7 - (Int32.ofInt 1)).toNatClampNeg)) &&& 31))), .int (v3 ||| (v2 &&& ((Int32.ofInt 1) <<< ((M (58 + 1 + v1.toNatClampNeg) ((v7 - (Int32.ofInt 1)).toNatClampNeg)) &&& 31)))), .int v4, .int v5, .int v6, .int v7, .int ((Int32.ofInt 1) <<< ((M (58 + 1 + v1.toNatClampNeg) ((v7 - (Int32.ofInt 1)).toNatClampNeg)) &&& 31)), .int ((Int32.ofInt 1) <<< ((M (58 + 1 + v1.toNatClampNeg) v7.toNatClampNeg) &&& 31))] [.int v_11] M_12 L_13 Q
          refine wp_seg (pc' := 67) [.istore 6, .iinc 7 1, .goto 0] (by decide +kernel) (?_ : Wp E (d + 2) 50 67 [.ref 57, .int v1, .int (v2 ||| ((Int32.ofInt 1) <<< ((M (58 + 1 + v1.toNatClampNeg) ((v7 - (Int32.ofInt 1)).toNatClampNeg)) &&& 31))), .int (v3 ||| (v2 &&& ((Int32.ofInt 1) <<< ((M (58 + 1 + v1.toNatClampNeg) ((v7 - (Int32.ofInt 1)).toNatClampNeg)) &&& 31)))), .int v4, .int v5, .int v_11, .int (v7 + Int32.ofInt 1), .int ((Int32.ofInt 1) <<< ((M (58 + 1 + v1.toNatClampNeg) ((v7 - (Int32.ofInt 1)).toNatClampNeg)) &&& 31)), .int ((Int32.ofInt 1) <<< ((M (58 + 1 + v1.toNatClampNeg) v7.toNatClampNeg) &&& 31))] [] M_12 L_13 Q)
          refine wp_drop (lo := [.ref 57, .int v1, .int (v2 ||| ((Int32.ofInt 1) <<< ((M (58 + 1 + v1.toNatClampNeg) ((v7 - (Int32.ofInt 1)).toNatClampNeg)) &&& 31))), .int (v3 ||| (v2 &&& ((Int32.ofInt 1) <<< ((M (58 + 1 + v1.toNatClampNeg) ((v7 - (Int32.ofInt 1)).toNatClampNeg)) &&& 31)))), .int v4, .int v5, .int v_11, .int (v7 + Int32.ofInt 1), .null, .null]) ⟨Or.inr rfl, Or.inr rfl, Or.inr rfl, Or.inr rfl, Or.inr rfl, Or.inr rfl, Or.inr rfl, Or.inr rfl, Or.inl rfl, Or.inl rfl, trivial⟩ ?_
          exact ih v1 (v2 ||| ((Int32.ofInt 1) <<< ((M (58 + 1 + v1.toNatClampNeg) ((v7 - (Int32.ofInt 1)).toNatClampNeg)) &&& 31))) (v3 ||| (v2 &&& ((Int32.ofInt 1) <<< ((M (58 + 1 + v1.toNatClampNeg) ((v7 - (Int32.ofInt 1)).toNatClampNeg)) &&& 31)))) v4 v5 v_11 (v7 + Int32.ofInt 1) M_12 L_13 hP
        · have hP := hP.2 c_9
          refine wp_seg (pc' := 114) [.iconst 0] (by decide +kernel) (?_ : Wp E (d + 2) 50 114 [.ref 57, .int v1, .int v2, .int v3, .int v4, .int v5, .int v6, .int v7, .int ((Int32.ofInt 1) <<< ((M (58 + 1 + v1.toNatClampNeg) ((v7 - (Int32.ofInt 1)).toNatClampNeg)) &&& 31)), .null] [.int (Int32.ofInt 0)] M L Q)
          exact wp_iret (by decide +kernel) rfl (hK _ _ _ hP)
def PB_X7_leastFrom (REC : Int32 → Int32 → Int32 → Int32 → Int32 → Mem → LMem → (Int32 → Mem → LMem → Prop) → Prop) (x2 : Int32) (x3 : Int32) (x4 : Int32) (x5 : Int32) (x6 : Int32) (M : Mem) (L : LMem) (K : Int32 → Mem → LMem → Prop) : Prop := ((x2 < (Int32.ofInt 5) → REC (x2 + (Int32.ofInt 1)) x3 x4 x5 ((Int32.ofInt 10) * x6) M L (fun v_2 M_3 L_4 => PL_X7_leastFrom_67 K REC 100000 x2 x3 x4 x5 x6 v_2 (Int32.ofInt 1) M_3 L_4)) ∧ (¬ (x2 < (Int32.ofInt 5)) → ((x5 = 0 → K (Int32.ofInt 0) M L) ∧ (¬ (x5 = 0) → (((x5 &&& ((f_X9_takenOf M x3 x4 (M 57 2)) ^^^ (Int32.ofInt (-1)))) = 0 → K x6 M L) ∧ (¬ ((x5 &&& ((f_X9_takenOf M x3 x4 (M 57 2)) ^^^ (Int32.ofInt (-1)))) = 0) → K (Int32.ofInt 0) M L))))))
def P_X7_leastFrom : Nat → Int32 → Int32 → Int32 → Int32 → Int32 → Mem → LMem → (Int32 → Mem → LMem → Prop) → Prop
  | 0 => fun _ _ _ _ _ _ _ _ => False
  | r_ + 1 => fun x2 x3 x4 x5 x6 M L K => PB_X7_leastFrom (P_X7_leastFrom r_) x2 x3 x4 x5 x6 M L K
theorem tb_X7_leastFrom {E : VE} {d : Nat} {Q : QQ} {K : Int32 → Mem → LMem → Prop} {REC : Int32 → Int32 → Int32 → Int32 → Int32 → Mem → LMem → (Int32 → Mem → LMem → Prop) → Prop} {x2 : Int32} {x3 : Int32} {x4 : Int32} {x5 : Int32} {x6 : Int32} {M : Mem} {L : LMem} (hP : PB_X7_leastFrom REC x2 x3 x4 x5 x6 M L K) (hK : ∀ (v : Int32) (M : Mem) (L : LMem), K v M L → Q (some (.int v)) M L) (hR : ∀ (x2 x3 x4 x5 x6 : Int32) (M : Mem) (L : LMem) (K' : Int32 → Mem → LMem → Prop), REC x2 x3 x4 x5 x6 M L K' → ∀ Q' : QQ, (∀ (v : Int32) (M : Mem) (L : LMem), K' v M L → Q' (some (.int v)) M L) → Wp E (d + 1) 50 0 [.ref 57, .int x2, .int x3, .int x4, .int x5, .int x6, .null, .null, .null, .null] [] M L Q') : Wp E (d + 2) 50 0 [.ref 57, .int x2, .int x3, .int x4, .int x5, .int x6, .null, .null, .null, .null] [] M L Q := by
  unfold PB_X7_leastFrom at hP
  refine wp_seg (pc' := 2) [.iload 1, .iconst 5] (by decide +kernel) (?_ : Wp E (d + 2) 50 2 [.ref 57, .int x2, .int x3, .int x4, .int x5, .int x6, .null, .null, .null, .null] [.int (Int32.ofInt 5), .int x2] M L Q)
  refine wp_icmplt (off := 44) 46 (by decide +kernel) (by decide) (fun c_1 => ?_) (fun c_1 => ?_)
  · have hP := hP.1 c_1
    refine wp_seg (pc' := 59) [.aload 0, .iload 1, .iconst 1, .iadd, .iload 2, .iload 3, .iload 4, .iconst 10, .iload 5, .imul] (by decide +kernel) (?_ : Wp E (d + 2) 50 59 [.ref 57, .int x2, .int x3, .int x4, .int x5, .int x6, .null, .null, .null, .null] [.int ((Int32.ofInt 10) * x6), .int x5, .int x4, .int x3, .int (x2 + (Int32.ofInt 1)), .ref 57] M L Q)
    refine wp_callS 50 [.ref 57, .int (x2 + (Int32.ofInt 1)), .int x3, .int x4, .int x5, .int ((Int32.ofInt 10) * x6)] (i := 70) (by decide +kernel) (by decide +kernel) (by decide +kernel) rfl rfl rfl (rest := []) rfl rfl ?_
    refine hR _ _ _ _ _ _ _ _ hP _ (fun v_2 M_3 L_4 hP => ?_)
    show Wp E (d + 2) 50 62 [.ref 57, .int x2, .int x3, .int x4, .int x5, .int x6, .null, .null, .null, .null] [.int v_2] M_3 L_4 Q
    refine wp_seg (pc' := 67) [.istore 6, .iconst 1, .istore 7] (by decide +kernel) (?_ : Wp E (d + 2) 50 67 [.ref 57, .int x2, .int x3, .int x4, .int x5, .int x6, .int v_2, .int (Int32.ofInt 1), .null, .null] [] M_3 L_4 Q)
    exact tl_X7_leastFrom_67 hK hR 100000 x2 x3 x4 x5 x6 v_2 (Int32.ofInt 1) M_3 L_4 hP
  · have hP := hP.2 c_1
    refine wp_seg (pc' := 7) [.iload 4] (by decide +kernel) (?_ : Wp E (d + 2) 50 7 [.ref 57, .int x2, .int x3, .int x4, .int x5, .int x6, .null, .null, .null, .null] [.int x5] M L Q)
    refine wp_ifeq (off := 24) 31 (by decide +kernel) (by decide) (fun c_14 => ?_) (fun c_14 => ?_)
    · have hP := hP.1 c_14
      refine wp_seg (pc' := 36) [.iconst 0, .istore 6, .iload 6] (by decide +kernel) (?_ : Wp E (d + 2) 50 36 [.ref 57, .int x2, .int x3, .int x4, .int x5, .int x6, .int (Int32.ofInt 0), .null, .null, .null] [.int (Int32.ofInt 0)] M L Q)
      refine wp_ifeq (off := 8) 44 (by decide +kernel) (by decide) (fun c_15 => ?_) (fun c_15 => ?_)
      · skip
        refine wp_seg (pc' := 45) [.iconst 0] (by decide +kernel) (?_ : Wp E (d + 2) 50 45 [.ref 57, .int x2, .int x3, .int x4, .int x5, .int x6, .int (Int32.ofInt 0), .null, .null, .null] [.int (Int32.ofInt 0)] M L Q)
        exact wp_iret (by decide +kernel) rfl (hK _ _ _ hP)
      · exact absurd (by decide) c_15
    · have hP := hP.2 c_14
      refine wp_seg (pc' := 18) [.iload 4, .iload 2, .iload 3, .aload 0, .getfield 450] (by decide +kernel) (?_ : Wp E (d + 2) 50 18 [.ref 57, .int x2, .int x3, .int x4, .int x5, .int x6, .null, .null, .null, .null] [.int (M 57 2), .int x4, .int x3, .int x5] M L Q)
      refine wp_callN 86 [.int x3, .int x4, .int (M 57 2)] (i := 74) (by decide +kernel) (by decide +kernel) (by decide +kernel) (by decide +kernel) rfl rfl rfl (rest := [.int x5]) rfl rfl ?_
      refine s_X9_takenOf M x3 x4 (M 57 2)  ?_
      show Wp E (d + 2) 50 21 [.ref 57, .int x2, .int x3, .int x4, .int x5, .int x6, .null, .null, .null, .null] [.int (f_X9_takenOf M x3 x4 (M 57 2)), .int x5] M L Q
      refine wp_seg (pc' := 24) [.iconst (-1), .ixor, .iand] (by decide +kernel) (?_ : Wp E (d + 2) 50 24 [.ref 57, .int x2, .int x3, .int x4, .int x5, .int x6, .null, .null, .null, .null] [.int (x5 &&& ((f_X9_takenOf M x3 x4 (M 57 2)) ^^^ (Int32.ofInt (-1))))] M L Q)
      refine wp_ifne (off := 7) 31 (by decide +kernel) (by decide) (fun c_16 => ?_) (fun c_16 => ?_)
      · have hP := hP.2 c_16
        refine wp_seg (pc' := 36) [.iconst 0, .istore 6, .iload 6] (by decide +kernel) (?_ : Wp E (d + 2) 50 36 [.ref 57, .int x2, .int x3, .int x4, .int x5, .int x6, .int (Int32.ofInt 0), .null, .null, .null] [.int (Int32.ofInt 0)] M L Q)
        refine wp_ifeq (off := 8) 44 (by decide +kernel) (by decide) (fun c_17 => ?_) (fun c_17 => ?_)
        · skip
          refine wp_seg (pc' := 45) [.iconst 0] (by decide +kernel) (?_ : Wp E (d + 2) 50 45 [.ref 57, .int x2, .int x3, .int x4, .int x5, .int x6, .int (Int32.ofInt 0), .null, .null, .null] [.int (Int32.ofInt 0)] M L Q)
          exact wp_iret (by decide +kernel) rfl (hK _ _ _ hP)
        · exact absurd (by decide) c_17
      · have hP := hP.1 c_16
        refine wp_seg (pc' := 36) [.iconst 1, .goto 0, .istore 6, .iload 6] (by decide +kernel) (?_ : Wp E (d + 2) 50 36 [.ref 57, .int x2, .int x3, .int x4, .int x5, .int x6, .int (Int32.ofInt 1), .null, .null, .null] [.int (Int32.ofInt 1)] M L Q)
        refine wp_ifeq (off := 8) 44 (by decide +kernel) (by decide) (fun c_18 => ?_) (fun c_18 => ?_)
        · exact absurd c_18 (by decide)
        · skip
          refine wp_seg (pc' := 45) [.iload 5, .goto 0] (by decide +kernel) (?_ : Wp E (d + 2) 50 45 [.ref 57, .int x2, .int x3, .int x4, .int x5, .int x6, .int (Int32.ofInt 1), .null, .null, .null] [.int x6] M L Q)
          exact wp_iret (by decide +kernel) rfl (hK _ _ _ hP)
theorem t_X7_leastFrom {E : VE} : ∀ {r : Nat} {d : Nat} {Q : QQ} {K : Int32 → Mem → LMem → Prop} {x2 : Int32} {x3 : Int32} {x4 : Int32} {x5 : Int32} {x6 : Int32} {M : Mem} {L : LMem} (_ : P_X7_leastFrom r x2 x3 x4 x5 x6 M L K) (_ : ∀ (v : Int32) (M : Mem) (L : LMem), K v M L → Q (some (.int v)) M L), Wp E (d + r + 1) 50 0 [.ref 57, .int x2, .int x3, .int x4, .int x5, .int x6, .null, .null, .null, .null] [] M L Q
  | 0, _, _, _, _, _, _, _, _, _, _, hP, _ => False.elim hP
  | r + 1, d, Q, K, x2, x3, x4, x5, x6, M, L, hP, hK => by
    have e : d + (r + 1) + 1 = (d + r) + 2 := by omega
    rw [e]
    exact tb_X7_leastFrom (d := d + r) (REC := P_X7_leastFrom r) hP hK (fun x2 x3 x4 x5 x6 M L K hP Q hK => t_X7_leastFrom (d := d) hP hK)

def PL_X8_fewestOf_56 (K : Int32 → Mem → LMem → Prop) (REC : Int32 → Int32 → Mem → LMem → (Int32 → Mem → LMem → Prop) → Prop)  : Nat → Int32 → Int32 → Int32 → Int32 → Int32 → Mem → LMem → Prop
  | 0, _, _, _, _, _, _, _ => False
  | n_ + 1, v1, v2, v3, v4, v5, M, L => (((M 65 2) ≤ v5 → (vp_in v1 8192 ∧ K v4 (mput M 69 v1.toNatClampNeg (vp_nar .byte v4.toInt8.toInt32)) L)) ∧ (¬ ((M 65 2) ≤ v5) → (vp_in v3 14 ∧ ((v4 ≤ (M 68 v3.toNatClampNeg) → (vp_in v1 8192 ∧ K v4 (mput M 69 v1.toNatClampNeg (vp_nar .byte v4.toInt8.toInt32)) L)) ∧ (¬ (v4 ≤ (M 68 v3.toNatClampNeg)) → (vp_in v5 64 ∧ ((v3 ≤ (f_X8_largerPart M v1 (M 67 v5.toNatClampNeg)) → PL_X8_fewestOf_56 K REC n_ v1 v2 v3 v4 (v5 + Int32.ofInt 1) M L) ∧ (¬ (v3 ≤ (f_X8_largerPart M v1 (M 67 v5.toNatClampNeg))) → (vp_in (f_X8_largerPart M v1 (M 67 v5.toNatClampNeg)) 14 ∧ ((v4 ≤ ((Int32.ofInt 1) + (M 68 ((f_X8_largerPart M v1 (M 67 v5.toNatClampNeg)).toNatClampNeg))) → PL_X8_fewestOf_56 K REC n_ v1 v2 v3 v4 (v5 + Int32.ofInt 1) M L) ∧ (¬ (v4 ≤ ((Int32.ofInt 1) + (M 68 ((f_X8_largerPart M v1 (M 67 v5.toNatClampNeg)).toNatClampNeg)))) → REC (v1 &&& (M 67 v5.toNatClampNeg)) (v2 + (Int32.ofInt 1)) M L (fun v_16 M_17 L_18 => REC (v1 &&& ((M_17 67 v5.toNatClampNeg) ^^^ (Int32.ofInt (-1)))) (v2 + (Int32.ofInt 1)) M_17 L_18 (fun v_19 M_20 L_21 => PL_X8_fewestOf_56 K REC n_ v1 v2 v3 (if ((Int32.ofInt 1) + (if v_16 < v_19 then v_19 else v_16)) < v4 then ((Int32.ofInt 1) + (if v_16 < v_19 then v_19 else v_16)) else v4) (v5 + Int32.ofInt 1) M_20 L_21)))))))))))))
theorem tl_X8_fewestOf_56 {E : VE} {d : Nat} {Q : QQ} {K : Int32 → Mem → LMem → Prop} {REC : Int32 → Int32 → Mem → LMem → (Int32 → Mem → LMem → Prop) → Prop}  (hK : ∀ (v : Int32) (M : Mem) (L : LMem), K v M L → Q (some (.int v)) M L)  (hR : ∀ (x2 x3 : Int32) (M : Mem) (L : LMem) (K' : Int32 → Mem → LMem → Prop), REC x2 x3 M L K' → ∀ Q' : QQ, (∀ (v : Int32) (M : Mem) (L : LMem), K' v M L → Q' (some (.int v)) M L) → Wp E (d + 2) 59 0 [.ref 65, .int x2, .int x3, .null, .null, .null, .null, .null] [] M L Q') : ∀ (n_ : Nat) (v1 : Int32) (v2 : Int32) (v3 : Int32) (v4 : Int32) (v5 : Int32) (M : Mem) (L : LMem), PL_X8_fewestOf_56 K REC n_ v1 v2 v3 v4 v5 M L → Wp E (d + 3) 59 56 [.ref 65, .int v1, .int v2, .int v3, .int v4, .int v5, .null, .null] [] M L Q := by
  intro n_
  induction n_ with
  | zero => intro v1 v2 v3 v4 v5 M L hP; exact False.elim hP
  | succ n_ ih =>
    intro v1 v2 v3 v4 v5 M L hP
    unfold PL_X8_fewestOf_56 at hP
    refine wp_seg (pc' := 62) [.iload 5, .aload 0, .getfield 514] (by decide +kernel) (?_ : Wp E (d + 3) 59 62 [.ref 65, .int v1, .int v2, .int v3, .int v4, .int v5, .null, .null] [.int (M 65 2), .int v5] M L Q)
    refine wp_icmpge (off := 107) 169 (by decide +kernel) (by decide) (fun c_7 => ?_) (fun c_7 => ?_)
    · have hP := hP.1 c_7
      obtain ⟨a_8, hP⟩ := hP
      refine wp_seg (pc' := 178) [.aload 0, .getfield 516, .iload 1, .iload 4, .i2b, .bastore] (by decide +kernel) (Or.inr (show aok 69 3 v1 ∧ Wp E (d + 3) 59 178 [.ref 65, .int v1, .int v2, .int v3, .int v4, .int v5, .null, .null] [] (mput M 69 v1.toNatClampNeg (vp_nar .byte v4.toInt8.toInt32)) L Q from ⟨⟨rfl, a_8⟩, ?_⟩))
      refine wp_seg (pc' := 180) [.iload 4] (by decide +kernel) (?_ : Wp E (d + 3) 59 180 [.ref 65, .int v1, .int v2, .int v3, .int v4, .int v5, .null, .null] [.int v4] (mput M 69 v1.toNatClampNeg (vp_nar .byte v4.toInt8.toInt32)) L Q)
      exact wp_iret (by decide +kernel) rfl (hK _ _ _ hP)
    · have hP := hP.2 c_7
      obtain ⟨a_9, hP⟩ := hP
      refine wp_seg (pc' := 73) [.iload 4, .aload 0, .getfield 515, .iload 3, .iaload] (by decide +kernel) (show aok 68 0 v3 ∧ Wp E (d + 3) 59 73 [.ref 65, .int v1, .int v2, .int v3, .int v4, .int v5, .null, .null] [.int (M 68 v3.toNatClampNeg), .int v4] M L Q from ⟨⟨rfl, a_9⟩, ?_⟩)
      refine wp_icmple (off := 96) 169 (by decide +kernel) (by decide) (fun c_10 => ?_) (fun c_10 => ?_)
      · have hP := hP.1 c_10
        obtain ⟨a_11, hP⟩ := hP
        refine wp_seg (pc' := 178) [.aload 0, .getfield 516, .iload 1, .iload 4, .i2b, .bastore] (by decide +kernel) (Or.inr (show aok 69 3 v1 ∧ Wp E (d + 3) 59 178 [.ref 65, .int v1, .int v2, .int v3, .int v4, .int v5, .null, .null] [] (mput M 69 v1.toNatClampNeg (vp_nar .byte v4.toInt8.toInt32)) L Q from ⟨⟨rfl, a_11⟩, ?_⟩))
        refine wp_seg (pc' := 180) [.iload 4] (by decide +kernel) (?_ : Wp E (d + 3) 59 180 [.ref 65, .int v1, .int v2, .int v3, .int v4, .int v5, .null, .null] [.int v4] (mput M 69 v1.toNatClampNeg (vp_nar .byte v4.toInt8.toInt32)) L Q)
        exact wp_iret (by decide +kernel) rfl (hK _ _ _ hP)
      · have hP := hP.2 c_10
        obtain ⟨a_12, hP⟩ := hP
        refine wp_seg (pc' := 84) [.iload 1, .aload 0, .getfield 513, .iload 5, .iaload] (by decide +kernel) (show aok 67 0 v5 ∧ Wp E (d + 3) 59 84 [.ref 65, .int v1, .int v2, .int v3, .int v4, .int v5, .null, .null] [.int (M 67 v5.toNatClampNeg), .int v1] M L Q from ⟨⟨rfl, a_12⟩, ?_⟩)
        refine wp_callS 53 [.int v1, .int (M 67 v5.toNatClampNeg)] (i := 51) (by decide +kernel) (by decide +kernel) (by decide +kernel) rfl rfl rfl (rest := []) rfl rfl ?_
        refine s_X8_largerPart M v1 (M 67 v5.toNatClampNeg)  ?_
        show Wp E (d + 3) 59 87 [.ref 65, .int v1, .int v2, .int v3, .int v4, .int v5, .null, .null] [.int (f_X8_largerPart M v1 (M 67 v5.toNatClampNeg))] M L Q
        refine wp_seg (pc' := 92) [.istore 6, .iload 6, .iload 3] (by decide +kernel) (?_ : Wp E (d + 3) 59 92 [.ref 65, .int v1, .int v2, .int v3, .int v4, .int v5, .int (f_X8_largerPart M v1 (M 67 v5.toNatClampNeg)), .null] [.int v3, .int (f_X8_largerPart M v1 (M 67 v5.toNatClampNeg))] M L Q)
        refine wp_icmpge (off := 71) 163 (by decide +kernel) (by decide) (fun c_13 => ?_) (fun c_13 => ?_)
        · have hP := hP.1 c_13
          refine wp_seg (pc' := 56) [.iinc 5 1, .goto 0] (by decide +kernel) (?_ : Wp E (d + 3) 59 56 [.ref 65, .int v1, .int v2, .int v3, .int v4, .int (v5 + Int32.ofInt 1), .int (f_X8_largerPart M v1 (M 67 v5.toNatClampNeg)), .null] [] M L Q)
          refine wp_drop (lo := [.ref 65, .int v1, .int v2, .int v3, .int v4, .int (v5 + Int32.ofInt 1), .null, .null]) ⟨Or.inr rfl, Or.inr rfl, Or.inr rfl, Or.inr rfl, Or.inr rfl, Or.inr rfl, Or.inl rfl, Or.inl rfl, trivial⟩ ?_
          exact ih v1 v2 v3 v4 (v5 + Int32.ofInt 1) M L hP
        · have hP := hP.2 c_13
          obtain ⟨a_14, hP⟩ := hP
          refine wp_seg (pc' := 103) [.iconst 1, .aload 0, .getfield 515, .iload 6, .iaload] (by decide +kernel) (show aok 68 0 (f_X8_largerPart M v1 (M 67 v5.toNatClampNeg)) ∧ Wp E (d + 3) 59 103 [.ref 65, .int v1, .int v2, .int v3, .int v4, .int v5, .int (f_X8_largerPart M v1 (M 67 v5.toNatClampNeg)), .null] [.int (M 68 ((f_X8_largerPart M v1 (M 67 v5.toNatClampNeg)).toNatClampNeg)), .int (Int32.ofInt 1)] M L Q from ⟨⟨rfl, a_14⟩, ?_⟩)
          refine wp_seg (pc' := 106) [.iadd, .iload 4] (by decide +kernel) (?_ : Wp E (d + 3) 59 106 [.ref 65, .int v1, .int v2, .int v3, .int v4, .int v5, .int (f_X8_largerPart M v1 (M 67 v5.toNatClampNeg)), .null] [.int v4, .int ((Int32.ofInt 1) + (M 68 ((f_X8_largerPart M v1 (M 67 v5.toNatClampNeg)).toNatClampNeg)))] M L Q)
          refine wp_icmpge (off := 57) 163 (by decide +kernel) (by decide) (fun c_15 => ?_) (fun c_15 => ?_)
          · have hP := hP.1 c_15
            refine wp_seg (pc' := 56) [.iinc 5 1, .goto 0] (by decide +kernel) (?_ : Wp E (d + 3) 59 56 [.ref 65, .int v1, .int v2, .int v3, .int v4, .int (v5 + Int32.ofInt 1), .int (f_X8_largerPart M v1 (M 67 v5.toNatClampNeg)), .null] [] M L Q)
            refine wp_drop (lo := [.ref 65, .int v1, .int v2, .int v3, .int v4, .int (v5 + Int32.ofInt 1), .null, .null]) ⟨Or.inr rfl, Or.inr rfl, Or.inr rfl, Or.inr rfl, Or.inr rfl, Or.inr rfl, Or.inl rfl, Or.inl rfl, trivial⟩ ?_
            exact ih v1 v2 v3 v4 (v5 + Int32.ofInt 1) M L hP
          · have hP := hP.2 c_15
            refine wp_seg (pc' := 118) [.aload 0, .iload 1, .aload 0, .getfield 513, .iload 5, .iaload] (by decide +kernel) (show aok 67 0 v5 ∧ Wp E (d + 3) 59 118 [.ref 65, .int v1, .int v2, .int v3, .int v4, .int v5, .int (f_X8_largerPart M v1 (M 67 v5.toNatClampNeg)), .null] [.int (M 67 v5.toNatClampNeg), .int v1, .ref 65] M L Q from ⟨⟨rfl, a_12⟩, ?_⟩)
            refine wp_seg (pc' := 122) [.iand, .iload 2, .iconst 1, .iadd] (by decide +kernel) (?_ : Wp E (d + 3) 59 122 [.ref 65, .int v1, .int v2, .int v3, .int v4, .int v5, .int (f_X8_largerPart M v1 (M 67 v5.toNatClampNeg)), .null] [.int (v2 + (Int32.ofInt 1)), .int (v1 &&& (M 67 v5.toNatClampNeg)), .ref 65] M L Q)
            refine wp_callS 59 [.ref 65, .int (v1 &&& (M 67 v5.toNatClampNeg)), .int (v2 + (Int32.ofInt 1))] (i := 77) (by decide +kernel) (by decide +kernel) (by decide +kernel) rfl rfl rfl (rest := []) rfl rfl ?_
            refine hR _ _ _ _ _ hP _ (fun v_16 M_17 L_18 hP => ?_)
            show Wp E (d + 3) 59 125 [.ref 65, .int v1, .int v2, .int v3, .int v4, .int v5, .int (f_X8_largerPart M v1 (M 67 v5.toNatClampNeg)), .null] [.int v_16] M_17 L_18 Q
            refine wp_seg (pc' := 138) [.istore 7, .iload 7, .aload 0, .iload 1, .aload 0, .getfield 513, .iload 5, .iaload] (by decide +kernel) (show aok 67 0 v5 ∧ Wp E (d + 3) 59 138 [.ref 65, .int v1, .int v2, .int v3, .int v4, .int v5, .int (f_X8_largerPart M v1 (M 67 v5.toNatClampNeg)), .int v_16] [.int (M_17 67 v5.toNatClampNeg), .int v1, .ref 65, .int v_16] M_17 L_18 Q from ⟨⟨rfl, a_12⟩, ?_⟩)
            refine wp_seg (pc' := 144) [.iconst (-1), .ixor, .iand, .iload 2, .iconst 1, .iadd] (by decide +kernel) (?_ : Wp E (d + 3) 59 144 [.ref 65, .int v1, .int v2, .int v3, .int v4, .int v5, .int (f_X8_largerPart M v1 (M 67 v5.toNatClampNeg)), .int v_16] [.int (v2 + (Int32.ofInt 1)), .int (v1 &&& ((M_17 67 v5.toNatClampNeg) ^^^ (Int32.ofInt (-1)))), .ref 65, .int v_16] M_17 L_18 Q)
            refine wp_callS 59 [.ref 65, .int (v1 &&& ((M_17 67 v5.toNatClampNeg) ^^^ (Int32.ofInt (-1)))), .int (v2 + (Int32.ofInt 1))] (i := 77) (by decide +kernel) (by decide +kernel) (by decide +kernel) rfl rfl rfl (rest := [.int v_16]) rfl rfl ?_
            refine hR _ _ _ _ _ hP _ (fun v_19 M_20 L_21 hP => ?_)
            show Wp E (d + 3) 59 147 [.ref 65, .int v1, .int v2, .int v3, .int v4, .int v5, .int (f_X8_largerPart M v1 (M 67 v5.toNatClampNeg)), .int v_16] [.int v_19, .int v_16] M_20 L_21 Q
            refine wp_seg (pc' := 150) [.invokestatic 0] (by decide +kernel) (?_ : Wp E (d + 3) 59 150 [.ref 65, .int v1, .int v2, .int v3, .int v4, .int v5, .int (f_X8_largerPart M v1 (M 67 v5.toNatClampNeg)), .int v_16] [.int (if v_16 < v_19 then v_19 else v_16)] M_20 L_21 Q)
            refine wp_seg (pc' := 161) [.istore 7, .iload 4, .iconst 1, .iload 7, .iadd, .invokestatic 1] (by decide +kernel) (?_ : Wp E (d + 3) 59 161 [.ref 65, .int v1, .int v2, .int v3, .int v4, .int v5, .int (f_X8_largerPart M v1 (M 67 v5.toNatClampNeg)), .int (if v_16 < v_19 then v_19 else v_16)] [.int (if ((Int32.ofInt 1) + (if v_16 < v_19 then v_19 else v_16)) < v4 then ((Int32.ofInt 1) + (if v_16 < v_19 then v_19 else v_16)) else v4)] M_20 L_21 Q)
            refine wp_seg (pc' := 56) [.istore 4, .iinc 5 1, .goto 0] (by decide +kernel) (?_ : Wp E (d + 3) 59 56 [.ref 65, .int v1, .int v2, .int v3, .int (if ((Int32.ofInt 1) + (if v_16 < v_19 then v_19 else v_16)) < v4 then ((Int32.ofInt 1) + (if v_16 < v_19 then v_19 else v_16)) else v4), .int (v5 + Int32.ofInt 1), .int (f_X8_largerPart M v1 (M 67 v5.toNatClampNeg)), .int (if v_16 < v_19 then v_19 else v_16)] [] M_20 L_21 Q)
            refine wp_drop (lo := [.ref 65, .int v1, .int v2, .int v3, .int (if ((Int32.ofInt 1) + (if v_16 < v_19 then v_19 else v_16)) < v4 then ((Int32.ofInt 1) + (if v_16 < v_19 then v_19 else v_16)) else v4), .int (v5 + Int32.ofInt 1), .null, .null]) ⟨Or.inr rfl, Or.inr rfl, Or.inr rfl, Or.inr rfl, Or.inr rfl, Or.inr rfl, Or.inl rfl, Or.inl rfl, trivial⟩ ?_
            exact ih v1 v2 v3 (if ((Int32.ofInt 1) + (if v_16 < v_19 then v_19 else v_16)) < v4 then ((Int32.ofInt 1) + (if v_16 < v_19 then v_19 else v_16)) else v4) (v5 + Int32.ofInt 1) M_20 L_21 hP
def PB_X8_fewestOf (REC : Int32 → Int32 → Mem → LMem → (Int32 → Mem → LMem → Prop) → Prop) (x2 : Int32) (x3 : Int32) (M : Mem) (L : LMem) (K : Int32 → Mem → LMem → Prop) : Prop := (((f_J6_bitCount_0f7a4 M x2) ≤ (Int32.ofInt 1) → K (Int32.ofInt 0) M L) ∧ (¬ ((f_J6_bitCount_0f7a4 M x2) ≤ (Int32.ofInt 1)) → (((Int32.ofInt 13) < (f_J6_bitCount_0f7a4 M x2) → K (Int32.ofInt 0) M L) ∧ (¬ ((Int32.ofInt 13) < (f_J6_bitCount_0f7a4 M x2)) → (((Int32.ofInt 13) < x3 → K (Int32.ofInt 0) M L) ∧ (¬ ((Int32.ofInt 13) < x3) → ((x2 < (Int32.ofNat 8192) → (vp_in x2 8192 ∧ (((M 69 x2.toNatClampNeg) = 0 → PL_X8_fewestOf_56 K REC 100000 x2 x3 (f_J6_bitCount_0f7a4 M x2) (Int32.ofInt 99) (Int32.ofInt 0) M L) ∧ (¬ ((M 69 x2.toNatClampNeg) = 0) → K (M 69 x2.toNatClampNeg) M L)))) ∧ (¬ (x2 < (Int32.ofNat 8192)) → K (Int32.ofInt 0) M L))))))))
def P_X8_fewestOf : Nat → Int32 → Int32 → Mem → LMem → (Int32 → Mem → LMem → Prop) → Prop
  | 0 => fun _ _ _ _ _ => False
  | r_ + 1 => fun x2 x3 M L K => PB_X8_fewestOf (P_X8_fewestOf r_) x2 x3 M L K
theorem tb_X8_fewestOf {E : VE} {d : Nat} {Q : QQ} {K : Int32 → Mem → LMem → Prop} {REC : Int32 → Int32 → Mem → LMem → (Int32 → Mem → LMem → Prop) → Prop} {x2 : Int32} {x3 : Int32} {M : Mem} {L : LMem} (hP : PB_X8_fewestOf REC x2 x3 M L K) (hK : ∀ (v : Int32) (M : Mem) (L : LMem), K v M L → Q (some (.int v)) M L) (hR : ∀ (x2 x3 : Int32) (M : Mem) (L : LMem) (K' : Int32 → Mem → LMem → Prop), REC x2 x3 M L K' → ∀ Q' : QQ, (∀ (v : Int32) (M : Mem) (L : LMem), K' v M L → Q' (some (.int v)) M L) → Wp E (d + 2) 59 0 [.ref 65, .int x2, .int x3, .null, .null, .null, .null, .null] [] M L Q') : Wp E (d + 3) 59 0 [.ref 65, .int x2, .int x3, .null, .null, .null, .null, .null] [] M L Q := by
  unfold PB_X8_fewestOf at hP
  refine wp_seg (pc' := 1) [.iload 1] (by decide +kernel) (?_ : Wp E (d + 3) 59 1 [.ref 65, .int x2, .int x3, .null, .null, .null, .null, .null] [.int x2] M L Q)
  refine wp_callS 87 [.int x2] (i := 45) (by decide +kernel) (by decide +kernel) (by decide +kernel) rfl rfl rfl (rest := []) rfl rfl ?_
  refine s_J6_bitCount_0f7a4 M x2  ?_
  show Wp E (d + 3) 59 4 [.ref 65, .int x2, .int x3, .null, .null, .null, .null, .null] [.int (f_J6_bitCount_0f7a4 M x2)] M L Q
  refine wp_seg (pc' := 7) [.istore 3, .iload 3, .iconst 1] (by decide +kernel) (?_ : Wp E (d + 3) 59 7 [.ref 65, .int x2, .int x3, .int (f_J6_bitCount_0f7a4 M x2), .null, .null, .null, .null] [.int (Int32.ofInt 1), .int (f_J6_bitCount_0f7a4 M x2)] M L Q)
  refine wp_icmple (off := 24) 31 (by decide +kernel) (by decide) (fun c_1 => ?_) (fun c_1 => ?_)
  · have hP := hP.1 c_1
    refine wp_seg (pc' := 32) [.iconst 0] (by decide +kernel) (?_ : Wp E (d + 3) 59 32 [.ref 65, .int x2, .int x3, .int (f_J6_bitCount_0f7a4 M x2), .null, .null, .null, .null] [.int (Int32.ofInt 0)] M L Q)
    exact wp_iret (by decide +kernel) rfl (hK _ _ _ hP)
  · have hP := hP.2 c_1
    refine wp_seg (pc' := 13) [.iload 3, .iconst 13] (by decide +kernel) (?_ : Wp E (d + 3) 59 13 [.ref 65, .int x2, .int x3, .int (f_J6_bitCount_0f7a4 M x2), .null, .null, .null, .null] [.int (Int32.ofInt 13), .int (f_J6_bitCount_0f7a4 M x2)] M L Q)
    refine wp_icmpgt (off := 18) 31 (by decide +kernel) (by decide) (fun c_2 => ?_) (fun c_2 => ?_)
    · have hP := hP.1 c_2
      refine wp_seg (pc' := 32) [.iconst 0] (by decide +kernel) (?_ : Wp E (d + 3) 59 32 [.ref 65, .int x2, .int x3, .int (f_J6_bitCount_0f7a4 M x2), .null, .null, .null, .null] [.int (Int32.ofInt 0)] M L Q)
      exact wp_iret (by decide +kernel) rfl (hK _ _ _ hP)
    · have hP := hP.2 c_2
      refine wp_seg (pc' := 19) [.iload 2, .iconst 13] (by decide +kernel) (?_ : Wp E (d + 3) 59 19 [.ref 65, .int x2, .int x3, .int (f_J6_bitCount_0f7a4 M x2), .null, .null, .null, .null] [.int (Int32.ofInt 13), .int x3] M L Q)
      refine wp_icmpgt (off := 12) 31 (by decide +kernel) (by decide) (fun c_3 => ?_) (fun c_3 => ?_)
      · have hP := hP.1 c_3
        refine wp_seg (pc' := 32) [.iconst 0] (by decide +kernel) (?_ : Wp E (d + 3) 59 32 [.ref 65, .int x2, .int x3, .int (f_J6_bitCount_0f7a4 M x2), .null, .null, .null, .null] [.int (Int32.ofInt 0)] M L Q)
        exact wp_iret (by decide +kernel) rfl (hK _ _ _ hP)
      · have hP := hP.2 c_3
        refine wp_seg (pc' := 28) [.iload 1, .aload 0, .getfield 516, .arraylength] (by decide +kernel) (?_ : Wp E (d + 3) 59 28 [.ref 65, .int x2, .int x3, .int (f_J6_bitCount_0f7a4 M x2), .null, .null, .null, .null] [.int (Int32.ofNat 8192), .int x2] M L Q)
        refine wp_icmplt (off := 5) 33 (by decide +kernel) (by decide) (fun c_4 => ?_) (fun c_4 => ?_)
        · have hP := hP.1 c_4
          obtain ⟨a_5, hP⟩ := hP
          refine wp_seg (pc' := 39) [.aload 0, .getfield 516, .iload 1, .baload] (by decide +kernel) (show (aok 69 1 x2 ∨ aok 69 3 x2) ∧ Wp E (d + 3) 59 39 [.ref 65, .int x2, .int x3, .int (f_J6_bitCount_0f7a4 M x2), .null, .null, .null, .null] [.int (M 69 x2.toNatClampNeg)] M L Q from ⟨Or.inr ⟨rfl, a_5⟩, ?_⟩)
          refine wp_ifeq (off := 10) 49 (by decide +kernel) (by decide) (fun c_6 => ?_) (fun c_6 => ?_)
          · have hP := hP.1 c_6
            refine wp_seg (pc' := 56) [.iconst 99, .istore 4, .iconst 0, .istore 5] (by decide +kernel) (?_ : Wp E (d + 3) 59 56 [.ref 65, .int x2, .int x3, .int (f_J6_bitCount_0f7a4 M x2), .int (Int32.ofInt 99), .int (Int32.ofInt 0), .null, .null] [] M L Q)
            exact tl_X8_fewestOf_56 hK hR 100000 x2 x3 (f_J6_bitCount_0f7a4 M x2) (Int32.ofInt 99) (Int32.ofInt 0) M L hP
          · have hP := hP.2 c_6
            refine wp_seg (pc' := 48) [.aload 0, .getfield 516, .iload 1, .baload] (by decide +kernel) (show (aok 69 1 x2 ∨ aok 69 3 x2) ∧ Wp E (d + 3) 59 48 [.ref 65, .int x2, .int x3, .int (f_J6_bitCount_0f7a4 M x2), .null, .null, .null, .null] [.int (M 69 x2.toNatClampNeg)] M L Q from ⟨Or.inr ⟨rfl, a_5⟩, ?_⟩)
            exact wp_iret (by decide +kernel) rfl (hK _ _ _ hP)
        · have hP := hP.2 c_4
          refine wp_seg (pc' := 32) [.iconst 0] (by decide +kernel) (?_ : Wp E (d + 3) 59 32 [.ref 65, .int x2, .int x3, .int (f_J6_bitCount_0f7a4 M x2), .null, .null, .null, .null] [.int (Int32.ofInt 0)] M L Q)
          exact wp_iret (by decide +kernel) rfl (hK _ _ _ hP)
theorem t_X8_fewestOf {E : VE} : ∀ {r : Nat} {d : Nat} {Q : QQ} {K : Int32 → Mem → LMem → Prop} {x2 : Int32} {x3 : Int32} {M : Mem} {L : LMem} (_ : P_X8_fewestOf r x2 x3 M L K) (_ : ∀ (v : Int32) (M : Mem) (L : LMem), K v M L → Q (some (.int v)) M L), Wp E (d + r + 2) 59 0 [.ref 65, .int x2, .int x3, .null, .null, .null, .null, .null] [] M L Q
  | 0, _, _, _, _, _, _, _, hP, _ => False.elim hP
  | r + 1, d, Q, K, x2, x3, M, L, hP, hK => by
    have e : d + (r + 1) + 2 = (d + r) + 3 := by omega
    rw [e]
    exact tb_X8_fewestOf (d := d + r) (REC := P_X8_fewestOf r) hP hK (fun x2 x3 M L K hP Q hK => t_X8_fewestOf (d := d) hP hK)

def P_X7_leastLocked (M : Mem) (L : LMem) (K : Int32 → Mem → LMem → Prop) : Prop := P_X7_leastFrom 16 (Int32.ofInt 0) (Int32.ofInt 0) (Int32.ofInt 0) (Int32.ofInt 0) (Int32.ofInt 0) M L (fun v_3 M_1 L_2 => K v_3 M_1 L_2)
theorem t_X7_leastLocked {E : VE} {d : Nat} {Q : QQ} {K : Int32 → Mem → LMem → Prop} {M : Mem} {L : LMem} (hP : P_X7_leastLocked M L K) (hK : ∀ (v : Int32) (M : Mem) (L : LMem), K v M L → Q (some (.int v)) M L) : Wp E (d + 18) 49 0 [.ref 57] [] M L Q := by
  unfold P_X7_leastLocked at hP
  refine wp_seg (pc' := 6) [.aload 0, .iconst 0, .iconst 0, .iconst 0, .iconst 0, .iconst 0] (by decide +kernel) (?_ : Wp E (d + 18) 49 6 [.ref 57] [.int (Int32.ofInt 0), .int (Int32.ofInt 0), .int (Int32.ofInt 0), .int (Int32.ofInt 0), .int (Int32.ofInt 0), .ref 57] M L Q)
  refine wp_callS 50 [.ref 57, .int (Int32.ofInt 0), .int (Int32.ofInt 0), .int (Int32.ofInt 0), .int (Int32.ofInt 0), .int (Int32.ofInt 0)] (i := 70) (by decide +kernel) (by decide +kernel) (by decide +kernel) rfl rfl rfl (rest := []) rfl rfl ?_
  refine t_X7_leastFrom (r := 16) hP (fun v_3 M_1 L_2 hP => ?_)
  show Wp E (d + 18) 49 9 [.ref 57] [.int v_3] M_1 L_2 Q
  exact wp_iret (by decide +kernel) rfl (hK _ _ _ hP)

def P_X8_fewestTries (x1 : Int32) (M : Mem) (L : LMem) (K : Int32 → Mem → LMem → Prop) : Prop := P_X8_gatherParts x1 M L (fun M_1 L_2 => ((x1 = 0 → K (Int32.ofInt (-6)) M_1 L_2) ∧ (¬ (x1 = 0) → P_X8_allCanBeParted x1 M_1 L_2 (fun v_6 M_4 L_5 => ((v_6 = 0 → K (Int32.ofInt (-6)) M_4 L_5) ∧ (¬ (v_6 = 0) → P_X8_layBounds x1 M_4 L_5 (fun M_8 L_9 => P_J7_fill_031fb (Int32.ofInt 0) M_8 L_9 (fun M_10 L_11 => P_X8_fewestOf 16 x1 (Int32.ofInt 0) M_10 L_11 (fun v_14 M_12 L_13 => K v_14 M_12 L_13)))))))))
theorem t_X8_fewestTries {E : VE} {d : Nat} {Q : QQ} {K : Int32 → Mem → LMem → Prop} {x1 : Int32} {M : Mem} {L : LMem} (hP : P_X8_fewestTries x1 M L K) (hK : ∀ (v : Int32) (M : Mem) (L : LMem), K v M L → Q (some (.int v)) M L) : Wp E (d + 19) 54 0 [.ref 65, .int x1] [] M L Q := by
  unfold P_X8_fewestTries at hP
  refine wp_seg (pc' := 2) [.aload 0, .iload 1] (by decide +kernel) (?_ : Wp E (d + 19) 54 2 [.ref 65, .int x1] [.int x1, .ref 65] M L Q)
  refine wp_callV 55 65 [.int x1] (i := 60) (by decide +kernel) (by decide +kernel) (by decide +kernel) (by decide +kernel) rfl rfl rfl (rest := []) rfl rfl ?_
  refine t_X8_gatherParts hP (fun M_1 L_2 hP => ?_)
  show Wp E (d + 19) 54 5 [.ref 65, .int x1] [] M_1 L_2 Q
  refine wp_seg (pc' := 6) [.iload 1] (by decide +kernel) (?_ : Wp E (d + 19) 54 6 [.ref 65, .int x1] [.int x1] M_1 L_2 Q)
  refine wp_ifeq (off := 11) 17 (by decide +kernel) (by decide) (fun c_3 => ?_) (fun c_3 => ?_)
  · have hP := hP.1 c_3
    refine wp_seg (pc' := 19) [.iconst (-6)] (by decide +kernel) (?_ : Wp E (d + 19) 54 19 [.ref 65, .int x1] [.int (Int32.ofInt (-6))] M_1 L_2 Q)
    exact wp_iret (by decide +kernel) rfl (hK _ _ _ hP)
  · have hP := hP.2 c_3
    refine wp_seg (pc' := 11) [.aload 0, .iload 1] (by decide +kernel) (?_ : Wp E (d + 19) 54 11 [.ref 65, .int x1] [.int x1, .ref 65] M_1 L_2 Q)
    refine wp_callV 57 65 [.int x1] (i := 64) (by decide +kernel) (by decide +kernel) (by decide +kernel) (by decide +kernel) rfl rfl rfl (rest := []) rfl rfl ?_
    refine t_X8_allCanBeParted hP (fun v_6 M_4 L_5 hP => ?_)
    show Wp E (d + 19) 54 14 [.ref 65, .int x1] [.int v_6] M_4 L_5 Q
    refine wp_ifne (off := 6) 20 (by decide +kernel) (by decide) (fun c_7 => ?_) (fun c_7 => ?_)
    · have hP := hP.2 c_7
      refine wp_seg (pc' := 22) [.aload 0, .iload 1] (by decide +kernel) (?_ : Wp E (d + 19) 54 22 [.ref 65, .int x1] [.int x1, .ref 65] M_4 L_5 Q)
      refine wp_callV 58 65 [.int x1] (i := 68) (by decide +kernel) (by decide +kernel) (by decide +kernel) (by decide +kernel) rfl rfl rfl (rest := []) rfl rfl ?_
      refine t_X8_layBounds hP (fun M_8 L_9 hP => ?_)
      show Wp E (d + 19) 54 25 [.ref 65, .int x1] [] M_8 L_9 Q
      refine wp_seg (pc' := 30) [.aload 0, .getfield 516, .iconst 0] (by decide +kernel) (?_ : Wp E (d + 19) 54 30 [.ref 65, .int x1] [.int (Int32.ofInt 0), .ref 69] M_8 L_9 Q)
      refine wp_callS 88 [.ref 69, .int (Int32.ofInt 0)] (i := 71) (by decide +kernel) (by decide +kernel) (by decide +kernel) rfl rfl rfl (rest := []) rfl rfl ?_
      refine t_J7_fill_031fb hP (fun M_10 L_11 hP => ?_)
      show Wp E (d + 19) 54 33 [.ref 65, .int x1] [] M_10 L_11 Q
      refine wp_seg (pc' := 36) [.aload 0, .iload 1, .iconst 0] (by decide +kernel) (?_ : Wp E (d + 19) 54 36 [.ref 65, .int x1] [.int (Int32.ofInt 0), .int x1, .ref 65] M_10 L_11 Q)
      refine wp_callS 59 [.ref 65, .int x1, .int (Int32.ofInt 0)] (i := 77) (by decide +kernel) (by decide +kernel) (by decide +kernel) rfl rfl rfl (rest := []) rfl rfl ?_
      refine t_X8_fewestOf (r := 16) hP (fun v_14 M_12 L_13 hP => ?_)
      show Wp E (d + 19) 54 39 [.ref 65, .int x1] [.int v_14] M_12 L_13 Q
      exact wp_iret (by decide +kernel) rfl (hK _ _ _ hP)
    · have hP := hP.1 c_7
      refine wp_seg (pc' := 19) [.iconst (-6)] (by decide +kernel) (?_ : Wp E (d + 19) 54 19 [.ref 65, .int x1] [.int (Int32.ofInt (-6))] M_4 L_5 Q)
      exact wp_iret (by decide +kernel) rfl (hK _ _ _ hP)

def P_X9_locked (x1 : Int32) (x2 : Int32) (M : Mem) (L : LMem) (K : Int32 → Mem → LMem → Prop) : Prop := ((x1 < 0 → K (Int32.ofInt (-2)) M L) ∧ (¬ (x1 < 0) → ((((Int32.ofInt 1) <<< ((M 3 8) &&& 31)) ≤ x1 → K (Int32.ofInt (-2)) M L) ∧ (¬ (((Int32.ofInt 1) <<< ((M 3 8) &&& 31)) ≤ x1) → (((f_X9_within M x2 (Int32.ofInt 0) (Int32.ofInt 1)) = 0 → K (Int32.ofInt (-2)) M L) ∧ (¬ ((f_X9_within M x2 (Int32.ofInt 0) (Int32.ofInt 1)) = 0) → P_X7_gather x1 x2 M L (fun v_6 M_4 L_5 => ((v_6 = 0 → K (Int32.ofInt (-3)) M_4 L_5) ∧ (¬ (v_6 = 0) → P_X7_leastLocked M_4 L_5 (fun v_10 M_8 L_9 => ((v_10 = 0 → K (Int32.ofInt (-6)) M_8 L_9) ∧ (¬ (v_10 = 0) → K ((Int32.ofInt 1000000) + v_10) M_8 L_9))))))))))))
theorem t_X9_locked {E : VE} {d : Nat} {Q : QQ} {K : Int32 → Mem → LMem → Prop} {x1 : Int32} {x2 : Int32} {M : Mem} {L : LMem} (hP : P_X9_locked x1 x2 M L K) (hK : ∀ (v : Int32) (M : Mem) (L : LMem), K v M L → Q (some (.int v)) M L) : Wp E (d + 19) 76 0 [.ref 0, .int x1, .int x2, .null] [] M L Q := by
  unfold P_X9_locked at hP
  refine wp_seg (pc' := 1) [.iload 1] (by decide +kernel) (?_ : Wp E (d + 19) 76 1 [.ref 0, .int x1, .int x2, .null] [.int x1] M L Q)
  refine wp_iflt (off := 25) 26 (by decide +kernel) (by decide) (fun c_1 => ?_) (fun c_1 => ?_)
  · have hP := hP.1 c_1
    refine wp_seg (pc' := 28) [.iconst (-2)] (by decide +kernel) (?_ : Wp E (d + 19) 76 28 [.ref 0, .int x1, .int x2, .null] [.int (Int32.ofInt (-2))] M L Q)
    exact wp_iret (by decide +kernel) rfl (hK _ _ _ hP)
  · have hP := hP.2 c_1
    refine wp_seg (pc' := 14) [.iload 1, .iconst 1, .aload 0, .getfield 577, .getfield 200, .ishl] (by decide +kernel) (?_ : Wp E (d + 19) 76 14 [.ref 0, .int x1, .int x2, .null] [.int ((Int32.ofInt 1) <<< ((M 3 8) &&& 31)), .int x1] M L Q)
    refine wp_icmpge (off := 12) 26 (by decide +kernel) (by decide) (fun c_2 => ?_) (fun c_2 => ?_)
    · have hP := hP.1 c_2
      refine wp_seg (pc' := 28) [.iconst (-2)] (by decide +kernel) (?_ : Wp E (d + 19) 76 28 [.ref 0, .int x1, .int x2, .null] [.int (Int32.ofInt (-2))] M L Q)
      exact wp_iret (by decide +kernel) rfl (hK _ _ _ hP)
    · have hP := hP.2 c_2
      refine wp_seg (pc' := 20) [.iload 2, .iconst 0, .iconst 1] (by decide +kernel) (?_ : Wp E (d + 19) 76 20 [.ref 0, .int x1, .int x2, .null] [.int (Int32.ofInt 1), .int (Int32.ofInt 0), .int x2] M L Q)
      refine wp_callS 83 [.int x2, .int (Int32.ofInt 0), .int (Int32.ofInt 1)] (i := 126) (by decide +kernel) (by decide +kernel) (by decide +kernel) rfl rfl rfl (rest := []) rfl rfl ?_
      refine s_X9_within M x2 (Int32.ofInt 0) (Int32.ofInt 1)  ?_
      show Wp E (d + 19) 76 23 [.ref 0, .int x1, .int x2, .null] [.int (f_X9_within M x2 (Int32.ofInt 0) (Int32.ofInt 1))] M L Q
      refine wp_ifne (off := 6) 29 (by decide +kernel) (by decide) (fun c_3 => ?_) (fun c_3 => ?_)
      · have hP := hP.2 c_3
        refine wp_seg (pc' := 43) [.aload 0, .getfield 584, .aload 0, .getfield 577, .aload 0, .getfield 581, .iload 1, .iload 2] (by decide +kernel) (?_ : Wp E (d + 19) 76 43 [.ref 0, .int x1, .int x2, .null] [.int x2, .int x1, .ref 37, .ref 3, .ref 57] M L Q)
        refine wp_callV 46 57 [.ref 3, .ref 37, .int x1, .int x2] (i := 209) (by decide +kernel) (by decide +kernel) (by decide +kernel) (by decide +kernel) rfl rfl rfl (rest := []) rfl rfl ?_
        refine t_X7_gather hP (fun v_6 M_4 L_5 hP => ?_)
        show Wp E (d + 19) 76 46 [.ref 0, .int x1, .int x2, .null] [.int v_6] M_4 L_5 Q
        refine wp_ifne (off := 6) 52 (by decide +kernel) (by decide) (fun c_7 => ?_) (fun c_7 => ?_)
        · have hP := hP.2 c_7
          refine wp_seg (pc' := 56) [.aload 0, .getfield 584] (by decide +kernel) (?_ : Wp E (d + 19) 76 56 [.ref 0, .int x1, .int x2, .null] [.ref 57] M_4 L_5 Q)
          refine wp_callV 49 57 [] (i := 212) (by decide +kernel) (by decide +kernel) (by decide +kernel) (by decide +kernel) rfl rfl rfl (rest := []) rfl rfl ?_
          refine t_X7_leastLocked hP (fun v_10 M_8 L_9 hP => ?_)
          show Wp E (d + 19) 76 59 [.ref 0, .int x1, .int x2, .null] [.int v_10] M_8 L_9 Q
          refine wp_seg (pc' := 61) [.istore 3, .iload 3] (by decide +kernel) (?_ : Wp E (d + 19) 76 61 [.ref 0, .int x1, .int x2, .int v_10] [.int v_10] M_8 L_9 Q)
          refine wp_ifne (off := 8) 69 (by decide +kernel) (by decide) (fun c_11 => ?_) (fun c_11 => ?_)
          · have hP := hP.2 c_11
            refine wp_seg (pc' := 73) [.iconst 1000000, .iload 3, .iadd] (by decide +kernel) (?_ : Wp E (d + 19) 76 73 [.ref 0, .int x1, .int x2, .int v_10] [.int ((Int32.ofInt 1000000) + v_10)] M_8 L_9 Q)
            exact wp_iret (by decide +kernel) rfl (hK _ _ _ hP)
          · have hP := hP.1 c_11
            refine wp_seg (pc' := 73) [.iconst (-6), .goto 0] (by decide +kernel) (?_ : Wp E (d + 19) 76 73 [.ref 0, .int x1, .int x2, .int v_10] [.int (Int32.ofInt (-6))] M_8 L_9 Q)
            exact wp_iret (by decide +kernel) rfl (hK _ _ _ hP)
        · have hP := hP.1 c_7
          refine wp_seg (pc' := 51) [.iconst (-3)] (by decide +kernel) (?_ : Wp E (d + 19) 76 51 [.ref 0, .int x1, .int x2, .null] [.int (Int32.ofInt (-3))] M_4 L_5 Q)
          exact wp_iret (by decide +kernel) rfl (hK _ _ _ hP)
      · have hP := hP.1 c_3
        refine wp_seg (pc' := 28) [.iconst (-2)] (by decide +kernel) (?_ : Wp E (d + 19) 76 28 [.ref 0, .int x1, .int x2, .null] [.int (Int32.ofInt (-2))] M L Q)
        exact wp_iret (by decide +kernel) rfl (hK _ _ _ hP)

def P_X9_stopped (x1 : Int32) (M : Mem) (L : LMem) (K : Int32 → Mem → LMem → Prop) : Prop := (((f_X9_within M x1 (Int32.ofInt 0) (Int32.ofInt 2)) = 0 → K (Int32.ofInt (-2)) M L) ∧ (¬ ((f_X9_within M x1 (Int32.ofInt 0) (Int32.ofInt 2)) = 0) → ((x1 = 0 → K (M 3 10) M L) ∧ (¬ (x1 = 0) → P_X8_gather M L (fun M_3 L_4 => ((x1 = (Int32.ofInt 1) → P_X8_nextTry (M_3 3 10) M_3 L_4 (fun v_11 M_9 L_10 => K v_11 M_9 L_10)) ∧ (¬ (x1 = (Int32.ofInt 1)) → P_X8_fewestTries (M_3 3 10) M_3 L_4 (fun v_8 M_6 L_7 => K v_8 M_6 L_7))))))))
theorem t_X9_stopped {E : VE} {d : Nat} {Q : QQ} {K : Int32 → Mem → LMem → Prop} {x1 : Int32} {M : Mem} {L : LMem} (hP : P_X9_stopped x1 M L K) (hK : ∀ (v : Int32) (M : Mem) (L : LMem), K v M L → Q (some (.int v)) M L) : Wp E (d + 20) 78 0 [.ref 0, .int x1] [] M L Q := by
  unfold P_X9_stopped at hP
  refine wp_seg (pc' := 3) [.iload 1, .iconst 0, .iconst 2] (by decide +kernel) (?_ : Wp E (d + 20) 78 3 [.ref 0, .int x1] [.int (Int32.ofInt 2), .int (Int32.ofInt 0), .int x1] M L Q)
  refine wp_callS 83 [.int x1, .int (Int32.ofInt 0), .int (Int32.ofInt 2)] (i := 126) (by decide +kernel) (by decide +kernel) (by decide +kernel) rfl rfl rfl (rest := []) rfl rfl ?_
  refine s_X9_within M x1 (Int32.ofInt 0) (Int32.ofInt 2)  ?_
  show Wp E (d + 20) 78 6 [.ref 0, .int x1] [.int (f_X9_within M x1 (Int32.ofInt 0) (Int32.ofInt 2))] M L Q
  refine wp_ifne (off := 6) 12 (by decide +kernel) (by decide) (fun c_1 => ?_) (fun c_1 => ?_)
  · have hP := hP.2 c_1
    refine wp_seg (pc' := 13) [.iload 1] (by decide +kernel) (?_ : Wp E (d + 20) 78 13 [.ref 0, .int x1] [.int x1] M L Q)
    refine wp_ifne (off := 11) 24 (by decide +kernel) (by decide) (fun c_2 => ?_) (fun c_2 => ?_)
    · have hP := hP.2 c_2
      refine wp_seg (pc' := 36) [.aload 0, .getfield 585, .aload 0, .getfield 577, .aload 0, .getfield 581] (by decide +kernel) (?_ : Wp E (d + 20) 78 36 [.ref 0, .int x1] [.ref 37, .ref 3, .ref 65] M L Q)
      refine wp_callV 51 65 [.ref 3, .ref 37] (i := 230) (by decide +kernel) (by decide +kernel) (by decide +kernel) (by decide +kernel) rfl rfl rfl (rest := []) rfl rfl ?_
      refine t_X8_gather hP (fun M_3 L_4 hP => ?_)
      show Wp E (d + 20) 78 39 [.ref 0, .int x1] [] M_3 L_4 Q
      refine wp_seg (pc' := 41) [.iload 1, .iconst 1] (by decide +kernel) (?_ : Wp E (d + 20) 78 41 [.ref 0, .int x1] [.int (Int32.ofInt 1), .int x1] M_3 L_4 Q)
      refine wp_icmpne (off := 20) 61 (by decide +kernel) (by decide) (fun c_5 => ?_) (fun c_5 => ?_)
      · have hP := hP.2 c_5
        refine wp_seg (pc' := 72) [.aload 0, .getfield 585, .aload 0, .getfield 577, .getfield 202] (by decide +kernel) (?_ : Wp E (d + 20) 78 72 [.ref 0, .int x1] [.int (M_3 3 10), .ref 65] M_3 L_4 Q)
        refine wp_callV 54 65 [.int (M_3 3 10)] (i := 236) (by decide +kernel) (by decide +kernel) (by decide +kernel) (by decide +kernel) rfl rfl rfl (rest := []) rfl rfl ?_
        refine t_X8_fewestTries hP (fun v_8 M_6 L_7 hP => ?_)
        show Wp E (d + 20) 78 75 [.ref 0, .int x1] [.int v_8] M_6 L_7 Q
        exact wp_iret (by decide +kernel) rfl (hK _ _ _ hP)
      · have hP := hP.1 c_5
        refine wp_seg (pc' := 55) [.aload 0, .getfield 585, .aload 0, .getfield 577, .getfield 202] (by decide +kernel) (?_ : Wp E (d + 20) 78 55 [.ref 0, .int x1] [.int (M_3 3 10), .ref 65] M_3 L_4 Q)
        refine wp_callV 52 65 [.int (M_3 3 10)] (i := 233) (by decide +kernel) (by decide +kernel) (by decide +kernel) (by decide +kernel) rfl rfl rfl (rest := []) rfl rfl ?_
        refine t_X8_nextTry hP (fun v_11 M_9 L_10 hP => ?_)
        show Wp E (d + 20) 78 58 [.ref 0, .int x1] [.int v_11] M_9 L_10 Q
        refine wp_seg (pc' := 75) [.goto 0] (by decide +kernel) (?_ : Wp E (d + 20) 78 75 [.ref 0, .int x1] [.int v_11] M_9 L_10 Q)
        exact wp_iret (by decide +kernel) rfl (hK _ _ _ hP)
    · have hP := hP.1 c_2
      refine wp_seg (pc' := 23) [.aload 0, .getfield 577, .getfield 202] (by decide +kernel) (?_ : Wp E (d + 20) 78 23 [.ref 0, .int x1] [.int (M 3 10)] M L Q)
      exact wp_iret (by decide +kernel) rfl (hK _ _ _ hP)
  · have hP := hP.1 c_1
    refine wp_seg (pc' := 11) [.iconst (-2)] (by decide +kernel) (?_ : Wp E (d + 20) 78 11 [.ref 0, .int x1] [.int (Int32.ofInt (-2))] M L Q)
    exact wp_iret (by decide +kernel) rfl (hK _ _ _ hP)

def P_X9_fault (x1 : Int32) (M : Mem) (L : LMem) (K : Int32 → Mem → LMem → Prop) : Prop := ((x1 = 0 → P_X5_houseFault M L (fun v_8 M_6 L_7 => K v_8 M_6 L_7)) ∧ (¬ (x1 = 0) → ((x1 = (Int32.ofInt 1) → P_X5_dayFault M L (fun v_5 M_3 L_4 => K v_5 M_3 L_4)) ∧ (¬ (x1 = (Int32.ofInt 1)) → K (Int32.ofInt (-2)) M L))))
theorem t_X9_fault {E : VE} {d : Nat} {Q : QQ} {K : Int32 → Mem → LMem → Prop} {x1 : Int32} {M : Mem} {L : LMem} (hP : P_X9_fault x1 M L K) (hK : ∀ (v : Int32) (M : Mem) (L : LMem), K v M L → Q (some (.int v)) M L) : Wp E (d + 4) 62 0 [.ref 0, .int x1] [] M L Q := by
  unfold P_X9_fault at hP
  refine wp_seg (pc' := 1) [.iload 1] (by decide +kernel) (?_ : Wp E (d + 4) 62 1 [.ref 0, .int x1] [.int x1] M L Q)
  refine wp_ifne (off := 11) 12 (by decide +kernel) (by decide) (fun c_1 => ?_) (fun c_1 => ?_)
  · have hP := hP.2 c_1
    refine wp_seg (pc' := 14) [.iload 1, .iconst 1] (by decide +kernel) (?_ : Wp E (d + 4) 62 14 [.ref 0, .int x1] [.int (Int32.ofInt 1), .int x1] M L Q)
    refine wp_icmpne (off := 13) 27 (by decide +kernel) (by decide) (fun c_2 => ?_) (fun c_2 => ?_)
    · have hP := hP.2 c_2
      refine wp_seg (pc' := 29) [.iconst (-2)] (by decide +kernel) (?_ : Wp E (d + 4) 62 29 [.ref 0, .int x1] [.int (Int32.ofInt (-2))] M L Q)
      exact wp_iret (by decide +kernel) rfl (hK _ _ _ hP)
    · have hP := hP.1 c_2
      refine wp_seg (pc' := 21) [.aload 0, .getfield 576] (by decide +kernel) (?_ : Wp E (d + 4) 62 21 [.ref 0, .int x1] [.ref 1] M L Q)
      refine wp_callV 37 1 [] (i := 93) (by decide +kernel) (by decide +kernel) (by decide +kernel) (by decide +kernel) rfl rfl rfl (rest := []) rfl rfl ?_
      refine t_X5_dayFault hP (fun v_5 M_3 L_4 hP => ?_)
      show Wp E (d + 4) 62 24 [.ref 0, .int x1] [.int v_5] M_3 L_4 Q
      refine wp_seg (pc' := 29) [.goto 0] (by decide +kernel) (?_ : Wp E (d + 4) 62 29 [.ref 0, .int x1] [.int v_5] M_3 L_4 Q)
      exact wp_iret (by decide +kernel) rfl (hK _ _ _ hP)
  · have hP := hP.1 c_1
    refine wp_seg (pc' := 8) [.aload 0, .getfield 576] (by decide +kernel) (?_ : Wp E (d + 4) 62 8 [.ref 0, .int x1] [.ref 1] M L Q)
    refine wp_callV 36 1 [] (i := 90) (by decide +kernel) (by decide +kernel) (by decide +kernel) (by decide +kernel) rfl rfl rfl (rest := []) rfl rfl ?_
    refine t_X5_houseFault hP (fun v_8 M_6 L_7 hP => ?_)
    show Wp E (d + 4) 62 11 [.ref 0, .int x1] [.int v_8] M_6 L_7 Q
    exact wp_iret (by decide +kernel) rfl (hK _ _ _ hP)

def P_X9_house (M : Mem) (L : LMem) (K : Int32 → Mem → LMem → Prop) : Prop := P_X5_houseFault M L (fun v_3 M_1 L_2 => ((v_3 = (Int32.ofInt (-6)) → P_X2_read M_1 L_2 (fun M_5 L_6 => P_X3_beginTries (mput (g_X5_empty M_5) 3 8 (Int32.ofInt 0)) L_6 (fun M_7 L_8 => K (M_7 4 4) M_7 L_8))) ∧ (¬ (v_3 = (Int32.ofInt (-6))) → K (Int32.ofInt (-5)) M_1 L_2)))
theorem t_X9_house {E : VE} {d : Nat} {Q : QQ} {K : Int32 → Mem → LMem → Prop} {M : Mem} {L : LMem} (hP : P_X9_house M L K) (hK : ∀ (v : Int32) (M : Mem) (L : LMem), K v M L → Q (some (.int v)) M L) : Wp E (d + 4) 63 0 [.ref 0] [] M L Q := by
  unfold P_X9_house at hP
  refine wp_seg (pc' := 4) [.aload 0, .getfield 576] (by decide +kernel) (?_ : Wp E (d + 4) 63 4 [.ref 0] [.ref 1] M L Q)
  refine wp_callV 36 1 [] (i := 90) (by decide +kernel) (by decide +kernel) (by decide +kernel) (by decide +kernel) rfl rfl rfl (rest := []) rfl rfl ?_
  refine t_X5_houseFault hP (fun v_3 M_1 L_2 hP => ?_)
  show Wp E (d + 4) 63 7 [.ref 0] [.int v_3] M_1 L_2 Q
  refine wp_seg (pc' := 9) [.iconst (-6)] (by decide +kernel) (?_ : Wp E (d + 4) 63 9 [.ref 0] [.int (Int32.ofInt (-6)), .int v_3] M_1 L_2 Q)
  refine wp_icmpeq (off := 6) 15 (by decide +kernel) (by decide) (fun c_4 => ?_) (fun c_4 => ?_)
  · have hP := hP.1 c_4
    refine wp_seg (pc' := 26) [.aload 0, .getfield 577, .getfield 192, .aload 0, .getfield 576] (by decide +kernel) (?_ : Wp E (d + 4) 63 26 [.ref 0] [.ref 1, .ref 4] M_1 L_2 Q)
    refine wp_callV 12 4 [.ref 1] (i := 100) (by decide +kernel) (by decide +kernel) (by decide +kernel) (by decide +kernel) rfl rfl rfl (rest := []) rfl rfl ?_
    refine t_X2_read hP (fun M_5 L_6 hP => ?_)
    show Wp E (d + 4) 63 29 [.ref 0] [] M_5 L_6 Q
    refine wp_seg (pc' := 33) [.aload 0, .getfield 576] (by decide +kernel) (?_ : Wp E (d + 4) 63 33 [.ref 0] [.ref 1] M_5 L_6 Q)
    refine wp_callV 28 1 [] (i := 86) (by decide +kernel) (by decide +kernel) (by decide +kernel) (by decide +kernel) rfl rfl rfl (rest := []) rfl rfl ?_
    refine s_X5_empty M_5  ?_
    show Wp E (d + 4) 63 36 [.ref 0] [.int (f_X5_empty M_5)] (g_X5_empty M_5) L_6 Q
    refine wp_seg (pc' := 49) [.pop, .aload 0, .getfield 577, .iconst 0, .putfield 200, .aload 0, .getfield 577] (by decide +kernel) (?_ : Wp E (d + 4) 63 49 [.ref 0] [.ref 3] (mput (g_X5_empty M_5) 3 8 (Int32.ofInt 0)) L_6 Q)
    refine wp_callV 15 3 [] (i := 109) (by decide +kernel) (by decide +kernel) (by decide +kernel) (by decide +kernel) rfl rfl rfl (rest := []) rfl rfl ?_
    refine t_X3_beginTries hP (fun M_7 L_8 hP => ?_)
    show Wp E (d + 4) 63 52 [.ref 0] [] M_7 L_8 Q
    refine wp_seg (pc' := 62) [.aload 0, .getfield 577, .getfield 192, .getfield 132] (by decide +kernel) (?_ : Wp E (d + 4) 63 62 [.ref 0] [.int (M_7 4 4)] M_7 L_8 Q)
    exact wp_iret (by decide +kernel) rfl (hK _ _ _ hP)
  · have hP := hP.2 c_4
    refine wp_seg (pc' := 14) [.iconst (-5)] (by decide +kernel) (?_ : Wp E (d + 4) 63 14 [.ref 0] [.int (Int32.ofInt (-5))] M_1 L_2 Q)
    exact wp_iret (by decide +kernel) rfl (hK _ _ _ hP)

def P_X9_way (x1 : Int32) (x2 : Int32) (x3 : Int32) (M : Mem) (L : LMem) (K : Int32 → Mem → LMem → Prop) : Prop := (((f_X9_twoRooms M x1 x2) = 0 → K (Int32.ofInt (-1)) M L) ∧ (¬ ((f_X9_twoRooms M x1 x2) = 0) → P_X6_find x1 x2 (Int32.ofInt 0) M L (fun v_4 M_2 L_3 => ((v_4 = 0 → K (Int32.ofInt (-6)) M_2 L_3) ∧ (¬ (v_4 = 0) → ((x3 = (Int32.ofInt (-1)) → K (M_2 37 4) M_2 L_3) ∧ (¬ (x3 = (Int32.ofInt (-1))) → ((x3 = (Int32.ofInt (-2)) → K (M_2 37 3) M_2 L_3) ∧ (¬ (x3 = (Int32.ofInt (-2))) → ((x3 < 0 → K (Int32.ofInt (-6)) M_2 L_3) ∧ (¬ (x3 < 0) → (((M_2 37 3) ≤ x3 → K (Int32.ofInt (-6)) M_2 L_3) ∧ (¬ ((M_2 37 3) ≤ x3) → (vp_in x3 8 ∧ K (M_2 39 x3.toNatClampNeg) M_2 L_3))))))))))))))
theorem t_X9_way {E : VE} {d : Nat} {Q : QQ} {K : Int32 → Mem → LMem → Prop} {x1 : Int32} {x2 : Int32} {x3 : Int32} {M : Mem} {L : LMem} (hP : P_X9_way x1 x2 x3 M L K) (hK : ∀ (v : Int32) (M : Mem) (L : LMem), K v M L → Q (some (.int v)) M L) : Wp E (d + 4) 65 0 [.ref 0, .int x1, .int x2, .int x3] [] M L Q := by
  unfold P_X9_way at hP
  refine wp_seg (pc' := 2) [.iload 1, .iload 2] (by decide +kernel) (?_ : Wp E (d + 4) 65 2 [.ref 0, .int x1, .int x2, .int x3] [.int x2, .int x1] M L Q)
  refine wp_callS 85 [.int x1, .int x2] (i := 136) (by decide +kernel) (by decide +kernel) (by decide +kernel) rfl rfl rfl (rest := []) rfl rfl ?_
  refine s_X9_twoRooms M x1 x2  ?_
  show Wp E (d + 4) 65 5 [.ref 0, .int x1, .int x2, .int x3] [.int (f_X9_twoRooms M x1 x2)] M L Q
  refine wp_ifne (off := 5) 10 (by decide +kernel) (by decide) (fun c_1 => ?_) (fun c_1 => ?_)
  · have hP := hP.2 c_1
    refine wp_seg (pc' := 21) [.aload 0, .getfield 581, .aload 0, .getfield 577, .iload 1, .iload 2, .iconst 0] (by decide +kernel) (?_ : Wp E (d + 4) 65 21 [.ref 0, .int x1, .int x2, .int x3] [.int (Int32.ofInt 0), .int x2, .int x1, .ref 3, .ref 37] M L Q)
    refine wp_callV 38 37 [.ref 3, .int x1, .int x2, .int (Int32.ofInt 0)] (i := 140) (by decide +kernel) (by decide +kernel) (by decide +kernel) (by decide +kernel) rfl rfl rfl (rest := []) rfl rfl ?_
    refine t_X6_find hP (fun v_4 M_2 L_3 hP => ?_)
    show Wp E (d + 4) 65 24 [.ref 0, .int x1, .int x2, .int x3] [.int v_4] M_2 L_3 Q
    refine wp_ifne (off := 6) 30 (by decide +kernel) (by decide) (fun c_5 => ?_) (fun c_5 => ?_)
    · have hP := hP.2 c_5
      refine wp_seg (pc' := 32) [.iload 3, .iconst (-1)] (by decide +kernel) (?_ : Wp E (d + 4) 65 32 [.ref 0, .int x1, .int x2, .int x3] [.int (Int32.ofInt (-1)), .int x3] M_2 L_3 Q)
      refine wp_icmpne (off := 11) 43 (by decide +kernel) (by decide) (fun c_6 => ?_) (fun c_6 => ?_)
      · have hP := hP.2 c_6
        refine wp_seg (pc' := 46) [.iload 3, .iconst (-2)] (by decide +kernel) (?_ : Wp E (d + 4) 65 46 [.ref 0, .int x1, .int x2, .int x3] [.int (Int32.ofInt (-2)), .int x3] M_2 L_3 Q)
        refine wp_icmpne (off := 11) 57 (by decide +kernel) (by decide) (fun c_7 => ?_) (fun c_7 => ?_)
        · have hP := hP.2 c_7
          refine wp_seg (pc' := 58) [.iload 3] (by decide +kernel) (?_ : Wp E (d + 4) 65 58 [.ref 0, .int x1, .int x2, .int x3] [.int x3] M_2 L_3 Q)
          refine wp_iflt (off := 26) 84 (by decide +kernel) (by decide) (fun c_8 => ?_) (fun c_8 => ?_)
          · have hP := hP.1 c_8
            refine wp_seg (pc' := 86) [.iconst (-6)] (by decide +kernel) (?_ : Wp E (d + 4) 65 86 [.ref 0, .int x1, .int x2, .int x3] [.int (Int32.ofInt (-6))] M_2 L_3 Q)
            exact wp_iret (by decide +kernel) rfl (hK _ _ _ hP)
          · have hP := hP.2 c_8
            refine wp_seg (pc' := 69) [.iload 3, .aload 0, .getfield 581, .getfield 387] (by decide +kernel) (?_ : Wp E (d + 4) 65 69 [.ref 0, .int x1, .int x2, .int x3] [.int (M_2 37 3), .int x3] M_2 L_3 Q)
            refine wp_icmpge (off := 15) 84 (by decide +kernel) (by decide) (fun c_9 => ?_) (fun c_9 => ?_)
            · have hP := hP.1 c_9
              refine wp_seg (pc' := 86) [.iconst (-6)] (by decide +kernel) (?_ : Wp E (d + 4) 65 86 [.ref 0, .int x1, .int x2, .int x3] [.int (Int32.ofInt (-6))] M_2 L_3 Q)
              exact wp_iret (by decide +kernel) rfl (hK _ _ _ hP)
            · have hP := hP.2 c_9
              obtain ⟨a_10, hP⟩ := hP
              refine wp_seg (pc' := 81) [.aload 0, .getfield 581, .getfield 385, .iload 3, .iaload] (by decide +kernel) (show aok 39 0 x3 ∧ Wp E (d + 4) 65 81 [.ref 0, .int x1, .int x2, .int x3] [.int (M_2 39 x3.toNatClampNeg)] M_2 L_3 Q from ⟨⟨rfl, a_10⟩, ?_⟩)
              refine wp_seg (pc' := 86) [.goto 0] (by decide +kernel) (?_ : Wp E (d + 4) 65 86 [.ref 0, .int x1, .int x2, .int x3] [.int (M_2 39 x3.toNatClampNeg)] M_2 L_3 Q)
              exact wp_iret (by decide +kernel) rfl (hK _ _ _ hP)
        · have hP := hP.1 c_7
          refine wp_seg (pc' := 56) [.aload 0, .getfield 581, .getfield 387] (by decide +kernel) (?_ : Wp E (d + 4) 65 56 [.ref 0, .int x1, .int x2, .int x3] [.int (M_2 37 3)] M_2 L_3 Q)
          exact wp_iret (by decide +kernel) rfl (hK _ _ _ hP)
      · have hP := hP.1 c_6
        refine wp_seg (pc' := 42) [.aload 0, .getfield 581, .getfield 388] (by decide +kernel) (?_ : Wp E (d + 4) 65 42 [.ref 0, .int x1, .int x2, .int x3] [.int (M_2 37 4)] M_2 L_3 Q)
        exact wp_iret (by decide +kernel) rfl (hK _ _ _ hP)
    · have hP := hP.1 c_5
      refine wp_seg (pc' := 29) [.iconst (-6)] (by decide +kernel) (?_ : Wp E (d + 4) 65 29 [.ref 0, .int x1, .int x2, .int x3] [.int (Int32.ofInt (-6))] M_2 L_3 Q)
      exact wp_iret (by decide +kernel) rfl (hK _ _ _ hP)
  · have hP := hP.1 c_1
    refine wp_seg (pc' := 9) [.iconst (-1)] (by decide +kernel) (?_ : Wp E (d + 4) 65 9 [.ref 0, .int x1, .int x2, .int x3] [.int (Int32.ofInt (-1))] M L Q)
    exact wp_iret (by decide +kernel) rfl (hK _ _ _ hP)

def P_X9_loud (x1 : Int32) (x2 : Int32) (x3 : Int32) (M : Mem) (L : LMem) (K : Int32 → Mem → LMem → Prop) : Prop := (((f_X9_twoRooms M x1 x2) = 0 → K (Int32.ofInt (-1)) M L) ∧ (¬ ((f_X9_twoRooms M x1 x2) = 0) → (((f_X9_isRoom M x3) = 0 → K (Int32.ofInt (-1)) M L) ∧ (¬ ((f_X9_isRoom M x3) = 0) → P_X6_find x1 x2 (Int32.ofInt 0) M L (fun v_5 M_3 L_4 => ((v_5 = 0 → K (Int32.ofInt (-6)) M_3 L_4) ∧ (¬ (v_5 = 0) → P_X6_loudness x3 M_3 L_4 (fun v_9 M_7 L_8 => K v_9 M_7 L_8))))))))
theorem t_X9_loud {E : VE} {d : Nat} {Q : QQ} {K : Int32 → Mem → LMem → Prop} {x1 : Int32} {x2 : Int32} {x3 : Int32} {M : Mem} {L : LMem} (hP : P_X9_loud x1 x2 x3 M L K) (hK : ∀ (v : Int32) (M : Mem) (L : LMem), K v M L → Q (some (.int v)) M L) : Wp E (d + 4) 66 0 [.ref 0, .int x1, .int x2, .int x3] [] M L Q := by
  unfold P_X9_loud at hP
  refine wp_seg (pc' := 2) [.iload 1, .iload 2] (by decide +kernel) (?_ : Wp E (d + 4) 66 2 [.ref 0, .int x1, .int x2, .int x3] [.int x2, .int x1] M L Q)
  refine wp_callS 85 [.int x1, .int x2] (i := 136) (by decide +kernel) (by decide +kernel) (by decide +kernel) rfl rfl rfl (rest := []) rfl rfl ?_
  refine s_X9_twoRooms M x1 x2  ?_
  show Wp E (d + 4) 66 5 [.ref 0, .int x1, .int x2, .int x3] [.int (f_X9_twoRooms M x1 x2)] M L Q
  refine wp_ifeq (off := 10) 15 (by decide +kernel) (by decide) (fun c_1 => ?_) (fun c_1 => ?_)
  · have hP := hP.1 c_1
    refine wp_seg (pc' := 16) [.iconst (-1)] (by decide +kernel) (?_ : Wp E (d + 4) 66 16 [.ref 0, .int x1, .int x2, .int x3] [.int (Int32.ofInt (-1))] M L Q)
    exact wp_iret (by decide +kernel) rfl (hK _ _ _ hP)
  · have hP := hP.2 c_1
    refine wp_seg (pc' := 9) [.iload 3] (by decide +kernel) (?_ : Wp E (d + 4) 66 9 [.ref 0, .int x1, .int x2, .int x3] [.int x3] M L Q)
    refine wp_callS 84 [.int x3] (i := 150) (by decide +kernel) (by decide +kernel) (by decide +kernel) rfl rfl rfl (rest := []) rfl rfl ?_
    refine s_X9_isRoom M x3  ?_
    show Wp E (d + 4) 66 12 [.ref 0, .int x1, .int x2, .int x3] [.int (f_X9_isRoom M x3)] M L Q
    refine wp_ifne (off := 5) 17 (by decide +kernel) (by decide) (fun c_2 => ?_) (fun c_2 => ?_)
    · have hP := hP.2 c_2
      refine wp_seg (pc' := 28) [.aload 0, .getfield 581, .aload 0, .getfield 577, .iload 1, .iload 2, .iconst 0] (by decide +kernel) (?_ : Wp E (d + 4) 66 28 [.ref 0, .int x1, .int x2, .int x3] [.int (Int32.ofInt 0), .int x2, .int x1, .ref 3, .ref 37] M L Q)
      refine wp_callV 38 37 [.ref 3, .int x1, .int x2, .int (Int32.ofInt 0)] (i := 140) (by decide +kernel) (by decide +kernel) (by decide +kernel) (by decide +kernel) rfl rfl rfl (rest := []) rfl rfl ?_
      refine t_X6_find hP (fun v_5 M_3 L_4 hP => ?_)
      show Wp E (d + 4) 66 31 [.ref 0, .int x1, .int x2, .int x3] [.int v_5] M_3 L_4 Q
      refine wp_ifeq (off := 18) 49 (by decide +kernel) (by decide) (fun c_6 => ?_) (fun c_6 => ?_)
      · have hP := hP.1 c_6
        refine wp_seg (pc' := 51) [.iconst (-6)] (by decide +kernel) (?_ : Wp E (d + 4) 66 51 [.ref 0, .int x1, .int x2, .int x3] [.int (Int32.ofInt (-6))] M_3 L_4 Q)
        exact wp_iret (by decide +kernel) rfl (hK _ _ _ hP)
      · have hP := hP.2 c_6
        refine wp_seg (pc' := 43) [.aload 0, .getfield 581, .aload 0, .getfield 577, .iload 3] (by decide +kernel) (?_ : Wp E (d + 4) 66 43 [.ref 0, .int x1, .int x2, .int x3] [.int x3, .ref 3, .ref 37] M_3 L_4 Q)
        refine wp_callV 44 37 [.ref 3, .int x3] (i := 153) (by decide +kernel) (by decide +kernel) (by decide +kernel) (by decide +kernel) rfl rfl rfl (rest := []) rfl rfl ?_
        refine t_X6_loudness hP (fun v_9 M_7 L_8 hP => ?_)
        show Wp E (d + 4) 66 46 [.ref 0, .int x1, .int x2, .int x3] [.int v_9] M_7 L_8 Q
        refine wp_seg (pc' := 51) [.goto 0] (by decide +kernel) (?_ : Wp E (d + 4) 66 51 [.ref 0, .int x1, .int x2, .int x3] [.int v_9] M_7 L_8 Q)
        exact wp_iret (by decide +kernel) rfl (hK _ _ _ hP)
    · have hP := hP.1 c_2
      refine wp_seg (pc' := 16) [.iconst (-1)] (by decide +kernel) (?_ : Wp E (d + 4) 66 16 [.ref 0, .int x1, .int x2, .int x3] [.int (Int32.ofInt (-1))] M L Q)
      exact wp_iret (by decide +kernel) rfl (hK _ _ _ hP)

def P_X9_heard (x1 : Int32) (x2 : Int32) (M : Mem) (L : LMem) (K : Int32 → Mem → LMem → Prop) : Prop := (((f_X9_twoRooms M x1 x2) = 0 → K (Int32.ofInt (-1)) M L) ∧ (¬ ((f_X9_twoRooms M x1 x2) = 0) → P_X6_find x1 x2 (Int32.ofInt 0) M L (fun v_4 M_2 L_3 => ((v_4 = 0 → K (Int32.ofInt (-6)) M_2 L_3) ∧ (¬ (v_4 = 0) → P_X6_hearers (M_2 3 2) M_2 L_3 (fun v_8 M_6 L_7 => K v_8 M_6 L_7))))))
theorem t_X9_heard {E : VE} {d : Nat} {Q : QQ} {K : Int32 → Mem → LMem → Prop} {x1 : Int32} {x2 : Int32} {M : Mem} {L : LMem} (hP : P_X9_heard x1 x2 M L K) (hK : ∀ (v : Int32) (M : Mem) (L : LMem), K v M L → Q (some (.int v)) M L) : Wp E (d + 4) 67 0 [.ref 0, .int x1, .int x2] [] M L Q := by
  unfold P_X9_heard at hP
  refine wp_seg (pc' := 2) [.iload 1, .iload 2] (by decide +kernel) (?_ : Wp E (d + 4) 67 2 [.ref 0, .int x1, .int x2] [.int x2, .int x1] M L Q)
  refine wp_callS 85 [.int x1, .int x2] (i := 136) (by decide +kernel) (by decide +kernel) (by decide +kernel) rfl rfl rfl (rest := []) rfl rfl ?_
  refine s_X9_twoRooms M x1 x2  ?_
  show Wp E (d + 4) 67 5 [.ref 0, .int x1, .int x2] [.int (f_X9_twoRooms M x1 x2)] M L Q
  refine wp_ifne (off := 5) 10 (by decide +kernel) (by decide) (fun c_1 => ?_) (fun c_1 => ?_)
  · have hP := hP.2 c_1
    refine wp_seg (pc' := 21) [.aload 0, .getfield 581, .aload 0, .getfield 577, .iload 1, .iload 2, .iconst 0] (by decide +kernel) (?_ : Wp E (d + 4) 67 21 [.ref 0, .int x1, .int x2] [.int (Int32.ofInt 0), .int x2, .int x1, .ref 3, .ref 37] M L Q)
    refine wp_callV 38 37 [.ref 3, .int x1, .int x2, .int (Int32.ofInt 0)] (i := 140) (by decide +kernel) (by decide +kernel) (by decide +kernel) (by decide +kernel) rfl rfl rfl (rest := []) rfl rfl ?_
    refine t_X6_find hP (fun v_4 M_2 L_3 hP => ?_)
    show Wp E (d + 4) 67 24 [.ref 0, .int x1, .int x2] [.int v_4] M_2 L_3 Q
    refine wp_ifeq (off := 27) 51 (by decide +kernel) (by decide) (fun c_5 => ?_) (fun c_5 => ?_)
    · have hP := hP.1 c_5
      refine wp_seg (pc' := 53) [.iconst (-6)] (by decide +kernel) (?_ : Wp E (d + 4) 67 53 [.ref 0, .int x1, .int x2] [.int (Int32.ofInt (-6))] M_2 L_3 Q)
      exact wp_iret (by decide +kernel) rfl (hK _ _ _ hP)
    · have hP := hP.2 c_5
      refine wp_seg (pc' := 45) [.aload 0, .getfield 581, .aload 0, .getfield 577, .getfield 192, .aload 0, .getfield 577, .getfield 194] (by decide +kernel) (?_ : Wp E (d + 4) 67 45 [.ref 0, .int x1, .int x2] [.int (M_2 3 2), .ref 4, .ref 37] M_2 L_3 Q)
      refine wp_callV 45 37 [.ref 4, .int (M_2 3 2)] (i := 157) (by decide +kernel) (by decide +kernel) (by decide +kernel) (by decide +kernel) rfl rfl rfl (rest := []) rfl rfl ?_
      refine t_X6_hearers hP (fun v_8 M_6 L_7 hP => ?_)
      show Wp E (d + 4) 67 48 [.ref 0, .int x1, .int x2] [.int v_8] M_6 L_7 Q
      refine wp_seg (pc' := 53) [.goto 0] (by decide +kernel) (?_ : Wp E (d + 4) 67 53 [.ref 0, .int x1, .int x2] [.int v_8] M_6 L_7 Q)
      exact wp_iret (by decide +kernel) rfl (hK _ _ _ hP)
  · have hP := hP.1 c_1
    refine wp_seg (pc' := 9) [.iconst (-1)] (by decide +kernel) (?_ : Wp E (d + 4) 67 9 [.ref 0, .int x1, .int x2] [.int (Int32.ofInt (-1))] M L Q)
    exact wp_iret (by decide +kernel) rfl (hK _ _ _ hP)

def P_X9_judge (x1 : Int32) (M : Mem) (L : LMem) (K : Int32 → Mem → LMem → Prop) : Prop := (((f_X9_within M x1 (Int32.ofInt 0) (Int32.ofInt 1)) = 0 → K (Int32.ofInt (-2)) M L) ∧ (¬ ((f_X9_within M x1 (Int32.ofInt 0) (Int32.ofInt 1)) = 0) → P_X5_dayFault M L (fun v_4 M_2 L_3 => ((v_4 = (Int32.ofInt (-6)) → P_X0_run (M_2 3 2) M_2 L_3 (fun M_6 L_7 => (((M_6 41 12) = 0 → K (Int32.ofInt (-6)) M_6 L_7) ∧ (¬ ((M_6 41 12) = 0) → ((x1 = 0 → K (M_6 41 7) M_6 L_7) ∧ (¬ (x1 = 0) → K (M_6 41 12) M_6 L_7)))))) ∧ (¬ (v_4 = (Int32.ofInt (-6))) → K (Int32.ofInt (-5)) M_2 L_3)))))
theorem t_X9_judge {E : VE} {d : Nat} {Q : QQ} {K : Int32 → Mem → LMem → Prop} {x1 : Int32} {M : Mem} {L : LMem} (hP : P_X9_judge x1 M L K) (hK : ∀ (v : Int32) (M : Mem) (L : LMem), K v M L → Q (some (.int v)) M L) : Wp E (d + 6) 68 0 [.ref 0, .int x1] [] M L Q := by
  unfold P_X9_judge at hP
  refine wp_seg (pc' := 3) [.iload 1, .iconst 0, .iconst 1] (by decide +kernel) (?_ : Wp E (d + 6) 68 3 [.ref 0, .int x1] [.int (Int32.ofInt 1), .int (Int32.ofInt 0), .int x1] M L Q)
  refine wp_callS 83 [.int x1, .int (Int32.ofInt 0), .int (Int32.ofInt 1)] (i := 126) (by decide +kernel) (by decide +kernel) (by decide +kernel) rfl rfl rfl (rest := []) rfl rfl ?_
  refine s_X9_within M x1 (Int32.ofInt 0) (Int32.ofInt 1)  ?_
  show Wp E (d + 6) 68 6 [.ref 0, .int x1] [.int (f_X9_within M x1 (Int32.ofInt 0) (Int32.ofInt 1))] M L Q
  refine wp_ifne (off := 6) 12 (by decide +kernel) (by decide) (fun c_1 => ?_) (fun c_1 => ?_)
  · have hP := hP.2 c_1
    refine wp_seg (pc' := 16) [.aload 0, .getfield 576] (by decide +kernel) (?_ : Wp E (d + 6) 68 16 [.ref 0, .int x1] [.ref 1] M L Q)
    refine wp_callV 37 1 [] (i := 93) (by decide +kernel) (by decide +kernel) (by decide +kernel) (by decide +kernel) rfl rfl rfl (rest := []) rfl rfl ?_
    refine t_X5_dayFault hP (fun v_4 M_2 L_3 hP => ?_)
    show Wp E (d + 6) 68 19 [.ref 0, .int x1] [.int v_4] M_2 L_3 Q
    refine wp_seg (pc' := 21) [.iconst (-6)] (by decide +kernel) (?_ : Wp E (d + 6) 68 21 [.ref 0, .int x1] [.int (Int32.ofInt (-6)), .int v_4] M_2 L_3 Q)
    refine wp_icmpeq (off := 6) 27 (by decide +kernel) (by decide) (fun c_5 => ?_) (fun c_5 => ?_)
    · have hP := hP.1 c_5
      refine wp_seg (pc' := 50) [.aload 0, .getfield 582, .aload 0, .getfield 576, .aload 0, .getfield 577, .aload 0, .getfield 581, .aload 0, .getfield 577, .getfield 194] (by decide +kernel) (?_ : Wp E (d + 6) 68 50 [.ref 0, .int x1] [.int (M_2 3 2), .ref 37, .ref 3, .ref 1, .ref 41] M_2 L_3 Q)
      refine wp_callV 0 41 [.ref 1, .ref 3, .ref 37, .int (M_2 3 2)] (i := 161) (by decide +kernel) (by decide +kernel) (by decide +kernel) (by decide +kernel) rfl rfl rfl (rest := []) rfl rfl ?_
      refine t_X0_run hP (fun M_6 L_7 hP => ?_)
      show Wp E (d + 6) 68 53 [.ref 0, .int x1] [] M_6 L_7 Q
      refine wp_seg (pc' := 60) [.aload 0, .getfield 582, .getfield 12] (by decide +kernel) (?_ : Wp E (d + 6) 68 60 [.ref 0, .int x1] [.int (M_6 41 12)] M_6 L_7 Q)
      refine wp_ifne (off := 6) 66 (by decide +kernel) (by decide) (fun c_8 => ?_) (fun c_8 => ?_)
      · have hP := hP.2 c_8
        refine wp_seg (pc' := 67) [.iload 1] (by decide +kernel) (?_ : Wp E (d + 6) 68 67 [.ref 0, .int x1] [.int x1] M_6 L_7 Q)
        refine wp_ifne (off := 13) 80 (by decide +kernel) (by decide) (fun c_9 => ?_) (fun c_9 => ?_)
        · have hP := hP.2 c_9
          refine wp_seg (pc' := 87) [.aload 0, .getfield 582, .getfield 12] (by decide +kernel) (?_ : Wp E (d + 6) 68 87 [.ref 0, .int x1] [.int (M_6 41 12)] M_6 L_7 Q)
          exact wp_iret (by decide +kernel) rfl (hK _ _ _ hP)
        · have hP := hP.1 c_9
          refine wp_seg (pc' := 87) [.aload 0, .getfield 582, .getfield 7, .goto 0] (by decide +kernel) (?_ : Wp E (d + 6) 68 87 [.ref 0, .int x1] [.int (M_6 41 7)] M_6 L_7 Q)
          exact wp_iret (by decide +kernel) rfl (hK _ _ _ hP)
      · have hP := hP.1 c_8
        refine wp_seg (pc' := 65) [.iconst (-6)] (by decide +kernel) (?_ : Wp E (d + 6) 68 65 [.ref 0, .int x1] [.int (Int32.ofInt (-6))] M_6 L_7 Q)
        exact wp_iret (by decide +kernel) rfl (hK _ _ _ hP)
    · have hP := hP.2 c_5
      refine wp_seg (pc' := 26) [.iconst (-5)] (by decide +kernel) (?_ : Wp E (d + 6) 68 26 [.ref 0, .int x1] [.int (Int32.ofInt (-5))] M_2 L_3 Q)
      exact wp_iret (by decide +kernel) rfl (hK _ _ _ hP)
  · have hP := hP.1 c_1
    refine wp_seg (pc' := 11) [.iconst (-2)] (by decide +kernel) (?_ : Wp E (d + 6) 68 11 [.ref 0, .int x1] [.int (Int32.ofInt (-2))] M L Q)
    exact wp_iret (by decide +kernel) rfl (hK _ _ _ hP)

def P_X9_day (x1 : Int32) (M : Mem) (L : LMem) (K : Int32 → Mem → LMem → Prop) : Prop := (((f_X9_within M x1 (Int32.ofInt 0) (Int32.ofInt 2)) = 0 → K (Int32.ofInt (-2)) M L) ∧ (¬ ((f_X9_within M x1 (Int32.ofInt 0) (Int32.ofInt 2)) = 0) → P_X5_dayFault M L (fun v_4 M_2 L_3 => ((v_4 = (Int32.ofInt (-6)) → P_X0_run (M_2 3 2) M_2 L_3 (fun M_6 L_7 => (((M_6 41 12) = 0 → ((x1 = 0 → K (M_6 41 9) M_6 L_7) ∧ (¬ (x1 = 0) → ((x1 = (Int32.ofInt 1) → K (M_6 41 10) M_6 L_7) ∧ (¬ (x1 = (Int32.ofInt 1)) → K (M_6 41 11) M_6 L_7))))) ∧ (¬ ((M_6 41 12) = 0) → K (Int32.ofInt (-3)) M_6 L_7)))) ∧ (¬ (v_4 = (Int32.ofInt (-6))) → K (Int32.ofInt (-5)) M_2 L_3)))))
theorem t_X9_day {E : VE} {d : Nat} {Q : QQ} {K : Int32 → Mem → LMem → Prop} {x1 : Int32} {M : Mem} {L : LMem} (hP : P_X9_day x1 M L K) (hK : ∀ (v : Int32) (M : Mem) (L : LMem), K v M L → Q (some (.int v)) M L) : Wp E (d + 6) 69 0 [.ref 0, .int x1] [] M L Q := by
  unfold P_X9_day at hP
  refine wp_seg (pc' := 3) [.iload 1, .iconst 0, .iconst 2] (by decide +kernel) (?_ : Wp E (d + 6) 69 3 [.ref 0, .int x1] [.int (Int32.ofInt 2), .int (Int32.ofInt 0), .int x1] M L Q)
  refine wp_callS 83 [.int x1, .int (Int32.ofInt 0), .int (Int32.ofInt 2)] (i := 126) (by decide +kernel) (by decide +kernel) (by decide +kernel) rfl rfl rfl (rest := []) rfl rfl ?_
  refine s_X9_within M x1 (Int32.ofInt 0) (Int32.ofInt 2)  ?_
  show Wp E (d + 6) 69 6 [.ref 0, .int x1] [.int (f_X9_within M x1 (Int32.ofInt 0) (Int32.ofInt 2))] M L Q
  refine wp_ifne (off := 6) 12 (by decide +kernel) (by decide) (fun c_1 => ?_) (fun c_1 => ?_)
  · have hP := hP.2 c_1
    refine wp_seg (pc' := 16) [.aload 0, .getfield 576] (by decide +kernel) (?_ : Wp E (d + 6) 69 16 [.ref 0, .int x1] [.ref 1] M L Q)
    refine wp_callV 37 1 [] (i := 93) (by decide +kernel) (by decide +kernel) (by decide +kernel) (by decide +kernel) rfl rfl rfl (rest := []) rfl rfl ?_
    refine t_X5_dayFault hP (fun v_4 M_2 L_3 hP => ?_)
    show Wp E (d + 6) 69 19 [.ref 0, .int x1] [.int v_4] M_2 L_3 Q
    refine wp_seg (pc' := 21) [.iconst (-6)] (by decide +kernel) (?_ : Wp E (d + 6) 69 21 [.ref 0, .int x1] [.int (Int32.ofInt (-6)), .int v_4] M_2 L_3 Q)
    refine wp_icmpeq (off := 6) 27 (by decide +kernel) (by decide) (fun c_5 => ?_) (fun c_5 => ?_)
    · have hP := hP.1 c_5
      refine wp_seg (pc' := 50) [.aload 0, .getfield 582, .aload 0, .getfield 576, .aload 0, .getfield 577, .aload 0, .getfield 581, .aload 0, .getfield 577, .getfield 194] (by decide +kernel) (?_ : Wp E (d + 6) 69 50 [.ref 0, .int x1] [.int (M_2 3 2), .ref 37, .ref 3, .ref 1, .ref 41] M_2 L_3 Q)
      refine wp_callV 0 41 [.ref 1, .ref 3, .ref 37, .int (M_2 3 2)] (i := 161) (by decide +kernel) (by decide +kernel) (by decide +kernel) (by decide +kernel) rfl rfl rfl (rest := []) rfl rfl ?_
      refine t_X0_run hP (fun M_6 L_7 hP => ?_)
      show Wp E (d + 6) 69 53 [.ref 0, .int x1] [] M_6 L_7 Q
      refine wp_seg (pc' := 60) [.aload 0, .getfield 582, .getfield 12] (by decide +kernel) (?_ : Wp E (d + 6) 69 60 [.ref 0, .int x1] [.int (M_6 41 12)] M_6 L_7 Q)
      refine wp_ifeq (off := 6) 66 (by decide +kernel) (by decide) (fun c_8 => ?_) (fun c_8 => ?_)
      · have hP := hP.1 c_8
        refine wp_seg (pc' := 67) [.iload 1] (by decide +kernel) (?_ : Wp E (d + 6) 69 67 [.ref 0, .int x1] [.int x1] M_6 L_7 Q)
        refine wp_ifne (off := 11) 78 (by decide +kernel) (by decide) (fun c_9 => ?_) (fun c_9 => ?_)
        · have hP := hP.2 c_9
          refine wp_seg (pc' := 80) [.iload 1, .iconst 1] (by decide +kernel) (?_ : Wp E (d + 6) 69 80 [.ref 0, .int x1] [.int (Int32.ofInt 1), .int x1] M_6 L_7 Q)
          refine wp_icmpne (off := 13) 93 (by decide +kernel) (by decide) (fun c_10 => ?_) (fun c_10 => ?_)
          · have hP := hP.2 c_10
            refine wp_seg (pc' := 100) [.aload 0, .getfield 582, .getfield 11] (by decide +kernel) (?_ : Wp E (d + 6) 69 100 [.ref 0, .int x1] [.int (M_6 41 11)] M_6 L_7 Q)
            exact wp_iret (by decide +kernel) rfl (hK _ _ _ hP)
          · have hP := hP.1 c_10
            refine wp_seg (pc' := 100) [.aload 0, .getfield 582, .getfield 10, .goto 0] (by decide +kernel) (?_ : Wp E (d + 6) 69 100 [.ref 0, .int x1] [.int (M_6 41 10)] M_6 L_7 Q)
            exact wp_iret (by decide +kernel) rfl (hK _ _ _ hP)
        · have hP := hP.1 c_9
          refine wp_seg (pc' := 77) [.aload 0, .getfield 582, .getfield 9] (by decide +kernel) (?_ : Wp E (d + 6) 69 77 [.ref 0, .int x1] [.int (M_6 41 9)] M_6 L_7 Q)
          exact wp_iret (by decide +kernel) rfl (hK _ _ _ hP)
      · have hP := hP.2 c_8
        refine wp_seg (pc' := 65) [.iconst (-3)] (by decide +kernel) (?_ : Wp E (d + 6) 69 65 [.ref 0, .int x1] [.int (Int32.ofInt (-3))] M_6 L_7 Q)
        exact wp_iret (by decide +kernel) rfl (hK _ _ _ hP)
    · have hP := hP.2 c_5
      refine wp_seg (pc' := 26) [.iconst (-5)] (by decide +kernel) (?_ : Wp E (d + 6) 69 26 [.ref 0, .int x1] [.int (Int32.ofInt (-5))] M_2 L_3 Q)
      exact wp_iret (by decide +kernel) rfl (hK _ _ _ hP)
  · have hP := hP.1 c_1
    refine wp_seg (pc' := 11) [.iconst (-2)] (by decide +kernel) (?_ : Wp E (d + 6) 69 11 [.ref 0, .int x1] [.int (Int32.ofInt (-2))] M L Q)
    exact wp_iret (by decide +kernel) rfl (hK _ _ _ hP)

def P_X9_knows (x1 : Int32) (x2 : Int32) (M : Mem) (L : LMem) (K : Int32 → Mem → LMem → Prop) : Prop := (((f_X9_isRoom M x1) = 0 → K (Int32.ofInt (-1)) M L) ∧ (¬ ((f_X9_isRoom M x1) = 0) → (((f_X9_within M x2 (Int32.ofInt 0) (Int32.ofInt 1)) = 0 → K (Int32.ofInt (-2)) M L) ∧ (¬ ((f_X9_within M x2 (Int32.ofInt 0) (Int32.ofInt 1)) = 0) → P_X5_dayFault M L (fun v_5 M_3 L_4 => ((v_5 = (Int32.ofInt (-6)) → ((x2 = (Int32.ofInt 1) → P_X0_run (Int32.ofInt 0) M_3 L_4 (fun M_12 L_13 => (((M_12 41 12) = 0 → (vp_in x1 8 ∧ K (M_12 48 x1.toNatClampNeg) M_12 L_13)) ∧ (¬ ((M_12 41 12) = 0) → K (Int32.ofInt (-3)) M_12 L_13)))) ∧ (¬ (x2 = (Int32.ofInt 1)) → P_X0_run (M_3 3 2) M_3 L_4 (fun M_8 L_9 => (((M_8 41 12) = 0 → (vp_in x1 8 ∧ K (M_8 48 x1.toNatClampNeg) M_8 L_9)) ∧ (¬ ((M_8 41 12) = 0) → K (Int32.ofInt (-3)) M_8 L_9)))))) ∧ (¬ (v_5 = (Int32.ofInt (-6))) → K (Int32.ofInt (-5)) M_3 L_4)))))))
theorem t_X9_knows {E : VE} {d : Nat} {Q : QQ} {K : Int32 → Mem → LMem → Prop} {x1 : Int32} {x2 : Int32} {M : Mem} {L : LMem} (hP : P_X9_knows x1 x2 M L K) (hK : ∀ (v : Int32) (M : Mem) (L : LMem), K v M L → Q (some (.int v)) M L) : Wp E (d + 6) 71 0 [.ref 0, .int x1, .int x2] [] M L Q := by
  unfold P_X9_knows at hP
  refine wp_seg (pc' := 1) [.iload 1] (by decide +kernel) (?_ : Wp E (d + 6) 71 1 [.ref 0, .int x1, .int x2] [.int x1] M L Q)
  refine wp_callS 84 [.int x1] (i := 150) (by decide +kernel) (by decide +kernel) (by decide +kernel) rfl rfl rfl (rest := []) rfl rfl ?_
  refine s_X9_isRoom M x1  ?_
  show Wp E (d + 6) 71 4 [.ref 0, .int x1, .int x2] [.int (f_X9_isRoom M x1)] M L Q
  refine wp_ifne (off := 5) 9 (by decide +kernel) (by decide) (fun c_1 => ?_) (fun c_1 => ?_)
  · have hP := hP.2 c_1
    refine wp_seg (pc' := 12) [.iload 2, .iconst 0, .iconst 1] (by decide +kernel) (?_ : Wp E (d + 6) 71 12 [.ref 0, .int x1, .int x2] [.int (Int32.ofInt 1), .int (Int32.ofInt 0), .int x2] M L Q)
    refine wp_callS 83 [.int x2, .int (Int32.ofInt 0), .int (Int32.ofInt 1)] (i := 126) (by decide +kernel) (by decide +kernel) (by decide +kernel) rfl rfl rfl (rest := []) rfl rfl ?_
    refine s_X9_within M x2 (Int32.ofInt 0) (Int32.ofInt 1)  ?_
    show Wp E (d + 6) 71 15 [.ref 0, .int x1, .int x2] [.int (f_X9_within M x2 (Int32.ofInt 0) (Int32.ofInt 1))] M L Q
    refine wp_ifne (off := 6) 21 (by decide +kernel) (by decide) (fun c_2 => ?_) (fun c_2 => ?_)
    · have hP := hP.2 c_2
      refine wp_seg (pc' := 25) [.aload 0, .getfield 576] (by decide +kernel) (?_ : Wp E (d + 6) 71 25 [.ref 0, .int x1, .int x2] [.ref 1] M L Q)
      refine wp_callV 37 1 [] (i := 93) (by decide +kernel) (by decide +kernel) (by decide +kernel) (by decide +kernel) rfl rfl rfl (rest := []) rfl rfl ?_
      refine t_X5_dayFault hP (fun v_5 M_3 L_4 hP => ?_)
      show Wp E (d + 6) 71 28 [.ref 0, .int x1, .int x2] [.int v_5] M_3 L_4 Q
      refine wp_seg (pc' := 30) [.iconst (-6)] (by decide +kernel) (?_ : Wp E (d + 6) 71 30 [.ref 0, .int x1, .int x2] [.int (Int32.ofInt (-6)), .int v_5] M_3 L_4 Q)
      refine wp_icmpeq (off := 6) 36 (by decide +kernel) (by decide) (fun c_6 => ?_) (fun c_6 => ?_)
      · have hP := hP.1 c_6
        refine wp_seg (pc' := 54) [.aload 0, .getfield 582, .aload 0, .getfield 576, .aload 0, .getfield 577, .aload 0, .getfield 581, .iload 2, .iconst 1] (by decide +kernel) (?_ : Wp E (d + 6) 71 54 [.ref 0, .int x1, .int x2] [.int (Int32.ofInt 1), .int x2, .ref 37, .ref 3, .ref 1, .ref 41] M_3 L_4 Q)
        refine wp_icmpne (off := 7) 61 (by decide +kernel) (by decide) (fun c_7 => ?_) (fun c_7 => ?_)
        · have hP := hP.2 c_7
          refine wp_seg (pc' := 68) [.aload 0, .getfield 577, .getfield 194] (by decide +kernel) (?_ : Wp E (d + 6) 71 68 [.ref 0, .int x1, .int x2] [.int (M_3 3 2), .ref 37, .ref 3, .ref 1, .ref 41] M_3 L_4 Q)
          refine wp_callV 0 41 [.ref 1, .ref 3, .ref 37, .int (M_3 3 2)] (i := 161) (by decide +kernel) (by decide +kernel) (by decide +kernel) (by decide +kernel) rfl rfl rfl (rest := []) rfl rfl ?_
          refine t_X0_run hP (fun M_8 L_9 hP => ?_)
          show Wp E (d + 6) 71 71 [.ref 0, .int x1, .int x2] [] M_8 L_9 Q
          refine wp_seg (pc' := 78) [.aload 0, .getfield 582, .getfield 12] (by decide +kernel) (?_ : Wp E (d + 6) 71 78 [.ref 0, .int x1, .int x2] [.int (M_8 41 12)] M_8 L_9 Q)
          refine wp_ifne (off := 15) 93 (by decide +kernel) (by decide) (fun c_10 => ?_) (fun c_10 => ?_)
          · have hP := hP.2 c_10
            refine wp_seg (pc' := 95) [.iconst (-3)] (by decide +kernel) (?_ : Wp E (d + 6) 71 95 [.ref 0, .int x1, .int x2] [.int (Int32.ofInt (-3))] M_8 L_9 Q)
            exact wp_iret (by decide +kernel) rfl (hK _ _ _ hP)
          · have hP := hP.1 c_10
            obtain ⟨a_11, hP⟩ := hP
            refine wp_seg (pc' := 90) [.aload 0, .getfield 582, .getfield 6, .iload 1, .iaload] (by decide +kernel) (show aok 48 0 x1 ∧ Wp E (d + 6) 71 90 [.ref 0, .int x1, .int x2] [.int (M_8 48 x1.toNatClampNeg)] M_8 L_9 Q from ⟨⟨rfl, a_11⟩, ?_⟩)
            refine wp_seg (pc' := 95) [.goto 0] (by decide +kernel) (?_ : Wp E (d + 6) 71 95 [.ref 0, .int x1, .int x2] [.int (M_8 48 x1.toNatClampNeg)] M_8 L_9 Q)
            exact wp_iret (by decide +kernel) rfl (hK _ _ _ hP)
        · have hP := hP.1 c_7
          refine wp_seg (pc' := 68) [.iconst 0, .goto 0] (by decide +kernel) (?_ : Wp E (d + 6) 71 68 [.ref 0, .int x1, .int x2] [.int (Int32.ofInt 0), .ref 37, .ref 3, .ref 1, .ref 41] M_3 L_4 Q)
          refine wp_callV 0 41 [.ref 1, .ref 3, .ref 37, .int (Int32.ofInt 0)] (i := 161) (by decide +kernel) (by decide +kernel) (by decide +kernel) (by decide +kernel) rfl rfl rfl (rest := []) rfl rfl ?_
          refine t_X0_run hP (fun M_12 L_13 hP => ?_)
          show Wp E (d + 6) 71 71 [.ref 0, .int x1, .int x2] [] M_12 L_13 Q
          refine wp_seg (pc' := 78) [.aload 0, .getfield 582, .getfield 12] (by decide +kernel) (?_ : Wp E (d + 6) 71 78 [.ref 0, .int x1, .int x2] [.int (M_12 41 12)] M_12 L_13 Q)
          refine wp_ifne (off := 15) 93 (by decide +kernel) (by decide) (fun c_14 => ?_) (fun c_14 => ?_)
          · have hP := hP.2 c_14
            refine wp_seg (pc' := 95) [.iconst (-3)] (by decide +kernel) (?_ : Wp E (d + 6) 71 95 [.ref 0, .int x1, .int x2] [.int (Int32.ofInt (-3))] M_12 L_13 Q)
            exact wp_iret (by decide +kernel) rfl (hK _ _ _ hP)
          · have hP := hP.1 c_14
            obtain ⟨a_15, hP⟩ := hP
            refine wp_seg (pc' := 90) [.aload 0, .getfield 582, .getfield 6, .iload 1, .iaload] (by decide +kernel) (show aok 48 0 x1 ∧ Wp E (d + 6) 71 90 [.ref 0, .int x1, .int x2] [.int (M_12 48 x1.toNatClampNeg)] M_12 L_13 Q from ⟨⟨rfl, a_15⟩, ?_⟩)
            refine wp_seg (pc' := 95) [.goto 0] (by decide +kernel) (?_ : Wp E (d + 6) 71 95 [.ref 0, .int x1, .int x2] [.int (M_12 48 x1.toNatClampNeg)] M_12 L_13 Q)
            exact wp_iret (by decide +kernel) rfl (hK _ _ _ hP)
      · have hP := hP.2 c_6
        refine wp_seg (pc' := 35) [.iconst (-5)] (by decide +kernel) (?_ : Wp E (d + 6) 71 35 [.ref 0, .int x1, .int x2] [.int (Int32.ofInt (-5))] M_3 L_4 Q)
        exact wp_iret (by decide +kernel) rfl (hK _ _ _ hP)
    · have hP := hP.1 c_2
      refine wp_seg (pc' := 20) [.iconst (-2)] (by decide +kernel) (?_ : Wp E (d + 6) 71 20 [.ref 0, .int x1, .int x2] [.int (Int32.ofInt (-2))] M L Q)
      exact wp_iret (by decide +kernel) rfl (hK _ _ _ hP)
  · have hP := hP.1 c_1
    refine wp_seg (pc' := 8) [.iconst (-1)] (by decide +kernel) (?_ : Wp E (d + 6) 71 8 [.ref 0, .int x1, .int x2] [.int (Int32.ofInt (-1))] M L Q)
    exact wp_iret (by decide +kernel) rfl (hK _ _ _ hP)

def P_X9_soonest (x1 : Int32) (M : Mem) (L : LMem) (K : Int32 → Mem → LMem → Prop) : Prop := P_X4_gather M L (fun v_3 M_1 L_2 => ((v_3 = 0 → K (Int32.ofInt (-6)) M_1 L_2) ∧ (¬ (v_3 = 0) → P_X4_seek (Int32.ofInt 0) M_1 L_2 (fun M_5 L_6 => ((x1 = (Int32.ofInt (-1)) → K (M_5 49 9) M_5 L_6) ∧ (¬ (x1 = (Int32.ofInt (-1))) → ((¬ (x1 < 0) → ¬ ((M_5 49 7) ≤ x1) → vp_in x1 5) ∧ K (f_X4_callAt M_5 x1) M_5 L_6)))))))
theorem t_X9_soonest {E : VE} {d : Nat} {Q : QQ} {K : Int32 → Mem → LMem → Prop} {x1 : Int32} {M : Mem} {L : LMem} (hP : P_X9_soonest x1 M L K) (hK : ∀ (v : Int32) (M : Mem) (L : LMem), K v M L → Q (some (.int v)) M L) : Wp E (d + 5) 74 0 [.ref 0, .int x1] [] M L Q := by
  unfold P_X9_soonest at hP
  refine wp_seg (pc' := 12) [.aload 0, .getfield 583, .aload 0, .getfield 577, .aload 0, .getfield 581] (by decide +kernel) (?_ : Wp E (d + 5) 74 12 [.ref 0, .int x1] [.ref 37, .ref 3, .ref 49] M L Q)
  refine wp_callV 17 49 [.ref 3, .ref 37] (i := 190) (by decide +kernel) (by decide +kernel) (by decide +kernel) (by decide +kernel) rfl rfl rfl (rest := []) rfl rfl ?_
  refine t_X4_gather hP (fun v_3 M_1 L_2 hP => ?_)
  show Wp E (d + 5) 74 15 [.ref 0, .int x1] [.int v_3] M_1 L_2 Q
  refine wp_ifne (off := 6) 21 (by decide +kernel) (by decide) (fun c_4 => ?_) (fun c_4 => ?_)
  · have hP := hP.2 c_4
    refine wp_seg (pc' := 26) [.aload 0, .getfield 583, .iconst 0] (by decide +kernel) (?_ : Wp E (d + 5) 74 26 [.ref 0, .int x1] [.int (Int32.ofInt 0), .ref 49] M_1 L_2 Q)
    refine wp_callV 18 49 [.int (Int32.ofInt 0)] (i := 194) (by decide +kernel) (by decide +kernel) (by decide +kernel) (by decide +kernel) rfl rfl rfl (rest := []) rfl rfl ?_
    refine t_X4_seek hP (fun M_5 L_6 hP => ?_)
    show Wp E (d + 5) 74 29 [.ref 0, .int x1] [] M_5 L_6 Q
    refine wp_seg (pc' := 31) [.iload 1, .iconst (-1)] (by decide +kernel) (?_ : Wp E (d + 5) 74 31 [.ref 0, .int x1] [.int (Int32.ofInt (-1)), .int x1] M_5 L_6 Q)
    refine wp_icmpne (off := 13) 44 (by decide +kernel) (by decide) (fun c_7 => ?_) (fun c_7 => ?_)
    · have hP := hP.2 c_7
      refine wp_seg (pc' := 49) [.aload 0, .getfield 583, .iload 1] (by decide +kernel) (?_ : Wp E (d + 5) 74 49 [.ref 0, .int x1] [.int x1, .ref 49] M_5 L_6 Q)
      refine wp_callV 19 49 [.int x1] (i := 201) (by decide +kernel) (by decide +kernel) (by decide +kernel) (by decide +kernel) rfl rfl rfl (rest := []) rfl rfl ?_
      obtain ⟨a_8, hP⟩ := hP
      refine s_X4_callAt M_5 x1 a_8 ?_
      show Wp E (d + 5) 74 52 [.ref 0, .int x1] [.int (f_X4_callAt M_5 x1)] M_5 L_6 Q
      exact wp_iret (by decide +kernel) rfl (hK _ _ _ hP)
    · have hP := hP.1 c_7
      refine wp_seg (pc' := 52) [.aload 0, .getfield 583, .getfield 265, .goto 0] (by decide +kernel) (?_ : Wp E (d + 5) 74 52 [.ref 0, .int x1] [.int (M_5 49 9)] M_5 L_6 Q)
      exact wp_iret (by decide +kernel) rfl (hK _ _ _ hP)
  · have hP := hP.1 c_4
    refine wp_seg (pc' := 20) [.iconst (-6)] (by decide +kernel) (?_ : Wp E (d + 5) 74 20 [.ref 0, .int x1] [.int (Int32.ofInt (-6))] M_1 L_2 Q)
    exact wp_iret (by decide +kernel) rfl (hK _ _ _ hP)

def P_X9_byDue (x1 : Int32) (M : Mem) (L : LMem) (K : Int32 → Mem → LMem → Prop) : Prop := P_X4_gather M L (fun v_3 M_1 L_2 => ((v_3 = 0 → K (Int32.ofInt (-6)) M_1 L_2) ∧ (¬ (v_3 = 0) → P_X4_seek (Int32.ofInt 1) M_1 L_2 (fun M_5 L_6 => (((M_5 49 10) = 0 → K (Int32.ofInt (-6)) M_5 L_6) ∧ (¬ ((M_5 49 10) = 0) → ((x1 = (Int32.ofInt (-1)) → K (Int32.ofInt 1) M_5 L_6) ∧ (¬ (x1 = (Int32.ofInt (-1))) → ((¬ (x1 < 0) → ¬ ((M_5 49 7) ≤ x1) → vp_in x1 5) ∧ K (f_X4_callAt M_5 x1) M_5 L_6)))))))))
theorem t_X9_byDue {E : VE} {d : Nat} {Q : QQ} {K : Int32 → Mem → LMem → Prop} {x1 : Int32} {M : Mem} {L : LMem} (hP : P_X9_byDue x1 M L K) (hK : ∀ (v : Int32) (M : Mem) (L : LMem), K v M L → Q (some (.int v)) M L) : Wp E (d + 5) 75 0 [.ref 0, .int x1] [] M L Q := by
  unfold P_X9_byDue at hP
  refine wp_seg (pc' := 12) [.aload 0, .getfield 583, .aload 0, .getfield 577, .aload 0, .getfield 581] (by decide +kernel) (?_ : Wp E (d + 5) 75 12 [.ref 0, .int x1] [.ref 37, .ref 3, .ref 49] M L Q)
  refine wp_callV 17 49 [.ref 3, .ref 37] (i := 190) (by decide +kernel) (by decide +kernel) (by decide +kernel) (by decide +kernel) rfl rfl rfl (rest := []) rfl rfl ?_
  refine t_X4_gather hP (fun v_3 M_1 L_2 hP => ?_)
  show Wp E (d + 5) 75 15 [.ref 0, .int x1] [.int v_3] M_1 L_2 Q
  refine wp_ifne (off := 6) 21 (by decide +kernel) (by decide) (fun c_4 => ?_) (fun c_4 => ?_)
  · have hP := hP.2 c_4
    refine wp_seg (pc' := 26) [.aload 0, .getfield 583, .iconst 1] (by decide +kernel) (?_ : Wp E (d + 5) 75 26 [.ref 0, .int x1] [.int (Int32.ofInt 1), .ref 49] M_1 L_2 Q)
    refine wp_callV 18 49 [.int (Int32.ofInt 1)] (i := 194) (by decide +kernel) (by decide +kernel) (by decide +kernel) (by decide +kernel) rfl rfl rfl (rest := []) rfl rfl ?_
    refine t_X4_seek hP (fun M_5 L_6 hP => ?_)
    show Wp E (d + 5) 75 29 [.ref 0, .int x1] [] M_5 L_6 Q
    refine wp_seg (pc' := 36) [.aload 0, .getfield 583, .getfield 266] (by decide +kernel) (?_ : Wp E (d + 5) 75 36 [.ref 0, .int x1] [.int (M_5 49 10)] M_5 L_6 Q)
    refine wp_ifne (off := 6) 42 (by decide +kernel) (by decide) (fun c_7 => ?_) (fun c_7 => ?_)
    · have hP := hP.2 c_7
      refine wp_seg (pc' := 44) [.iload 1, .iconst (-1)] (by decide +kernel) (?_ : Wp E (d + 5) 75 44 [.ref 0, .int x1] [.int (Int32.ofInt (-1)), .int x1] M_5 L_6 Q)
      refine wp_icmpne (off := 7) 51 (by decide +kernel) (by decide) (fun c_8 => ?_) (fun c_8 => ?_)
      · have hP := hP.2 c_8
        refine wp_seg (pc' := 56) [.aload 0, .getfield 583, .iload 1] (by decide +kernel) (?_ : Wp E (d + 5) 75 56 [.ref 0, .int x1] [.int x1, .ref 49] M_5 L_6 Q)
        refine wp_callV 19 49 [.int x1] (i := 201) (by decide +kernel) (by decide +kernel) (by decide +kernel) (by decide +kernel) rfl rfl rfl (rest := []) rfl rfl ?_
        obtain ⟨a_9, hP⟩ := hP
        refine s_X4_callAt M_5 x1 a_9 ?_
        show Wp E (d + 5) 75 59 [.ref 0, .int x1] [.int (f_X4_callAt M_5 x1)] M_5 L_6 Q
        exact wp_iret (by decide +kernel) rfl (hK _ _ _ hP)
      · have hP := hP.1 c_8
        refine wp_seg (pc' := 59) [.iconst 1, .goto 0] (by decide +kernel) (?_ : Wp E (d + 5) 75 59 [.ref 0, .int x1] [.int (Int32.ofInt 1)] M_5 L_6 Q)
        exact wp_iret (by decide +kernel) rfl (hK _ _ _ hP)
    · have hP := hP.1 c_7
      refine wp_seg (pc' := 41) [.iconst (-6)] (by decide +kernel) (?_ : Wp E (d + 5) 75 41 [.ref 0, .int x1] [.int (Int32.ofInt (-6))] M_5 L_6 Q)
      exact wp_iret (by decide +kernel) rfl (hK _ _ _ hP)
  · have hP := hP.1 c_4
    refine wp_seg (pc' := 20) [.iconst (-6)] (by decide +kernel) (?_ : Wp E (d + 5) 75 20 [.ref 0, .int x1] [.int (Int32.ofInt (-6))] M_1 L_2 Q)
    exact wp_iret (by decide +kernel) rfl (hK _ _ _ hP)

def P_X9_tried (x1 : Int32) (x2 : Int32) (x3 : Int32) (M : Mem) (L : LMem) (K : Int32 → Mem → LMem → Prop) : Prop := (((f_X9_twoRooms M x1 x2) = 0 → K (Int32.ofInt (-1)) M L) ∧ (¬ ((f_X9_twoRooms M x1 x2) = 0) → P_X6_find x1 x2 (Int32.ofInt 0) M L (fun v_4 M_2 L_3 => ((v_4 = 0 → K (Int32.ofInt (-3)) M_2 L_3) ∧ (¬ (v_4 = 0) → (((M_2 3 9) < (Int32.ofInt 99) → ((x3 = 0 → K (f_J6_bitCount_0f7a4 (mput (mput M_2 3 9 ((M_2 3 9) + (Int32.ofInt 1))) 3 10 ((M_2 3 10) &&& (M_2 37 5))) ((M_2 3 10) &&& (M_2 37 5))) (mput (mput M_2 3 9 ((M_2 3 9) + (Int32.ofInt 1))) 3 10 ((M_2 3 10) &&& (M_2 37 5))) L_3) ∧ (¬ (x3 = 0) → K (f_J6_bitCount_0f7a4 (mput (mput M_2 3 9 ((M_2 3 9) + (Int32.ofInt 1))) 3 10 ((M_2 3 10) &&& ((M_2 37 5) ^^^ (Int32.ofInt (-1))))) ((M_2 3 10) &&& ((M_2 37 5) ^^^ (Int32.ofInt (-1))))) (mput (mput M_2 3 9 ((M_2 3 9) + (Int32.ofInt 1))) 3 10 ((M_2 3 10) &&& ((M_2 37 5) ^^^ (Int32.ofInt (-1))))) L_3))) ∧ (¬ ((M_2 3 9) < (Int32.ofInt 99)) → K (Int32.ofInt (-4)) M_2 L_3)))))))
theorem t_X9_tried {E : VE} {d : Nat} {Q : QQ} {K : Int32 → Mem → LMem → Prop} {x1 : Int32} {x2 : Int32} {x3 : Int32} {M : Mem} {L : LMem} (hP : P_X9_tried x1 x2 x3 M L K) (hK : ∀ (v : Int32) (M : Mem) (L : LMem), K v M L → Q (some (.int v)) M L) : Wp E (d + 4) 77 0 [.ref 0, .int x1, .int x2, .int x3] [] M L Q := by
  unfold P_X9_tried at hP
  refine wp_seg (pc' := 2) [.iload 1, .iload 2] (by decide +kernel) (?_ : Wp E (d + 4) 77 2 [.ref 0, .int x1, .int x2, .int x3] [.int x2, .int x1] M L Q)
  refine wp_callS 85 [.int x1, .int x2] (i := 136) (by decide +kernel) (by decide +kernel) (by decide +kernel) rfl rfl rfl (rest := []) rfl rfl ?_
  refine s_X9_twoRooms M x1 x2  ?_
  show Wp E (d + 4) 77 5 [.ref 0, .int x1, .int x2, .int x3] [.int (f_X9_twoRooms M x1 x2)] M L Q
  refine wp_ifne (off := 5) 10 (by decide +kernel) (by decide) (fun c_1 => ?_) (fun c_1 => ?_)
  · have hP := hP.2 c_1
    refine wp_seg (pc' := 21) [.aload 0, .getfield 581, .aload 0, .getfield 577, .iload 1, .iload 2, .iconst 0] (by decide +kernel) (?_ : Wp E (d + 4) 77 21 [.ref 0, .int x1, .int x2, .int x3] [.int (Int32.ofInt 0), .int x2, .int x1, .ref 3, .ref 37] M L Q)
    refine wp_callV 38 37 [.ref 3, .int x1, .int x2, .int (Int32.ofInt 0)] (i := 140) (by decide +kernel) (by decide +kernel) (by decide +kernel) (by decide +kernel) rfl rfl rfl (rest := []) rfl rfl ?_
    refine t_X6_find hP (fun v_4 M_2 L_3 hP => ?_)
    show Wp E (d + 4) 77 24 [.ref 0, .int x1, .int x2, .int x3] [.int v_4] M_2 L_3 Q
    refine wp_ifne (off := 6) 30 (by decide +kernel) (by decide) (fun c_5 => ?_) (fun c_5 => ?_)
    · have hP := hP.2 c_5
      refine wp_seg (pc' := 39) [.aload 0, .getfield 577, .getfield 201, .iconst 99] (by decide +kernel) (?_ : Wp E (d + 4) 77 39 [.ref 0, .int x1, .int x2, .int x3] [.int (Int32.ofInt 99), .int (M_2 3 9)] M_2 L_3 Q)
      refine wp_icmplt (off := 6) 45 (by decide +kernel) (by decide) (fun c_6 => ?_) (fun c_6 => ?_)
      · have hP := hP.1 c_6
        refine wp_seg (pc' := 67) [.aload 0, .getfield 577, .dup, .getfield 201, .iconst 1, .iadd, .putfield 201, .aload 0, .getfield 577, .dup, .getfield 202, .iload 3] (by decide +kernel) (?_ : Wp E (d + 4) 77 67 [.ref 0, .int x1, .int x2, .int x3] [.int x3, .int (M_2 3 10), .ref 3] (mput M_2 3 9 ((M_2 3 9) + (Int32.ofInt 1))) L_3 Q)
        refine wp_ifeq (off := 15) 82 (by decide +kernel) (by decide) (fun c_7 => ?_) (fun c_7 => ?_)
        · have hP := hP.1 c_7
          refine wp_seg (pc' := 100) [.aload 0, .getfield 581, .getfield 389, .iand, .putfield 202, .aload 0, .getfield 577, .getfield 202] (by decide +kernel) (?_ : Wp E (d + 4) 77 100 [.ref 0, .int x1, .int x2, .int x3] [.int ((M_2 3 10) &&& (M_2 37 5))] (mput (mput M_2 3 9 ((M_2 3 9) + (Int32.ofInt 1))) 3 10 ((M_2 3 10) &&& (M_2 37 5))) L_3 Q)
          refine wp_callS 87 [.int ((M_2 3 10) &&& (M_2 37 5))] (i := 225) (by decide +kernel) (by decide +kernel) (by decide +kernel) rfl rfl rfl (rest := []) rfl rfl ?_
          refine s_J6_bitCount_0f7a4 (mput (mput M_2 3 9 ((M_2 3 9) + (Int32.ofInt 1))) 3 10 ((M_2 3 10) &&& (M_2 37 5))) ((M_2 3 10) &&& (M_2 37 5))  ?_
          show Wp E (d + 4) 77 103 [.ref 0, .int x1, .int x2, .int x3] [.int (f_J6_bitCount_0f7a4 (mput (mput M_2 3 9 ((M_2 3 9) + (Int32.ofInt 1))) 3 10 ((M_2 3 10) &&& (M_2 37 5))) ((M_2 3 10) &&& (M_2 37 5)))] (mput (mput M_2 3 9 ((M_2 3 9) + (Int32.ofInt 1))) 3 10 ((M_2 3 10) &&& (M_2 37 5))) L_3 Q
          exact wp_iret (by decide +kernel) rfl (hK _ _ _ hP)
        · have hP := hP.2 c_7
          refine wp_seg (pc' := 100) [.aload 0, .getfield 581, .getfield 389, .iconst (-1), .ixor, .goto 0, .iand, .putfield 202, .aload 0, .getfield 577, .getfield 202] (by decide +kernel) (?_ : Wp E (d + 4) 77 100 [.ref 0, .int x1, .int x2, .int x3] [.int ((M_2 3 10) &&& ((M_2 37 5) ^^^ (Int32.ofInt (-1))))] (mput (mput M_2 3 9 ((M_2 3 9) + (Int32.ofInt 1))) 3 10 ((M_2 3 10) &&& ((M_2 37 5) ^^^ (Int32.ofInt (-1))))) L_3 Q)
          refine wp_callS 87 [.int ((M_2 3 10) &&& ((M_2 37 5) ^^^ (Int32.ofInt (-1))))] (i := 225) (by decide +kernel) (by decide +kernel) (by decide +kernel) rfl rfl rfl (rest := []) rfl rfl ?_
          refine s_J6_bitCount_0f7a4 (mput (mput M_2 3 9 ((M_2 3 9) + (Int32.ofInt 1))) 3 10 ((M_2 3 10) &&& ((M_2 37 5) ^^^ (Int32.ofInt (-1))))) ((M_2 3 10) &&& ((M_2 37 5) ^^^ (Int32.ofInt (-1))))  ?_
          show Wp E (d + 4) 77 103 [.ref 0, .int x1, .int x2, .int x3] [.int (f_J6_bitCount_0f7a4 (mput (mput M_2 3 9 ((M_2 3 9) + (Int32.ofInt 1))) 3 10 ((M_2 3 10) &&& ((M_2 37 5) ^^^ (Int32.ofInt (-1))))) ((M_2 3 10) &&& ((M_2 37 5) ^^^ (Int32.ofInt (-1)))))] (mput (mput M_2 3 9 ((M_2 3 9) + (Int32.ofInt 1))) 3 10 ((M_2 3 10) &&& ((M_2 37 5) ^^^ (Int32.ofInt (-1))))) L_3 Q
          exact wp_iret (by decide +kernel) rfl (hK _ _ _ hP)
      · have hP := hP.2 c_6
        refine wp_seg (pc' := 44) [.iconst (-4)] (by decide +kernel) (?_ : Wp E (d + 4) 77 44 [.ref 0, .int x1, .int x2, .int x3] [.int (Int32.ofInt (-4))] M_2 L_3 Q)
        exact wp_iret (by decide +kernel) rfl (hK _ _ _ hP)
    · have hP := hP.1 c_5
      refine wp_seg (pc' := 29) [.iconst (-3)] (by decide +kernel) (?_ : Wp E (d + 4) 77 29 [.ref 0, .int x1, .int x2, .int x3] [.int (Int32.ofInt (-3))] M_2 L_3 Q)
      exact wp_iret (by decide +kernel) rfl (hK _ _ _ hP)
  · have hP := hP.1 c_1
    refine wp_seg (pc' := 9) [.iconst (-1)] (by decide +kernel) (?_ : Wp E (d + 4) 77 9 [.ref 0, .int x1, .int x2, .int x3] [.int (Int32.ofInt (-1))] M L Q)
    exact wp_iret (by decide +kernel) rfl (hK _ _ _ hP)

def P_X9_far (x1 : Int32) (x2 : Int32) (M : Mem) (L : LMem) (K : Int32 → Mem → LMem → Prop) : Prop := (((f_X9_twoRooms M x1 x2) = 0 → K (Int32.ofInt (-1)) M L) ∧ (¬ ((f_X9_twoRooms M x1 x2) = 0) → P_X6_find x1 x2 (Int32.ofInt 0) M L (fun v_4 M_2 L_3 => ((v_4 = 0 → K (Int32.ofInt 99) M_2 L_3) ∧ (¬ (v_4 = 0) → K (M_2 37 4) M_2 L_3)))))
theorem t_X9_far {E : VE} {d : Nat} {Q : QQ} {K : Int32 → Mem → LMem → Prop} {x1 : Int32} {x2 : Int32} {M : Mem} {L : LMem} (hP : P_X9_far x1 x2 M L K) (hK : ∀ (v : Int32) (M : Mem) (L : LMem), K v M L → Q (some (.int v)) M L) : Wp E (d + 4) 79 0 [.ref 0, .int x1, .int x2] [] M L Q := by
  unfold P_X9_far at hP
  refine wp_seg (pc' := 2) [.iload 1, .iload 2] (by decide +kernel) (?_ : Wp E (d + 4) 79 2 [.ref 0, .int x1, .int x2] [.int x2, .int x1] M L Q)
  refine wp_callS 85 [.int x1, .int x2] (i := 136) (by decide +kernel) (by decide +kernel) (by decide +kernel) rfl rfl rfl (rest := []) rfl rfl ?_
  refine s_X9_twoRooms M x1 x2  ?_
  show Wp E (d + 4) 79 5 [.ref 0, .int x1, .int x2] [.int (f_X9_twoRooms M x1 x2)] M L Q
  refine wp_ifne (off := 5) 10 (by decide +kernel) (by decide) (fun c_1 => ?_) (fun c_1 => ?_)
  · have hP := hP.2 c_1
    refine wp_seg (pc' := 21) [.aload 0, .getfield 581, .aload 0, .getfield 577, .iload 1, .iload 2, .iconst 0] (by decide +kernel) (?_ : Wp E (d + 4) 79 21 [.ref 0, .int x1, .int x2] [.int (Int32.ofInt 0), .int x2, .int x1, .ref 3, .ref 37] M L Q)
    refine wp_callV 38 37 [.ref 3, .int x1, .int x2, .int (Int32.ofInt 0)] (i := 140) (by decide +kernel) (by decide +kernel) (by decide +kernel) (by decide +kernel) rfl rfl rfl (rest := []) rfl rfl ?_
    refine t_X6_find hP (fun v_4 M_2 L_3 hP => ?_)
    show Wp E (d + 4) 79 24 [.ref 0, .int x1, .int x2] [.int v_4] M_2 L_3 Q
    refine wp_ifeq (off := 13) 37 (by decide +kernel) (by decide) (fun c_5 => ?_) (fun c_5 => ?_)
    · have hP := hP.1 c_5
      refine wp_seg (pc' := 39) [.iconst 99] (by decide +kernel) (?_ : Wp E (d + 4) 79 39 [.ref 0, .int x1, .int x2] [.int (Int32.ofInt 99)] M_2 L_3 Q)
      exact wp_iret (by decide +kernel) rfl (hK _ _ _ hP)
    · have hP := hP.2 c_5
      refine wp_seg (pc' := 39) [.aload 0, .getfield 581, .getfield 388, .goto 0] (by decide +kernel) (?_ : Wp E (d + 4) 79 39 [.ref 0, .int x1, .int x2] [.int (M_2 37 4)] M_2 L_3 Q)
      exact wp_iret (by decide +kernel) rfl (hK _ _ _ hP)
  · have hP := hP.1 c_1
    refine wp_seg (pc' := 9) [.iconst (-1)] (by decide +kernel) (?_ : Wp E (d + 4) 79 9 [.ref 0, .int x1, .int x2] [.int (Int32.ofInt (-1))] M L Q)
    exact wp_iret (by decide +kernel) rfl (hK _ _ _ hP)

def PL_X9_further_69 (K : Int32 → Mem → LMem → Prop) (C_56 : Int32 → Int32 → Int32 → Int32 → Int32 → Mem → LMem → Prop) : Nat → Int32 → Int32 → Int32 → Int32 → Int32 → Int32 → Mem → LMem → Prop
  | 0, _, _, _, _, _, _, _, _ => False
  | n_ + 1, v1, v2, v3, v4, v5, v6, M, L => (((Int32.ofInt 8) ≤ v6 → C_56 v1 v2 v3 v4 (v5 + Int32.ofInt 1) M L) ∧ (¬ ((Int32.ofInt 8) ≤ v6) → P_X1_sumWith v5 v6 v1 (M 3 1) M L (fun v_11 M_9 L_10 => ((v4 = (Int32.ofInt (-6)) → PL_X9_further_69 K C_56 n_ v1 v2 v_11 (((Int32.ofInt 10) * v5) + v6) v5 (v6 + Int32.ofInt 1) M_9 L_10) ∧ (¬ (v4 = (Int32.ofInt (-6))) → ((v3 ≤ v_11 → PL_X9_further_69 K C_56 n_ v1 v2 v3 v4 v5 (v6 + Int32.ofInt 1) M_9 L_10) ∧ (¬ (v3 ≤ v_11) → PL_X9_further_69 K C_56 n_ v1 v2 v_11 (((Int32.ofInt 10) * v5) + v6) v5 (v6 + Int32.ofInt 1) M_9 L_10)))))))
theorem tl_X9_further_69 {E : VE} {d : Nat} {Q : QQ} {K : Int32 → Mem → LMem → Prop} {C_56 : Int32 → Int32 → Int32 → Int32 → Int32 → Mem → LMem → Prop} (hK : ∀ (v : Int32) (M : Mem) (L : LMem), K v M L → Q (some (.int v)) M L) (hC_56 : ∀ (v1 : Int32) (v2 : Int32) (v3 : Int32) (v4 : Int32) (v5 : Int32) (M : Mem) (L : LMem), C_56 v1 v2 v3 v4 v5 M L → Wp E (d + 2) 80 56 [.ref 0, .int v1, .int v2, .int v3, .int v4, .int v5, .null, .null] [] M L Q) : ∀ (n_ : Nat) (v1 : Int32) (v2 : Int32) (v3 : Int32) (v4 : Int32) (v5 : Int32) (v6 : Int32) (M : Mem) (L : LMem), PL_X9_further_69 K C_56 n_ v1 v2 v3 v4 v5 v6 M L → Wp E (d + 2) 80 69 [.ref 0, .int v1, .int v2, .int v3, .int v4, .int v5, .int v6, .null] [] M L Q := by
  intro n_
  induction n_ with
  | zero => intro v1 v2 v3 v4 v5 v6 M L hP; exact False.elim hP
  | succ n_ ih =>
    intro v1 v2 v3 v4 v5 v6 M L hP
    unfold PL_X9_further_69 at hP
    refine wp_seg (pc' := 73) [.iload 6, .iconst 8] (by decide +kernel) (?_ : Wp E (d + 2) 80 73 [.ref 0, .int v1, .int v2, .int v3, .int v4, .int v5, .int v6, .null] [.int (Int32.ofInt 8), .int v6] M L Q)
    refine wp_icmpge (off := 56) 129 (by decide +kernel) (by decide) (fun c_8 => ?_) (fun c_8 => ?_)
    · have hP := hP.1 c_8
      refine wp_seg (pc' := 56) [.iinc 5 1, .goto 0] (by decide +kernel) (?_ : Wp E (d + 2) 80 56 [.ref 0, .int v1, .int v2, .int v3, .int v4, .int (v5 + Int32.ofInt 1), .int v6, .null] [] M L Q)
      refine wp_drop (lo := [.ref 0, .int v1, .int v2, .int v3, .int v4, .int (v5 + Int32.ofInt 1), .null, .null]) ⟨Or.inr rfl, Or.inr rfl, Or.inr rfl, Or.inr rfl, Or.inr rfl, Or.inr rfl, Or.inl rfl, Or.inl rfl, trivial⟩ ?_
      exact hC_56 v1 v2 v3 v4 (v5 + Int32.ofInt 1) M L hP
    · have hP := hP.2 c_8
      refine wp_seg (pc' := 92) [.aload 0, .getfield 586, .iload 5, .iload 6, .iload 1, .aload 0, .getfield 577, .getfield 193] (by decide +kernel) (?_ : Wp E (d + 2) 80 92 [.ref 0, .int v1, .int v2, .int v3, .int v4, .int v5, .int v6, .null] [.int (M 3 1), .int v1, .int v6, .int v5, .ref 70] M L Q)
      refine wp_callV 10 70 [.int v5, .int v6, .int v1, .int (M 3 1)] (i := 246) (by decide +kernel) (by decide +kernel) (by decide +kernel) (by decide +kernel) rfl rfl rfl (rest := []) rfl rfl ?_
      refine t_X1_sumWith hP (fun v_11 M_9 L_10 hP => ?_)
      show Wp E (d + 2) 80 95 [.ref 0, .int v1, .int v2, .int v3, .int v4, .int v5, .int v6, .null] [.int v_11] M_9 L_10 Q
      refine wp_seg (pc' := 101) [.istore 7, .iload 4, .iconst (-6)] (by decide +kernel) (?_ : Wp E (d + 2) 80 101 [.ref 0, .int v1, .int v2, .int v3, .int v4, .int v5, .int v6, .int v_11] [.int (Int32.ofInt (-6)), .int v4] M_9 L_10 Q)
      refine wp_icmpeq (off := 9) 110 (by decide +kernel) (by decide) (fun c_12 => ?_) (fun c_12 => ?_)
      · have hP := hP.1 c_12
        refine wp_seg (pc' := 69) [.iload 7, .istore 3, .iconst 10, .iload 5, .imul, .iload 6, .iadd, .istore 4, .iinc 6 1, .goto 0] (by decide +kernel) (?_ : Wp E (d + 2) 80 69 [.ref 0, .int v1, .int v2, .int v_11, .int (((Int32.ofInt 10) * v5) + v6), .int v5, .int (v6 + Int32.ofInt 1), .int v_11] [] M_9 L_10 Q)
        refine wp_drop (lo := [.ref 0, .int v1, .int v2, .int v_11, .int (((Int32.ofInt 10) * v5) + v6), .int v5, .int (v6 + Int32.ofInt 1), .null]) ⟨Or.inr rfl, Or.inr rfl, Or.inr rfl, Or.inr rfl, Or.inr rfl, Or.inr rfl, Or.inr rfl, Or.inl rfl, trivial⟩ ?_
        exact ih v1 v2 v_11 (((Int32.ofInt 10) * v5) + v6) v5 (v6 + Int32.ofInt 1) M_9 L_10 hP
      · have hP := hP.2 c_12
        refine wp_seg (pc' := 107) [.iload 7, .iload 3] (by decide +kernel) (?_ : Wp E (d + 2) 80 107 [.ref 0, .int v1, .int v2, .int v3, .int v4, .int v5, .int v6, .int v_11] [.int v3, .int v_11] M_9 L_10 Q)
        refine wp_icmpge (off := 16) 123 (by decide +kernel) (by decide) (fun c_13 => ?_) (fun c_13 => ?_)
        · have hP := hP.1 c_13
          refine wp_seg (pc' := 69) [.iinc 6 1, .goto 0] (by decide +kernel) (?_ : Wp E (d + 2) 80 69 [.ref 0, .int v1, .int v2, .int v3, .int v4, .int v5, .int (v6 + Int32.ofInt 1), .int v_11] [] M_9 L_10 Q)
          refine wp_drop (lo := [.ref 0, .int v1, .int v2, .int v3, .int v4, .int v5, .int (v6 + Int32.ofInt 1), .null]) ⟨Or.inr rfl, Or.inr rfl, Or.inr rfl, Or.inr rfl, Or.inr rfl, Or.inr rfl, Or.inr rfl, Or.inl rfl, trivial⟩ ?_
          exact ih v1 v2 v3 v4 v5 (v6 + Int32.ofInt 1) M_9 L_10 hP
        · have hP := hP.2 c_13
          refine wp_seg (pc' := 69) [.iload 7, .istore 3, .iconst 10, .iload 5, .imul, .iload 6, .iadd, .istore 4, .iinc 6 1, .goto 0] (by decide +kernel) (?_ : Wp E (d + 2) 80 69 [.ref 0, .int v1, .int v2, .int v_11, .int (((Int32.ofInt 10) * v5) + v6), .int v5, .int (v6 + Int32.ofInt 1), .int v_11] [] M_9 L_10 Q)
          refine wp_drop (lo := [.ref 0, .int v1, .int v2, .int v_11, .int (((Int32.ofInt 10) * v5) + v6), .int v5, .int (v6 + Int32.ofInt 1), .null]) ⟨Or.inr rfl, Or.inr rfl, Or.inr rfl, Or.inr rfl, Or.inr rfl, Or.inr rfl, Or.inr rfl, Or.inl rfl, trivial⟩ ?_
          exact ih v1 v2 v_11 (((Int32.ofInt 10) * v5) + v6) v5 (v6 + Int32.ofInt 1) M_9 L_10 hP
def PL_X9_further_56 (K : Int32 → Mem → LMem → Prop)  : Nat → Int32 → Int32 → Int32 → Int32 → Int32 → Mem → LMem → Prop
  | 0, _, _, _, _, _, _, _ => False
  | n_ + 1, v1, v2, v3, v4, v5, M, L => (((Int32.ofInt 8) ≤ v5 → ((v2 = 0 → K v4 M L) ∧ (¬ (v2 = 0) → K v3 M L))) ∧ (¬ ((Int32.ofInt 8) ≤ v5) → PL_X9_further_69 K (PL_X9_further_56 K n_) 100000 v1 v2 v3 v4 v5 (v5 + (Int32.ofInt 1)) M L))
theorem tl_X9_further_56 {E : VE} {d : Nat} {Q : QQ} {K : Int32 → Mem → LMem → Prop}  (hK : ∀ (v : Int32) (M : Mem) (L : LMem), K v M L → Q (some (.int v)) M L)  : ∀ (n_ : Nat) (v1 : Int32) (v2 : Int32) (v3 : Int32) (v4 : Int32) (v5 : Int32) (M : Mem) (L : LMem), PL_X9_further_56 K n_ v1 v2 v3 v4 v5 M L → Wp E (d + 2) 80 56 [.ref 0, .int v1, .int v2, .int v3, .int v4, .int v5, .null, .null] [] M L Q := by
  intro n_
  induction n_ with
  | zero => intro v1 v2 v3 v4 v5 M L hP; exact False.elim hP
  | succ n_ ih =>
    intro v1 v2 v3 v4 v5 M L hP
    unfold PL_X9_further_56 at hP
    refine wp_seg (pc' := 60) [.iload 5, .iconst 8] (by decide +kernel) (?_ : Wp E (d + 2) 80 60 [.ref 0, .int v1, .int v2, .int v3, .int v4, .int v5, .null, .null] [.int (Int32.ofInt 8), .int v5] M L Q)
    refine wp_icmpge (off := 75) 135 (by decide +kernel) (by decide) (fun c_6 => ?_) (fun c_6 => ?_)
    · have hP := hP.1 c_6
      refine wp_seg (pc' := 136) [.iload 2] (by decide +kernel) (?_ : Wp E (d + 2) 80 136 [.ref 0, .int v1, .int v2, .int v3, .int v4, .int v5, .null, .null] [.int v2] M L Q)
      refine wp_ifne (off := 8) 144 (by decide +kernel) (by decide) (fun c_7 => ?_) (fun c_7 => ?_)
      · have hP := hP.2 c_7
        refine wp_seg (pc' := 145) [.iload 3] (by decide +kernel) (?_ : Wp E (d + 2) 80 145 [.ref 0, .int v1, .int v2, .int v3, .int v4, .int v5, .null, .null] [.int v3] M L Q)
        exact wp_iret (by decide +kernel) rfl (hK _ _ _ hP)
      · have hP := hP.1 c_7
        refine wp_seg (pc' := 145) [.iload 4, .goto 0] (by decide +kernel) (?_ : Wp E (d + 2) 80 145 [.ref 0, .int v1, .int v2, .int v3, .int v4, .int v5, .null, .null] [.int v4] M L Q)
        exact wp_iret (by decide +kernel) rfl (hK _ _ _ hP)
    · have hP := hP.2 c_6
      refine wp_seg (pc' := 69) [.iload 5, .iconst 1, .iadd, .istore 6] (by decide +kernel) (?_ : Wp E (d + 2) 80 69 [.ref 0, .int v1, .int v2, .int v3, .int v4, .int v5, .int (v5 + (Int32.ofInt 1)), .null] [] M L Q)
      exact tl_X9_further_69 hK (fun v1 v2 v3 v4 v5 M L hP => ih v1 v2 v3 v4 v5 M L hP) 100000 v1 v2 v3 v4 v5 (v5 + (Int32.ofInt 1)) M L hP
def P_X9_further (x1 : Int32) (x2 : Int32) (M : Mem) (L : LMem) (K : Int32 → Mem → LMem → Prop) : Prop := (((f_X9_within M x1 (Int32.ofInt 1) (Int32.ofInt 9)) = 0 → K (Int32.ofInt (-2)) M L) ∧ (¬ ((f_X9_within M x1 (Int32.ofInt 1) (Int32.ofInt 9)) = 0) → (((f_X9_within M x2 (Int32.ofInt 0) (Int32.ofInt 2)) = 0 → K (Int32.ofInt (-2)) M L) ∧ (¬ ((f_X9_within M x2 (Int32.ofInt 0) (Int32.ofInt 2)) = 0) → P_X1_measure_70 (Int32.ofInt 0) M L (fun M_3 L_4 => ((x2 = (Int32.ofInt 2) → P_X1_sum M_3 L_4 (fun v_16 M_14 L_15 => K v_16 M_14 L_15)) ∧ (¬ (x2 = (Int32.ofInt 2)) → PL_X9_further_56 K 100000 x1 x2 (Int32.ofInt 0) (Int32.ofInt (-6)) (Int32.ofInt 0) M_3 L_4)))))))
theorem t_X9_further {E : VE} {d : Nat} {Q : QQ} {K : Int32 → Mem → LMem → Prop} {x1 : Int32} {x2 : Int32} {M : Mem} {L : LMem} (hP : P_X9_further x1 x2 M L K) (hK : ∀ (v : Int32) (M : Mem) (L : LMem), K v M L → Q (some (.int v)) M L) : Wp E (d + 2) 80 0 [.ref 0, .int x1, .int x2, .null, .null, .null, .null, .null] [] M L Q := by
  unfold P_X9_further at hP
  refine wp_seg (pc' := 4) [.iload 1, .iconst 1, .iconst 9] (by decide +kernel) (?_ : Wp E (d + 2) 80 4 [.ref 0, .int x1, .int x2, .null, .null, .null, .null, .null] [.int (Int32.ofInt 9), .int (Int32.ofInt 1), .int x1] M L Q)
  refine wp_callS 83 [.int x1, .int (Int32.ofInt 1), .int (Int32.ofInt 9)] (i := 126) (by decide +kernel) (by decide +kernel) (by decide +kernel) rfl rfl rfl (rest := []) rfl rfl ?_
  refine s_X9_within M x1 (Int32.ofInt 1) (Int32.ofInt 9)  ?_
  show Wp E (d + 2) 80 7 [.ref 0, .int x1, .int x2, .null, .null, .null, .null, .null] [.int (f_X9_within M x1 (Int32.ofInt 1) (Int32.ofInt 9))] M L Q
  refine wp_ifeq (off := 12) 19 (by decide +kernel) (by decide) (fun c_1 => ?_) (fun c_1 => ?_)
  · have hP := hP.1 c_1
    refine wp_seg (pc' := 21) [.iconst (-2)] (by decide +kernel) (?_ : Wp E (d + 2) 80 21 [.ref 0, .int x1, .int x2, .null, .null, .null, .null, .null] [.int (Int32.ofInt (-2))] M L Q)
    exact wp_iret (by decide +kernel) rfl (hK _ _ _ hP)
  · have hP := hP.2 c_1
    refine wp_seg (pc' := 13) [.iload 2, .iconst 0, .iconst 2] (by decide +kernel) (?_ : Wp E (d + 2) 80 13 [.ref 0, .int x1, .int x2, .null, .null, .null, .null, .null] [.int (Int32.ofInt 2), .int (Int32.ofInt 0), .int x2] M L Q)
    refine wp_callS 83 [.int x2, .int (Int32.ofInt 0), .int (Int32.ofInt 2)] (i := 126) (by decide +kernel) (by decide +kernel) (by decide +kernel) rfl rfl rfl (rest := []) rfl rfl ?_
    refine s_X9_within M x2 (Int32.ofInt 0) (Int32.ofInt 2)  ?_
    show Wp E (d + 2) 80 16 [.ref 0, .int x1, .int x2, .null, .null, .null, .null, .null] [.int (f_X9_within M x2 (Int32.ofInt 0) (Int32.ofInt 2))] M L Q
    refine wp_ifne (off := 6) 22 (by decide +kernel) (by decide) (fun c_2 => ?_) (fun c_2 => ?_)
    · have hP := hP.2 c_2
      refine wp_seg (pc' := 31) [.aload 0, .getfield 586, .aload 0, .getfield 577, .iconst 0] (by decide +kernel) (?_ : Wp E (d + 2) 80 31 [.ref 0, .int x1, .int x2, .null, .null, .null, .null, .null] [.int (Int32.ofInt 0), .ref 3, .ref 70] M L Q)
      refine wp_callV 5 70 [.ref 3, .int (Int32.ofInt 0)] (i := 239) (by decide +kernel) (by decide +kernel) (by decide +kernel) (by decide +kernel) rfl rfl rfl (rest := []) rfl rfl ?_
      refine t_X1_measure_70 hP (fun M_3 L_4 hP => ?_)
      show Wp E (d + 2) 80 34 [.ref 0, .int x1, .int x2, .null, .null, .null, .null, .null] [] M_3 L_4 Q
      refine wp_seg (pc' := 36) [.iload 2, .iconst 2] (by decide +kernel) (?_ : Wp E (d + 2) 80 36 [.ref 0, .int x1, .int x2, .null, .null, .null, .null, .null] [.int (Int32.ofInt 2), .int x2] M_3 L_4 Q)
      refine wp_icmpne (off := 11) 47 (by decide +kernel) (by decide) (fun c_5 => ?_) (fun c_5 => ?_)
      · have hP := hP.2 c_5
        refine wp_seg (pc' := 56) [.iconst 0, .istore 3, .iconst (-6), .istore 4, .iconst 0, .istore 5] (by decide +kernel) (?_ : Wp E (d + 2) 80 56 [.ref 0, .int x1, .int x2, .int (Int32.ofInt 0), .int (Int32.ofInt (-6)), .int (Int32.ofInt 0), .null, .null] [] M_3 L_4 Q)
        exact tl_X9_further_56 hK 100000 x1 x2 (Int32.ofInt 0) (Int32.ofInt (-6)) (Int32.ofInt 0) M_3 L_4 hP
      · have hP := hP.1 c_5
        refine wp_seg (pc' := 43) [.aload 0, .getfield 586] (by decide +kernel) (?_ : Wp E (d + 2) 80 43 [.ref 0, .int x1, .int x2, .null, .null, .null, .null, .null] [.ref 70] M_3 L_4 Q)
        refine wp_callV 9 70 [] (i := 243) (by decide +kernel) (by decide +kernel) (by decide +kernel) (by decide +kernel) rfl rfl rfl (rest := []) rfl rfl ?_
        refine t_X1_sum hP (fun v_16 M_14 L_15 hP => ?_)
        show Wp E (d + 2) 80 46 [.ref 0, .int x1, .int x2, .null, .null, .null, .null, .null] [.int v_16] M_14 L_15 Q
        exact wp_iret (by decide +kernel) rfl (hK _ _ _ hP)
    · have hP := hP.1 c_2
      refine wp_seg (pc' := 21) [.iconst (-2)] (by decide +kernel) (?_ : Wp E (d + 2) 80 21 [.ref 0, .int x1, .int x2, .null, .null, .null, .null, .null] [.int (Int32.ofInt (-2))] M L Q)
      exact wp_iret (by decide +kernel) rfl (hK _ _ _ hP)

def PL_X9_bridges_16 (K : Int32 → Mem → LMem → Prop)  : Nat → Int32 → Int32 → Mem → LMem → Prop
  | 0, _, _, _, _ => False
  | n_ + 1, v1, v2, M, L => (((M 4 4) ≤ v2 → K v1 M L) ∧ (¬ ((M 4 4) ≤ v2) → P_X1_measure_72 ((Int32.ofInt 1) <<< (v2 &&& 31)) M L (fun M_4 L_5 => P_X1_lacksOneOf M_4 L_5 (fun v_8 M_6 L_7 => ((v_8 = 0 → PL_X9_bridges_16 K n_ v1 (v2 + Int32.ofInt 1) M_6 L_7) ∧ (¬ (v_8 = 0) → PL_X9_bridges_16 K n_ (v1 ||| ((Int32.ofInt 1) <<< (v2 &&& 31))) (v2 + Int32.ofInt 1) M_6 L_7))))))
theorem tl_X9_bridges_16 {E : VE} {d : Nat} {Q : QQ} {K : Int32 → Mem → LMem → Prop}  (hK : ∀ (v : Int32) (M : Mem) (L : LMem), K v M L → Q (some (.int v)) M L)  : ∀ (n_ : Nat) (v1 : Int32) (v2 : Int32) (M : Mem) (L : LMem), PL_X9_bridges_16 K n_ v1 v2 M L → Wp E (d + 2) 81 16 [.ref 0, .int v1, .int v2] [] M L Q := by
  intro n_
  induction n_ with
  | zero => intro v1 v2 M L hP; exact False.elim hP
  | succ n_ ih =>
    intro v1 v2 M L hP
    unfold PL_X9_bridges_16 at hP
    refine wp_seg (pc' := 27) [.iload 2, .aload 0, .getfield 577, .getfield 192, .getfield 132] (by decide +kernel) (?_ : Wp E (d + 2) 81 27 [.ref 0, .int v1, .int v2] [.int (M 4 4), .int v2] M L Q)
    refine wp_icmpge (off := 43) 70 (by decide +kernel) (by decide) (fun c_3 => ?_) (fun c_3 => ?_)
    · have hP := hP.1 c_3
      refine wp_seg (pc' := 71) [.iload 1] (by decide +kernel) (?_ : Wp E (d + 2) 81 71 [.ref 0, .int v1, .int v2] [.int v1] M L Q)
      exact wp_iret (by decide +kernel) rfl (hK _ _ _ hP)
    · have hP := hP.2 c_3
      refine wp_seg (pc' := 41) [.aload 0, .getfield 587, .aload 0, .getfield 577, .iconst 1, .iload 2, .ishl] (by decide +kernel) (?_ : Wp E (d + 2) 81 41 [.ref 0, .int v1, .int v2] [.int ((Int32.ofInt 1) <<< (v2 &&& 31)), .ref 3, .ref 72] M L Q)
      refine wp_callV 5 72 [.ref 3, .int ((Int32.ofInt 1) <<< (v2 &&& 31))] (i := 239) (by decide +kernel) (by decide +kernel) (by decide +kernel) (by decide +kernel) rfl rfl rfl (rest := []) rfl rfl ?_
      refine t_X1_measure_72 hP (fun M_4 L_5 hP => ?_)
      show Wp E (d + 2) 81 44 [.ref 0, .int v1, .int v2] [] M_4 L_5 Q
      refine wp_seg (pc' := 52) [.aload 0, .getfield 587, .aload 0, .getfield 586] (by decide +kernel) (?_ : Wp E (d + 2) 81 52 [.ref 0, .int v1, .int v2] [.ref 70, .ref 72] M_4 L_5 Q)
      refine wp_callV 11 72 [.ref 70] (i := 250) (by decide +kernel) (by decide +kernel) (by decide +kernel) (by decide +kernel) rfl rfl rfl (rest := []) rfl rfl ?_
      refine t_X1_lacksOneOf hP (fun v_8 M_6 L_7 hP => ?_)
      show Wp E (d + 2) 81 55 [.ref 0, .int v1, .int v2] [.int v_8] M_6 L_7 Q
      refine wp_ifeq (off := 9) 64 (by decide +kernel) (by decide) (fun c_9 => ?_) (fun c_9 => ?_)
      · have hP := hP.1 c_9
        refine wp_seg (pc' := 16) [.iinc 2 1, .goto 0] (by decide +kernel) (?_ : Wp E (d + 2) 81 16 [.ref 0, .int v1, .int (v2 + Int32.ofInt 1)] [] M_6 L_7 Q)
        exact ih v1 (v2 + Int32.ofInt 1) M_6 L_7 hP
      · have hP := hP.2 c_9
        refine wp_seg (pc' := 16) [.iload 1, .iconst 1, .iload 2, .ishl, .ior, .istore 1, .iinc 2 1, .goto 0] (by decide +kernel) (?_ : Wp E (d + 2) 81 16 [.ref 0, .int (v1 ||| ((Int32.ofInt 1) <<< (v2 &&& 31))), .int (v2 + Int32.ofInt 1)] [] M_6 L_7 Q)
        exact ih (v1 ||| ((Int32.ofInt 1) <<< (v2 &&& 31))) (v2 + Int32.ofInt 1) M_6 L_7 hP
def P_X9_bridges (M : Mem) (L : LMem) (K : Int32 → Mem → LMem → Prop) : Prop := P_X1_measure_70 (Int32.ofInt 0) M L (fun M_1 L_2 => PL_X9_bridges_16 K 100000 (Int32.ofInt 0) (Int32.ofInt 0) M_1 L_2)
theorem t_X9_bridges {E : VE} {d : Nat} {Q : QQ} {K : Int32 → Mem → LMem → Prop} {M : Mem} {L : LMem} (hP : P_X9_bridges M L K) (hK : ∀ (v : Int32) (M : Mem) (L : LMem), K v M L → Q (some (.int v)) M L) : Wp E (d + 2) 81 0 [.ref 0, .null, .null] [] M L Q := by
  unfold P_X9_bridges at hP
  refine wp_seg (pc' := 9) [.aload 0, .getfield 586, .aload 0, .getfield 577, .iconst 0] (by decide +kernel) (?_ : Wp E (d + 2) 81 9 [.ref 0, .null, .null] [.int (Int32.ofInt 0), .ref 3, .ref 70] M L Q)
  refine wp_callV 5 70 [.ref 3, .int (Int32.ofInt 0)] (i := 239) (by decide +kernel) (by decide +kernel) (by decide +kernel) (by decide +kernel) rfl rfl rfl (rest := []) rfl rfl ?_
  refine t_X1_measure_70 hP (fun M_1 L_2 hP => ?_)
  show Wp E (d + 2) 81 12 [.ref 0, .null, .null] [] M_1 L_2 Q
  refine wp_seg (pc' := 16) [.iconst 0, .istore 1, .iconst 0, .istore 2] (by decide +kernel) (?_ : Wp E (d + 2) 81 16 [.ref 0, .int (Int32.ofInt 0), .int (Int32.ofInt 0)] [] M_1 L_2 Q)
  exact tl_X9_bridges_16 hK 100000 (Int32.ofInt 0) (Int32.ofInt 0) M_1 L_2 hP

def P_X9_told (x1 : Int32) (M : Mem) (L : LMem) (K : Int32 → Mem → LMem → Prop) : Prop := (((f_X9_within M x1 (Int32.ofInt 10) (Int32.ofInt 17)) = 0 → ((x1 = Int32.ofInt 0 → K (M 1 1) M L) ∧ (¬ x1 = Int32.ofInt 0 → ((x1 = Int32.ofInt 1 → K (M 4 4) M L) ∧ (¬ x1 = Int32.ofInt 1 → ((x1 = Int32.ofInt 2 → K (M 3 1) M L) ∧ (¬ x1 = Int32.ofInt 2 → ((x1 = Int32.ofInt 3 → K (M 3 2) M L) ∧ (¬ x1 = Int32.ofInt 3 → ((x1 = Int32.ofInt 4 → K (M 3 8) M L) ∧ (¬ x1 = Int32.ofInt 4 → ((x1 = Int32.ofInt 5 → K (M 3 9) M L) ∧ (¬ x1 = Int32.ofInt 5 → K (Int32.ofInt (-2)) M L))))))))))))) ∧ (¬ ((f_X9_within M x1 (Int32.ofInt 10) (Int32.ofInt 17)) = 0) → (vp_in (x1 - (Int32.ofInt 10)) 8 ∧ K (M 9 ((x1 - (Int32.ofInt 10)).toNatClampNeg)) M L)))
theorem t_X9_told {E : VE} {d : Nat} {Q : QQ} {K : Int32 → Mem → LMem → Prop} {x1 : Int32} {M : Mem} {L : LMem} (hP : P_X9_told x1 M L K) (hK : ∀ (v : Int32) (M : Mem) (L : LMem), K v M L → Q (some (.int v)) M L) : Wp E (d + 1) 82 0 [.ref 0, .int x1] [] M L Q := by
  unfold P_X9_told at hP
  refine wp_seg (pc' := 5) [.iload 1, .iconst 10, .iconst 17] (by decide +kernel) (?_ : Wp E (d + 1) 82 5 [.ref 0, .int x1] [.int (Int32.ofInt 17), .int (Int32.ofInt 10), .int x1] M L Q)
  refine wp_callS 83 [.int x1, .int (Int32.ofInt 10), .int (Int32.ofInt 17)] (i := 126) (by decide +kernel) (by decide +kernel) (by decide +kernel) rfl rfl rfl (rest := []) rfl rfl ?_
  refine s_X9_within M x1 (Int32.ofInt 10) (Int32.ofInt 17)  ?_
  show Wp E (d + 1) 82 8 [.ref 0, .int x1] [.int (f_X9_within M x1 (Int32.ofInt 10) (Int32.ofInt 17))] M L Q
  refine wp_ifeq (off := 16) 24 (by decide +kernel) (by decide) (fun c_1 => ?_) (fun c_1 => ?_)
  · have hP := hP.1 c_1
    refine wp_seg (pc' := 25) [.iload 1] (by decide +kernel) (?_ : Wp E (d + 1) 82 25 [.ref 0, .int x1] [.int x1] M L Q)
    by_cases c_2 : x1 = Int32.ofInt 0
    · have hx_ : x1.toInt = 0 := by rw [c_2]; decide
      refine wp_tabIn (off := 39) 64 (by decide +kernel : decode (am_B 82) 25 = .ok (.tableswitch 90 0 5 #[39, 47, 58, 66, 74, 82], 39)) (by rw [hx_]; decide) (by rw [hx_]; decide) (by rw [hx_]; rfl) (by decide) ?_
      have hP := hP.1 c_2
      refine wp_seg (pc' := 71) [.aload 0, .getfield 576, .getfield 321] (by decide +kernel) (?_ : Wp E (d + 1) 82 71 [.ref 0, .int x1] [.int (M 1 1)] M L Q)
      exact wp_iret (by decide +kernel) rfl (hK _ _ _ hP)
    replace hP := hP.2 c_2
    by_cases c_3 : x1 = Int32.ofInt 1
    · have hx_ : x1.toInt = 1 := by rw [c_3]; decide
      refine wp_tabIn (off := 47) 72 (by decide +kernel : decode (am_B 82) 25 = .ok (.tableswitch 90 0 5 #[39, 47, 58, 66, 74, 82], 39)) (by rw [hx_]; decide) (by rw [hx_]; decide) (by rw [hx_]; rfl) (by decide) ?_
      have hP := hP.1 c_3
      refine wp_seg (pc' := 82) [.aload 0, .getfield 577, .getfield 192, .getfield 132] (by decide +kernel) (?_ : Wp E (d + 1) 82 82 [.ref 0, .int x1] [.int (M 4 4)] M L Q)
      exact wp_iret (by decide +kernel) rfl (hK _ _ _ hP)
    replace hP := hP.2 c_3
    by_cases c_4 : x1 = Int32.ofInt 2
    · have hx_ : x1.toInt = 2 := by rw [c_4]; decide
      refine wp_tabIn (off := 58) 83 (by decide +kernel : decode (am_B 82) 25 = .ok (.tableswitch 90 0 5 #[39, 47, 58, 66, 74, 82], 39)) (by rw [hx_]; decide) (by rw [hx_]; decide) (by rw [hx_]; rfl) (by decide) ?_
      have hP := hP.1 c_4
      refine wp_seg (pc' := 90) [.aload 0, .getfield 577, .getfield 193] (by decide +kernel) (?_ : Wp E (d + 1) 82 90 [.ref 0, .int x1] [.int (M 3 1)] M L Q)
      exact wp_iret (by decide +kernel) rfl (hK _ _ _ hP)
    replace hP := hP.2 c_4
    by_cases c_5 : x1 = Int32.ofInt 3
    · have hx_ : x1.toInt = 3 := by rw [c_5]; decide
      refine wp_tabIn (off := 66) 91 (by decide +kernel : decode (am_B 82) 25 = .ok (.tableswitch 90 0 5 #[39, 47, 58, 66, 74, 82], 39)) (by rw [hx_]; decide) (by rw [hx_]; decide) (by rw [hx_]; rfl) (by decide) ?_
      have hP := hP.1 c_5
      refine wp_seg (pc' := 98) [.aload 0, .getfield 577, .getfield 194] (by decide +kernel) (?_ : Wp E (d + 1) 82 98 [.ref 0, .int x1] [.int (M 3 2)] M L Q)
      exact wp_iret (by decide +kernel) rfl (hK _ _ _ hP)
    replace hP := hP.2 c_5
    by_cases c_6 : x1 = Int32.ofInt 4
    · have hx_ : x1.toInt = 4 := by rw [c_6]; decide
      refine wp_tabIn (off := 74) 99 (by decide +kernel : decode (am_B 82) 25 = .ok (.tableswitch 90 0 5 #[39, 47, 58, 66, 74, 82], 39)) (by rw [hx_]; decide) (by rw [hx_]; decide) (by rw [hx_]; rfl) (by decide) ?_
      have hP := hP.1 c_6
      refine wp_seg (pc' := 106) [.aload 0, .getfield 577, .getfield 200] (by decide +kernel) (?_ : Wp E (d + 1) 82 106 [.ref 0, .int x1] [.int (M 3 8)] M L Q)
      exact wp_iret (by decide +kernel) rfl (hK _ _ _ hP)
    replace hP := hP.2 c_6
    by_cases c_7 : x1 = Int32.ofInt 5
    · have hx_ : x1.toInt = 5 := by rw [c_7]; decide
      refine wp_tabIn (off := 82) 107 (by decide +kernel : decode (am_B 82) 25 = .ok (.tableswitch 90 0 5 #[39, 47, 58, 66, 74, 82], 39)) (by rw [hx_]; decide) (by rw [hx_]; decide) (by rw [hx_]; rfl) (by decide) ?_
      have hP := hP.1 c_7
      refine wp_seg (pc' := 114) [.aload 0, .getfield 577, .getfield 201] (by decide +kernel) (?_ : Wp E (d + 1) 82 114 [.ref 0, .int x1] [.int (M 3 9)] M L Q)
      exact wp_iret (by decide +kernel) rfl (hK _ _ _ hP)
    replace hP := hP.2 c_7
    refine wp_tabOut 115 (by decide +kernel : decode (am_B 82) 25 = .ok (.tableswitch 90 0 5 #[39, 47, 58, 66, 74, 82], 39)) (by have := sw_ne (v := 0) (by decide) c_2; have := sw_ne (v := 1) (by decide) c_3; have := sw_ne (v := 2) (by decide) c_4; have := sw_ne (v := 3) (by decide) c_5; have := sw_ne (v := 4) (by decide) c_6; have := sw_ne (v := 5) (by decide) c_7; omega) (by decide) ?_
    refine wp_seg (pc' := 117) [.iconst (-2)] (by decide +kernel) (?_ : Wp E (d + 1) 82 117 [.ref 0, .int x1] [.int (Int32.ofInt (-2))] M L Q)
    exact wp_iret (by decide +kernel) rfl (hK _ _ _ hP)
  · have hP := hP.2 c_1
    obtain ⟨a_8, hP⟩ := hP
    refine wp_seg (pc' := 23) [.aload 0, .getfield 577, .getfield 195, .iload 1, .iconst 10, .isub, .iaload] (by decide +kernel) (show aok 9 0 (x1 - (Int32.ofInt 10)) ∧ Wp E (d + 1) 82 23 [.ref 0, .int x1] [.int (M 9 ((x1 - (Int32.ofInt 10)).toNatClampNeg))] M L Q from ⟨⟨rfl, a_8⟩, ?_⟩)
    exact wp_iret (by decide +kernel) rfl (hK _ _ _ hP)
end
section
def P_X9_say (x1 : Int32) (M : Mem) (L : LMem) (K : Int32 → Mem → LMem → Prop) : Prop := ((x1 < (Int32.ofInt 33) → K (Int32.ofInt (-2)) M L) ∧ (¬ (x1 < (Int32.ofInt 33)) → ((x1 ≤ (Int32.ofInt 126) → (((M 1 1) < (Int32.ofInt 60) → vp_in (M 1 1) 60) ∧ (((f_X5_add M x1) = 0 → K (Int32.ofInt (-4)) (g_X5_add M x1) L) ∧ (¬ ((f_X5_add M x1) = 0) → K ((g_X5_add M x1) 1 1) (g_X5_add M x1) L)))) ∧ (¬ (x1 ≤ (Int32.ofInt 126)) → K (Int32.ofInt (-2)) M L))))
theorem t_X9_say {E : VE} {d : Nat} {Q : QQ} {K : Int32 → Mem → LMem → Prop} {x1 : Int32} {M : Mem} {L : LMem} (hP : P_X9_say x1 M L K) (hK : ∀ (v : Int32) (M : Mem) (L : LMem), K v M L → Q (some (.int v)) M L) : Wp E (d + 1) 60 0 [.ref 0, .int x1] [] M L Q := by
  unfold P_X9_say at hP
  refine wp_seg (pc' := 3) [.iload 1, .iconst 33] (by decide +kernel) (?_ : Wp E (d + 1) 60 3 [.ref 0, .int x1] [.int (Int32.ofInt 33), .int x1] M L Q)
  refine wp_icmplt (off := 9) 12 (by decide +kernel) (by decide) (fun c_1 => ?_) (fun c_1 => ?_)
  · have hP := hP.1 c_1
    refine wp_seg (pc' := 14) [.iconst (-2)] (by decide +kernel) (?_ : Wp E (d + 1) 60 14 [.ref 0, .int x1] [.int (Int32.ofInt (-2))] M L Q)
    exact wp_iret (by decide +kernel) rfl (hK _ _ _ hP)
  · have hP := hP.2 c_1
    refine wp_seg (pc' := 9) [.iload 1, .iconst 126] (by decide +kernel) (?_ : Wp E (d + 1) 60 9 [.ref 0, .int x1] [.int (Int32.ofInt 126), .int x1] M L Q)
    refine wp_icmple (off := 6) 15 (by decide +kernel) (by decide) (fun c_2 => ?_) (fun c_2 => ?_)
    · have hP := hP.1 c_2
      refine wp_seg (pc' := 20) [.aload 0, .getfield 576, .iload 1] (by decide +kernel) (?_ : Wp E (d + 1) 60 20 [.ref 0, .int x1] [.int x1, .ref 1] M L Q)
      refine wp_callV 27 1 [.int x1] (i := 78) (by decide +kernel) (by decide +kernel) (by decide +kernel) (by decide +kernel) rfl rfl rfl (rest := []) rfl rfl ?_
      obtain ⟨a_3, hP⟩ := hP
      refine s_X5_add M x1 a_3 ?_
      show Wp E (d + 1) 60 23 [.ref 0, .int x1] [.int (f_X5_add M x1)] (g_X5_add M x1) L Q
      refine wp_ifeq (off := 13) 36 (by decide +kernel) (by decide) (fun c_4 => ?_) (fun c_4 => ?_)
      · have hP := hP.1 c_4
        refine wp_seg (pc' := 38) [.iconst (-4)] (by decide +kernel) (?_ : Wp E (d + 1) 60 38 [.ref 0, .int x1] [.int (Int32.ofInt (-4))] (g_X5_add M x1) L Q)
        exact wp_iret (by decide +kernel) rfl (hK _ _ _ hP)
      · have hP := hP.2 c_4
        refine wp_seg (pc' := 38) [.aload 0, .getfield 576, .getfield 321, .goto 0] (by decide +kernel) (?_ : Wp E (d + 1) 60 38 [.ref 0, .int x1] [.int ((g_X5_add M x1) 1 1)] (g_X5_add M x1) L Q)
        exact wp_iret (by decide +kernel) rfl (hK _ _ _ hP)
    · have hP := hP.2 c_2
      refine wp_seg (pc' := 14) [.iconst (-2)] (by decide +kernel) (?_ : Wp E (d + 1) 60 14 [.ref 0, .int x1] [.int (Int32.ofInt (-2))] M L Q)
      exact wp_iret (by decide +kernel) rfl (hK _ _ _ hP)

def P_X9_wipe (M : Mem) (L : LMem) (K : Int32 → Mem → LMem → Prop) : Prop := K (f_X5_empty M) (g_X5_empty M) L
theorem t_X9_wipe {E : VE} {d : Nat} {Q : QQ} {K : Int32 → Mem → LMem → Prop} {M : Mem} {L : LMem} (hP : P_X9_wipe M L K) (hK : ∀ (v : Int32) (M : Mem) (L : LMem), K v M L → Q (some (.int v)) M L) : Wp E (d + 1) 61 0 [.ref 0] [] M L Q := by
  unfold P_X9_wipe at hP
  refine wp_seg (pc' := 4) [.aload 0, .getfield 576] (by decide +kernel) (?_ : Wp E (d + 1) 61 4 [.ref 0] [.ref 1] M L Q)
  refine wp_callV 28 1 [] (i := 86) (by decide +kernel) (by decide +kernel) (by decide +kernel) (by decide +kernel) rfl rfl rfl (rest := []) rfl rfl ?_
  refine s_X5_empty M  ?_
  show Wp E (d + 1) 61 7 [.ref 0] [.int (f_X5_empty M)] (g_X5_empty M) L Q
  exact wp_iret (by decide +kernel) rfl (hK _ _ _ hP)

def P_X9_set (x1 : Int32) (x2 : Int32) (M : Mem) (L : LMem) (K : Int32 → Mem → LMem → Prop) : Prop := ((x1 = 0 → (((f_X9_within M x2 (Int32.ofInt 1) (Int32.ofInt 60)) = 0 → ((x1 = (Int32.ofInt 1) → (((f_X9_within M x2 (Int32.ofInt 0) (Int32.ofInt 255)) = 0 → K (Int32.ofInt (-2)) M L) ∧ (¬ ((f_X9_within M x2 (Int32.ofInt 0) (Int32.ofInt 255)) = 0) → K (M 3 2) (mput M 3 2 x2) L))) ∧ (¬ (x1 = (Int32.ofInt 1)) → K (Int32.ofInt (-2)) M L))) ∧ (¬ ((f_X9_within M x2 (Int32.ofInt 1) (Int32.ofInt 60)) = 0) → K (M 3 1) (mput M 3 1 x2) L))) ∧ (¬ (x1 = 0) → ((x1 = (Int32.ofInt 1) → (((f_X9_within M x2 (Int32.ofInt 0) (Int32.ofInt 255)) = 0 → K (Int32.ofInt (-2)) M L) ∧ (¬ ((f_X9_within M x2 (Int32.ofInt 0) (Int32.ofInt 255)) = 0) → K (M 3 2) (mput M 3 2 x2) L))) ∧ (¬ (x1 = (Int32.ofInt 1)) → K (Int32.ofInt (-2)) M L))))
theorem t_X9_set {E : VE} {d : Nat} {Q : QQ} {K : Int32 → Mem → LMem → Prop} {x1 : Int32} {x2 : Int32} {M : Mem} {L : LMem} (hP : P_X9_set x1 x2 M L K) (hK : ∀ (v : Int32) (M : Mem) (L : LMem), K v M L → Q (some (.int v)) M L) : Wp E (d + 1) 64 0 [.ref 0, .int x1, .int x2, .null] [] M L Q := by
  unfold P_X9_set at hP
  refine wp_seg (pc' := 1) [.iload 1] (by decide +kernel) (?_ : Wp E (d + 1) 64 1 [.ref 0, .int x1, .int x2, .null] [.int x1] M L Q)
  refine wp_ifne (off := 31) 32 (by decide +kernel) (by decide) (fun c_1 => ?_) (fun c_1 => ?_)
  · have hP := hP.2 c_1
    refine wp_seg (pc' := 34) [.iload 1, .iconst 1] (by decide +kernel) (?_ : Wp E (d + 1) 64 34 [.ref 0, .int x1, .int x2, .null] [.int (Int32.ofInt 1), .int x1] M L Q)
    refine wp_icmpne (off := 32) 66 (by decide +kernel) (by decide) (fun c_2 => ?_) (fun c_2 => ?_)
    · have hP := hP.2 c_2
      refine wp_seg (pc' := 68) [.iconst (-2)] (by decide +kernel) (?_ : Wp E (d + 1) 64 68 [.ref 0, .int x1, .int x2, .null] [.int (Int32.ofInt (-2))] M L Q)
      exact wp_iret (by decide +kernel) rfl (hK _ _ _ hP)
    · have hP := hP.1 c_2
      refine wp_seg (pc' := 42) [.iload 2, .iconst 0, .iconst 255] (by decide +kernel) (?_ : Wp E (d + 1) 64 42 [.ref 0, .int x1, .int x2, .null] [.int (Int32.ofInt 255), .int (Int32.ofInt 0), .int x2] M L Q)
      refine wp_callS 83 [.int x2, .int (Int32.ofInt 0), .int (Int32.ofInt 255)] (i := 126) (by decide +kernel) (by decide +kernel) (by decide +kernel) rfl rfl rfl (rest := []) rfl rfl ?_
      refine s_X9_within M x2 (Int32.ofInt 0) (Int32.ofInt 255)  ?_
      show Wp E (d + 1) 64 45 [.ref 0, .int x1, .int x2, .null] [.int (f_X9_within M x2 (Int32.ofInt 0) (Int32.ofInt 255))] M L Q
      refine wp_ifeq (off := 21) 66 (by decide +kernel) (by decide) (fun c_3 => ?_) (fun c_3 => ?_)
      · have hP := hP.1 c_3
        refine wp_seg (pc' := 68) [.iconst (-2)] (by decide +kernel) (?_ : Wp E (d + 1) 64 68 [.ref 0, .int x1, .int x2, .null] [.int (Int32.ofInt (-2))] M L Q)
        exact wp_iret (by decide +kernel) rfl (hK _ _ _ hP)
      · have hP := hP.2 c_3
        refine wp_seg (pc' := 65) [.aload 0, .getfield 577, .getfield 194, .istore 3, .aload 0, .getfield 577, .iload 2, .putfield 194, .iload 3] (by decide +kernel) (?_ : Wp E (d + 1) 64 65 [.ref 0, .int x1, .int x2, .int (M 3 2)] [.int (M 3 2)] (mput M 3 2 x2) L Q)
        exact wp_iret (by decide +kernel) rfl (hK _ _ _ hP)
  · have hP := hP.1 c_1
    refine wp_seg (pc' := 8) [.iload 2, .iconst 1, .iconst 60] (by decide +kernel) (?_ : Wp E (d + 1) 64 8 [.ref 0, .int x1, .int x2, .null] [.int (Int32.ofInt 60), .int (Int32.ofInt 1), .int x2] M L Q)
    refine wp_callS 83 [.int x2, .int (Int32.ofInt 1), .int (Int32.ofInt 60)] (i := 126) (by decide +kernel) (by decide +kernel) (by decide +kernel) rfl rfl rfl (rest := []) rfl rfl ?_
    refine s_X9_within M x2 (Int32.ofInt 1) (Int32.ofInt 60)  ?_
    show Wp E (d + 1) 64 11 [.ref 0, .int x1, .int x2, .null] [.int (f_X9_within M x2 (Int32.ofInt 1) (Int32.ofInt 60))] M L Q
    refine wp_ifeq (off := 21) 32 (by decide +kernel) (by decide) (fun c_4 => ?_) (fun c_4 => ?_)
    · have hP := hP.1 c_4
      refine wp_seg (pc' := 34) [.iload 1, .iconst 1] (by decide +kernel) (?_ : Wp E (d + 1) 64 34 [.ref 0, .int x1, .int x2, .null] [.int (Int32.ofInt 1), .int x1] M L Q)
      refine wp_icmpne (off := 32) 66 (by decide +kernel) (by decide) (fun c_5 => ?_) (fun c_5 => ?_)
      · have hP := hP.2 c_5
        refine wp_seg (pc' := 68) [.iconst (-2)] (by decide +kernel) (?_ : Wp E (d + 1) 64 68 [.ref 0, .int x1, .int x2, .null] [.int (Int32.ofInt (-2))] M L Q)
        exact wp_iret (by decide +kernel) rfl (hK _ _ _ hP)
      · have hP := hP.1 c_5
        refine wp_seg (pc' := 42) [.iload 2, .iconst 0, .iconst 255] (by decide +kernel) (?_ : Wp E (d + 1) 64 42 [.ref 0, .int x1, .int x2, .null] [.int (Int32.ofInt 255), .int (Int32.ofInt 0), .int x2] M L Q)
        refine wp_callS 83 [.int x2, .int (Int32.ofInt 0), .int (Int32.ofInt 255)] (i := 126) (by decide +kernel) (by decide +kernel) (by decide +kernel) rfl rfl rfl (rest := []) rfl rfl ?_
        refine s_X9_within M x2 (Int32.ofInt 0) (Int32.ofInt 255)  ?_
        show Wp E (d + 1) 64 45 [.ref 0, .int x1, .int x2, .null] [.int (f_X9_within M x2 (Int32.ofInt 0) (Int32.ofInt 255))] M L Q
        refine wp_ifeq (off := 21) 66 (by decide +kernel) (by decide) (fun c_6 => ?_) (fun c_6 => ?_)
        · have hP := hP.1 c_6
          refine wp_seg (pc' := 68) [.iconst (-2)] (by decide +kernel) (?_ : Wp E (d + 1) 64 68 [.ref 0, .int x1, .int x2, .null] [.int (Int32.ofInt (-2))] M L Q)
          exact wp_iret (by decide +kernel) rfl (hK _ _ _ hP)
        · have hP := hP.2 c_6
          refine wp_seg (pc' := 65) [.aload 0, .getfield 577, .getfield 194, .istore 3, .aload 0, .getfield 577, .iload 2, .putfield 194, .iload 3] (by decide +kernel) (?_ : Wp E (d + 1) 64 65 [.ref 0, .int x1, .int x2, .int (M 3 2)] [.int (M 3 2)] (mput M 3 2 x2) L Q)
          exact wp_iret (by decide +kernel) rfl (hK _ _ _ hP)
    · have hP := hP.2 c_4
      refine wp_seg (pc' := 31) [.aload 0, .getfield 577, .getfield 193, .istore 3, .aload 0, .getfield 577, .iload 2, .putfield 193, .iload 3] (by decide +kernel) (?_ : Wp E (d + 1) 64 31 [.ref 0, .int x1, .int x2, .int (M 3 1)] [.int (M 3 1)] (mput M 3 1 x2) L Q)
      exact wp_iret (by decide +kernel) rfl (hK _ _ _ hP)

def P_X9_know (x1 : Int32) (x2 : Int32) (M : Mem) (L : LMem) (K : Int32 → Mem → LMem → Prop) : Prop := (((f_X9_isRoom M x1) = 0 → K (Int32.ofInt (-1)) M L) ∧ (¬ ((f_X9_isRoom M x1) = 0) → (((f_X9_within M x2 (Int32.ofInt 0) (Int32.ofInt 255)) = 0 → K (Int32.ofInt (-2)) M L) ∧ (¬ ((f_X9_within M x2 (Int32.ofInt 0) (Int32.ofInt 255)) = 0) → (vp_in x1 8 ∧ K (M 9 x1.toNatClampNeg) (mput M 9 x1.toNatClampNeg x2) L)))))
theorem t_X9_know {E : VE} {d : Nat} {Q : QQ} {K : Int32 → Mem → LMem → Prop} {x1 : Int32} {x2 : Int32} {M : Mem} {L : LMem} (hP : P_X9_know x1 x2 M L K) (hK : ∀ (v : Int32) (M : Mem) (L : LMem), K v M L → Q (some (.int v)) M L) : Wp E (d + 2) 70 0 [.ref 0, .int x1, .int x2, .null] [] M L Q := by
  unfold P_X9_know at hP
  refine wp_seg (pc' := 1) [.iload 1] (by decide +kernel) (?_ : Wp E (d + 2) 70 1 [.ref 0, .int x1, .int x2, .null] [.int x1] M L Q)
  refine wp_callS 84 [.int x1] (i := 150) (by decide +kernel) (by decide +kernel) (by decide +kernel) rfl rfl rfl (rest := []) rfl rfl ?_
  refine s_X9_isRoom M x1  ?_
  show Wp E (d + 2) 70 4 [.ref 0, .int x1, .int x2, .null] [.int (f_X9_isRoom M x1)] M L Q
  refine wp_ifne (off := 5) 9 (by decide +kernel) (by decide) (fun c_1 => ?_) (fun c_1 => ?_)
  · have hP := hP.2 c_1
    refine wp_seg (pc' := 14) [.iload 2, .iconst 0, .iconst 255] (by decide +kernel) (?_ : Wp E (d + 2) 70 14 [.ref 0, .int x1, .int x2, .null] [.int (Int32.ofInt 255), .int (Int32.ofInt 0), .int x2] M L Q)
    refine wp_callS 83 [.int x2, .int (Int32.ofInt 0), .int (Int32.ofInt 255)] (i := 126) (by decide +kernel) (by decide +kernel) (by decide +kernel) rfl rfl rfl (rest := []) rfl rfl ?_
    refine s_X9_within M x2 (Int32.ofInt 0) (Int32.ofInt 255)  ?_
    show Wp E (d + 2) 70 17 [.ref 0, .int x1, .int x2, .null] [.int (f_X9_within M x2 (Int32.ofInt 0) (Int32.ofInt 255))] M L Q
    refine wp_ifne (off := 6) 23 (by decide +kernel) (by decide) (fun c_2 => ?_) (fun c_2 => ?_)
    · have hP := hP.2 c_2
      obtain ⟨a_3, hP⟩ := hP
      refine wp_seg (pc' := 32) [.aload 0, .getfield 577, .getfield 195, .iload 1, .iaload] (by decide +kernel) (show aok 9 0 x1 ∧ Wp E (d + 2) 70 32 [.ref 0, .int x1, .int x2, .null] [.int (M 9 x1.toNatClampNeg)] M L Q from ⟨⟨rfl, a_3⟩, ?_⟩)
      refine wp_seg (pc' := 43) [.istore 3, .aload 0, .getfield 577, .getfield 195, .iload 1, .iload 2, .iastore] (by decide +kernel) (show aok 9 0 x1 ∧ Wp E (d + 2) 70 43 [.ref 0, .int x1, .int x2, .int (M 9 x1.toNatClampNeg)] [] (mput M 9 x1.toNatClampNeg x2) L Q from ⟨⟨rfl, a_3⟩, ?_⟩)
      refine wp_seg (pc' := 44) [.iload 3] (by decide +kernel) (?_ : Wp E (d + 2) 70 44 [.ref 0, .int x1, .int x2, .int (M 9 x1.toNatClampNeg)] [.int (M 9 x1.toNatClampNeg)] (mput M 9 x1.toNatClampNeg x2) L Q)
      exact wp_iret (by decide +kernel) rfl (hK _ _ _ hP)
    · have hP := hP.1 c_2
      refine wp_seg (pc' := 22) [.iconst (-2)] (by decide +kernel) (?_ : Wp E (d + 2) 70 22 [.ref 0, .int x1, .int x2, .null] [.int (Int32.ofInt (-2))] M L Q)
      exact wp_iret (by decide +kernel) rfl (hK _ _ _ hP)
  · have hP := hP.1 c_1
    refine wp_seg (pc' := 8) [.iconst (-1)] (by decide +kernel) (?_ : Wp E (d + 2) 70 8 [.ref 0, .int x1, .int x2, .null] [.int (Int32.ofInt (-1))] M L Q)
    exact wp_iret (by decide +kernel) rfl (hK _ _ _ hP)

def P_X9_call (x1 : Int32) (x2 : Int32) (x3 : Int32) (x4 : Int32) (M : Mem) (L : LMem) (K : Int32 → Mem → LMem → Prop) : Prop := (((f_X9_twoRooms M x1 x2) = 0 → K (Int32.ofInt (-1)) M L) ∧ (¬ ((f_X9_twoRooms M x1 x2) = 0) → (((f_X9_within M x3 (Int32.ofInt 1) (Int32.ofInt 9)) = 0 → K (Int32.ofInt (-2)) M L) ∧ (¬ ((f_X9_within M x3 (Int32.ofInt 1) (Int32.ofInt 9)) = 0) → (((f_X9_within M x4 (Int32.ofInt 1) (Int32.ofInt 60)) = 0 → K (Int32.ofInt (-2)) M L) ∧ (¬ ((f_X9_within M x4 (Int32.ofInt 1) (Int32.ofInt 60)) = 0) → (((M 3 8) < (Int32.ofInt 5) → vp_in (M 3 8) 5) ∧ (((f_X3_addWaiting M x1 x2 x3 x4) = 0 → K (Int32.ofInt (-4)) (g_X3_addWaiting M x1 x2 x3 x4) L) ∧ (¬ ((f_X3_addWaiting M x1 x2 x3 x4) = 0) → K (((g_X3_addWaiting M x1 x2 x3 x4) 3 8) - (Int32.ofInt 1)) (g_X3_addWaiting M x1 x2 x3 x4) L)))))))))
theorem t_X9_call {E : VE} {d : Nat} {Q : QQ} {K : Int32 → Mem → LMem → Prop} {x1 : Int32} {x2 : Int32} {x3 : Int32} {x4 : Int32} {M : Mem} {L : LMem} (hP : P_X9_call x1 x2 x3 x4 M L K) (hK : ∀ (v : Int32) (M : Mem) (L : LMem), K v M L → Q (some (.int v)) M L) : Wp E (d + 3) 72 0 [.ref 0, .int x1, .int x2, .int x3, .int x4] [] M L Q := by
  unfold P_X9_call at hP
  refine wp_seg (pc' := 2) [.iload 1, .iload 2] (by decide +kernel) (?_ : Wp E (d + 3) 72 2 [.ref 0, .int x1, .int x2, .int x3, .int x4] [.int x2, .int x1] M L Q)
  refine wp_callS 85 [.int x1, .int x2] (i := 136) (by decide +kernel) (by decide +kernel) (by decide +kernel) rfl rfl rfl (rest := []) rfl rfl ?_
  refine s_X9_twoRooms M x1 x2  ?_
  show Wp E (d + 3) 72 5 [.ref 0, .int x1, .int x2, .int x3, .int x4] [.int (f_X9_twoRooms M x1 x2)] M L Q
  refine wp_ifne (off := 5) 10 (by decide +kernel) (by decide) (fun c_1 => ?_) (fun c_1 => ?_)
  · have hP := hP.2 c_1
    refine wp_seg (pc' := 14) [.iload 3, .iconst 1, .iconst 9] (by decide +kernel) (?_ : Wp E (d + 3) 72 14 [.ref 0, .int x1, .int x2, .int x3, .int x4] [.int (Int32.ofInt 9), .int (Int32.ofInt 1), .int x3] M L Q)
    refine wp_callS 83 [.int x3, .int (Int32.ofInt 1), .int (Int32.ofInt 9)] (i := 126) (by decide +kernel) (by decide +kernel) (by decide +kernel) rfl rfl rfl (rest := []) rfl rfl ?_
    refine s_X9_within M x3 (Int32.ofInt 1) (Int32.ofInt 9)  ?_
    show Wp E (d + 3) 72 17 [.ref 0, .int x1, .int x2, .int x3, .int x4] [.int (f_X9_within M x3 (Int32.ofInt 1) (Int32.ofInt 9))] M L Q
    refine wp_ifeq (off := 14) 31 (by decide +kernel) (by decide) (fun c_2 => ?_) (fun c_2 => ?_)
    · have hP := hP.1 c_2
      refine wp_seg (pc' := 33) [.iconst (-2)] (by decide +kernel) (?_ : Wp E (d + 3) 72 33 [.ref 0, .int x1, .int x2, .int x3, .int x4] [.int (Int32.ofInt (-2))] M L Q)
      exact wp_iret (by decide +kernel) rfl (hK _ _ _ hP)
    · have hP := hP.2 c_2
      refine wp_seg (pc' := 25) [.iload 4, .iconst 1, .iconst 60] (by decide +kernel) (?_ : Wp E (d + 3) 72 25 [.ref 0, .int x1, .int x2, .int x3, .int x4] [.int (Int32.ofInt 60), .int (Int32.ofInt 1), .int x4] M L Q)
      refine wp_callS 83 [.int x4, .int (Int32.ofInt 1), .int (Int32.ofInt 60)] (i := 126) (by decide +kernel) (by decide +kernel) (by decide +kernel) rfl rfl rfl (rest := []) rfl rfl ?_
      refine s_X9_within M x4 (Int32.ofInt 1) (Int32.ofInt 60)  ?_
      show Wp E (d + 3) 72 28 [.ref 0, .int x1, .int x2, .int x3, .int x4] [.int (f_X9_within M x4 (Int32.ofInt 1) (Int32.ofInt 60))] M L Q
      refine wp_ifne (off := 6) 34 (by decide +kernel) (by decide) (fun c_3 => ?_) (fun c_3 => ?_)
      · have hP := hP.2 c_3
        refine wp_seg (pc' := 43) [.aload 0, .getfield 577, .iload 1, .iload 2, .iload 3, .iload 4] (by decide +kernel) (?_ : Wp E (d + 3) 72 43 [.ref 0, .int x1, .int x2, .int x3, .int x4] [.int x4, .int x3, .int x2, .int x1, .ref 3] M L Q)
        refine wp_callV 16 3 [.int x1, .int x2, .int x3, .int x4] (i := 186) (by decide +kernel) (by decide +kernel) (by decide +kernel) (by decide +kernel) rfl rfl rfl (rest := []) rfl rfl ?_
        obtain ⟨a_4, hP⟩ := hP
        refine s_X3_addWaiting M x1 x2 x3 x4 a_4 ?_
        show Wp E (d + 3) 72 46 [.ref 0, .int x1, .int x2, .int x3, .int x4] [.int (f_X3_addWaiting M x1 x2 x3 x4)] (g_X3_addWaiting M x1 x2 x3 x4) L Q
        refine wp_ifeq (off := 15) 61 (by decide +kernel) (by decide) (fun c_5 => ?_) (fun c_5 => ?_)
        · have hP := hP.1 c_5
          refine wp_seg (pc' := 63) [.iconst (-4)] (by decide +kernel) (?_ : Wp E (d + 3) 72 63 [.ref 0, .int x1, .int x2, .int x3, .int x4] [.int (Int32.ofInt (-4))] (g_X3_addWaiting M x1 x2 x3 x4) L Q)
          exact wp_iret (by decide +kernel) rfl (hK _ _ _ hP)
        · have hP := hP.2 c_5
          refine wp_seg (pc' := 63) [.aload 0, .getfield 577, .getfield 200, .iconst 1, .isub, .goto 0] (by decide +kernel) (?_ : Wp E (d + 3) 72 63 [.ref 0, .int x1, .int x2, .int x3, .int x4] [.int (((g_X3_addWaiting M x1 x2 x3 x4) 3 8) - (Int32.ofInt 1))] (g_X3_addWaiting M x1 x2 x3 x4) L Q)
          exact wp_iret (by decide +kernel) rfl (hK _ _ _ hP)
      · have hP := hP.1 c_3
        refine wp_seg (pc' := 33) [.iconst (-2)] (by decide +kernel) (?_ : Wp E (d + 3) 72 33 [.ref 0, .int x1, .int x2, .int x3, .int x4] [.int (Int32.ofInt (-2))] M L Q)
        exact wp_iret (by decide +kernel) rfl (hK _ _ _ hP)
  · have hP := hP.1 c_1
    refine wp_seg (pc' := 9) [.iconst (-1)] (by decide +kernel) (?_ : Wp E (d + 3) 72 9 [.ref 0, .int x1, .int x2, .int x3, .int x4] [.int (Int32.ofInt (-1))] M L Q)
    exact wp_iret (by decide +kernel) rfl (hK _ _ _ hP)

def P_X9_clear (M : Mem) (L : LMem) (K : Int32 → Mem → LMem → Prop) : Prop := K (M 3 8) (mput M 3 8 (Int32.ofInt 0)) L
theorem t_X9_clear {E : VE} {d : Nat} {Q : QQ} {K : Int32 → Mem → LMem → Prop} {M : Mem} {L : LMem} (hP : P_X9_clear M L K) (hK : ∀ (v : Int32) (M : Mem) (L : LMem), K v M L → Q (some (.int v)) M L) : Wp E d 73 0 [.ref 0, .null] [] M L Q := by
  unfold P_X9_clear at hP
  refine wp_seg (pc' := 17) [.aload 0, .getfield 577, .getfield 200, .istore 1, .aload 0, .getfield 577, .iconst 0, .putfield 200, .iload 1] (by decide +kernel) (?_ : Wp E d 73 17 [.ref 0, .int (M 3 8)] [.int (M 3 8)] (mput M 3 8 (Int32.ofInt 0)) L Q)
  exact wp_iret (by decide +kernel) rfl (hK _ _ _ hP)
end
