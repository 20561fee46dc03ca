-- ===== PART A: goes FIRST, ahead of the names: the tables' words, and 'selects' of the private methods out of them =====
/-- a private method of a class that the tables say can be made, by its rows of tables_1 -/
def lw_okq (q : MethodName × Nat) : Prop := (q.1.cls ≠ "java/lang/invoke/MethodHandle" ∧ q.1.cls ≠ "java/lang/invoke/VarHandle") ∧ Cond.instantiable q.1.cls q.2 ∈ tables_1 ∧ Cond.privateMethod q.1 ∈ tables_1 ∧ Cond.instanceMethod q.1 ∈ tables_1
theorem lw_p0 : lw_okq (⟨"SpeakTubes$Route", "bringsNearer", "(LSpeakTubes$House;I)Z"⟩, 6) := ⟨⟨by decide +kernel, by decide +kernel⟩, List.mem_of_getElem? (i := 138) (by decide +kernel), List.mem_of_getElem? (i := 399) (by decide +kernel), List.mem_of_getElem? (i := 400) (by decide +kernel)⟩
theorem lw_p1 : lw_okq (⟨"SpeakTubes$Route", "nextTube", "(LSpeakTubes$House;II)I"⟩, 6) := ⟨⟨by decide +kernel, by decide +kernel⟩, List.mem_of_getElem? (i := 138) (by decide +kernel), List.mem_of_getElem? (i := 410) (by decide +kernel), List.mem_of_getElem? (i := 411) (by decide +kernel)⟩
theorem lw_p2 : lw_okq (⟨"SpeakTubes$Day", "endCalls", "()V"⟩, 13) := ⟨⟨by decide +kernel, by decide +kernel⟩, List.mem_of_getElem? (i := 174) (by decide +kernel), List.mem_of_getElem? (i := 471) (by decide +kernel), List.mem_of_getElem? (i := 472) (by decide +kernel)⟩
theorem lw_p3 : lw_okq (⟨"SpeakTubes$Day", "whyNot", "(IILSpeakTubes$Keeping;LSpeakTubes$Route;)I"⟩, 13) := ⟨⟨by decide +kernel, by decide +kernel⟩, List.mem_of_getElem? (i := 174) (by decide +kernel), List.mem_of_getElem? (i := 479) (by decide +kernel), List.mem_of_getElem? (i := 480) (by decide +kernel)⟩
theorem lw_p4 : lw_okq (⟨"SpeakTubes$Day", "beginCall", "(IIILSpeakTubes$Route;I)V"⟩, 13) := ⟨⟨by decide +kernel, by decide +kernel⟩, List.mem_of_getElem? (i := 174) (by decide +kernel), List.mem_of_getElem? (i := 492) (by decide +kernel), List.mem_of_getElem? (i := 493) (by decide +kernel)⟩
theorem lw_p5 : lw_okq (⟨"SpeakTubes$Day", "goingOn", "()I"⟩, 13) := ⟨⟨by decide +kernel, by decide +kernel⟩, List.mem_of_getElem? (i := 174) (by decide +kernel), List.mem_of_getElem? (i := 499) (by decide +kernel), List.mem_of_getElem? (i := 500) (by decide +kernel)⟩
theorem lw_p6 : lw_okq (⟨"SpeakTubes$Orders", "orderEnd", "(Z)I"⟩, 11) := ⟨⟨by decide +kernel, by decide +kernel⟩, List.mem_of_getElem? (i := 226) (by decide +kernel), List.mem_of_getElem? (i := 541) (by decide +kernel), List.mem_of_getElem? (i := 542) (by decide +kernel)⟩
theorem lw_p7 : lw_okq (⟨"SpeakTubes$Orders", "busyMinutes", "(I)J"⟩, 11) := ⟨⟨by decide +kernel, by decide +kernel⟩, List.mem_of_getElem? (i := 226) (by decide +kernel), List.mem_of_getElem? (i := 545) (by decide +kernel), List.mem_of_getElem? (i := 546) (by decide +kernel)⟩
theorem lw_p8 : lw_okq (⟨"SpeakTubes$Orders", "minutesOf", "(II)J"⟩, 11) := ⟨⟨by decide +kernel, by decide +kernel⟩, List.mem_of_getElem? (i := 226) (by decide +kernel), List.mem_of_getElem? (i := 549) (by decide +kernel), List.mem_of_getElem? (i := 550) (by decide +kernel)⟩
theorem lw_p9 : lw_okq (⟨"SpeakTubes$Orders", "nextOrder", "()Z"⟩, 11) := ⟨⟨by decide +kernel, by decide +kernel⟩, List.mem_of_getElem? (i := 226) (by decide +kernel), List.mem_of_getElem? (i := 561) (by decide +kernel), List.mem_of_getElem? (i := 562) (by decide +kernel)⟩
theorem lw_p10 : lw_okq (⟨"SpeakTubes$Orders", "swap", "(II)V"⟩, 11) := ⟨⟨by decide +kernel, by decide +kernel⟩, List.mem_of_getElem? (i := 226) (by decide +kernel), List.mem_of_getElem? (i := 565) (by decide +kernel), List.mem_of_getElem? (i := 566) (by decide +kernel)⟩
theorem lw_p11 : lw_okq (⟨"SpeakTubes$Servants", "takeAsTheyCome", "(ILSpeakTubes$Route;)V"⟩, 3) := ⟨⟨by decide +kernel, by decide +kernel⟩, List.mem_of_getElem? (i := 269) (by decide +kernel), List.mem_of_getElem? (i := 587) (by decide +kernel), List.mem_of_getElem? (i := 588) (by decide +kernel)⟩
theorem lw_p12 : lw_okq (⟨"SpeakTubes$Servants", "takeByNumbers", "(ILSpeakTubes$Route;)V"⟩, 3) := ⟨⟨by decide +kernel, by decide +kernel⟩, List.mem_of_getElem? (i := 269) (by decide +kernel), List.mem_of_getElem? (i := 592) (by decide +kernel), List.mem_of_getElem? (i := 593) (by decide +kernel)⟩
theorem lw_p13 : lw_okq (⟨"SpeakTubes$Stretches", "gatherParts", "(I)V"⟩, 5) := ⟨⟨by decide +kernel, by decide +kernel⟩, List.mem_of_getElem? (i := 287) (by decide +kernel), List.mem_of_getElem? (i := 638) (by decide +kernel), List.mem_of_getElem? (i := 639) (by decide +kernel)⟩
theorem lw_p14 : lw_okq (⟨"SpeakTubes$Stretches", "hasPart", "(II)Z"⟩, 5) := ⟨⟨by decide +kernel, by decide +kernel⟩, List.mem_of_getElem? (i := 287) (by decide +kernel), List.mem_of_getElem? (i := 642) (by decide +kernel), List.mem_of_getElem? (i := 643) (by decide +kernel)⟩
theorem lw_p15 : lw_okq (⟨"SpeakTubes$Stretches", "allCanBeParted", "(I)Z"⟩, 5) := ⟨⟨by decide +kernel, by decide +kernel⟩, List.mem_of_getElem? (i := 287) (by decide +kernel), List.mem_of_getElem? (i := 646) (by decide +kernel), List.mem_of_getElem? (i := 647) (by decide +kernel)⟩
def lw_privs_1 : List (MethodName × Nat) := [(⟨"SpeakTubes$Route", "bringsNearer", "(LSpeakTubes$House;I)Z"⟩, 6), (⟨"SpeakTubes$Route", "nextTube", "(LSpeakTubes$House;II)I"⟩, 6), (⟨"SpeakTubes$Day", "endCalls", "()V"⟩, 13), (⟨"SpeakTubes$Day", "whyNot", "(IILSpeakTubes$Keeping;LSpeakTubes$Route;)I"⟩, 13), (⟨"SpeakTubes$Day", "beginCall", "(IIILSpeakTubes$Route;I)V"⟩, 13), (⟨"SpeakTubes$Day", "goingOn", "()I"⟩, 13), (⟨"SpeakTubes$Orders", "orderEnd", "(Z)I"⟩, 11), (⟨"SpeakTubes$Orders", "busyMinutes", "(I)J"⟩, 11), (⟨"SpeakTubes$Orders", "minutesOf", "(II)J"⟩, 11), (⟨"SpeakTubes$Orders", "nextOrder", "()Z"⟩, 11), (⟨"SpeakTubes$Orders", "swap", "(II)V"⟩, 11), (⟨"SpeakTubes$Servants", "takeAsTheyCome", "(ILSpeakTubes$Route;)V"⟩, 3), (⟨"SpeakTubes$Servants", "takeByNumbers", "(ILSpeakTubes$Route;)V"⟩, 3), (⟨"SpeakTubes$Stretches", "gatherParts", "(I)V"⟩, 5), (⟨"SpeakTubes$Stretches", "hasPart", "(II)Z"⟩, 5), (⟨"SpeakTubes$Stretches", "allCanBeParted", "(I)Z"⟩, 5)]
theorem lw_r1 : ∀ q ∈ lw_privs_1, lw_okq q := List.forall_mem_cons.mpr ⟨lw_p0, List.forall_mem_cons.mpr ⟨lw_p1, List.forall_mem_cons.mpr ⟨lw_p2, List.forall_mem_cons.mpr ⟨lw_p3, List.forall_mem_cons.mpr ⟨lw_p4, List.forall_mem_cons.mpr ⟨lw_p5, List.forall_mem_cons.mpr ⟨lw_p6, List.forall_mem_cons.mpr ⟨lw_p7, List.forall_mem_cons.mpr ⟨lw_p8, List.forall_mem_cons.mpr ⟨lw_p9, List.forall_mem_cons.mpr ⟨lw_p10, List.forall_mem_cons.mpr ⟨lw_p11, List.forall_mem_cons.mpr ⟨lw_p12, List.forall_mem_cons.mpr ⟨lw_p13, List.forall_mem_cons.mpr ⟨lw_p14, List.forall_mem_cons.mpr ⟨lw_p15, fun _ h => absurd h List.not_mem_nil⟩⟩⟩⟩⟩⟩⟩⟩⟩⟩⟩⟩⟩⟩⟩⟩
theorem lw_p16 : lw_okq (⟨"SpeakTubes$Stretches", "layBounds", "(I)V"⟩, 5) := ⟨⟨by decide +kernel, by decide +kernel⟩, List.mem_of_getElem? (i := 287) (by decide +kernel), List.mem_of_getElem? (i := 650) (by decide +kernel), List.mem_of_getElem? (i := 651) (by decide +kernel)⟩
theorem lw_p17 : lw_okq (⟨"SpeakTubes$Distances", "layTube", "(LSpeakTubes$House;I)V"⟩, 1) := ⟨⟨by decide +kernel, by decide +kernel⟩, List.mem_of_getElem? (i := 310) (by decide +kernel), List.mem_of_getElem? (i := 675) (by decide +kernel), List.mem_of_getElem? (i := 676) (by decide +kernel)⟩
theorem lw_p18 : lw_okq (⟨"SpeakTubes$Distances", "goBy", "(I)V"⟩, 1) := ⟨⟨by decide +kernel, by decide +kernel⟩, List.mem_of_getElem? (i := 310) (by decide +kernel), List.mem_of_getElem? (i := 680) (by decide +kernel), List.mem_of_getElem? (i := 681) (by decide +kernel)⟩
def lw_privs_2 : List (MethodName × Nat) := [(⟨"SpeakTubes$Stretches", "layBounds", "(I)V"⟩, 5), (⟨"SpeakTubes$Distances", "layTube", "(LSpeakTubes$House;I)V"⟩, 1), (⟨"SpeakTubes$Distances", "goBy", "(I)V"⟩, 1)]
theorem lw_r2 : ∀ q ∈ lw_privs_2, lw_okq q := List.forall_mem_cons.mpr ⟨lw_p16, List.forall_mem_cons.mpr ⟨lw_p17, List.forall_mem_cons.mpr ⟨lw_p18, fun _ h => absurd h List.not_mem_nil⟩⟩⟩
def lw_privs : List (MethodName × Nat) := lw_privs_1 ++ (lw_privs_2)
def lw_tbl : List Cond := k2_sels lw_privs ++ tables_1
theorem lw_privs_ok : ∀ q ∈ lw_privs, lw_okq q := by
  show ∀ q ∈ lw_privs_1 ++ (lw_privs_2), lw_okq q
  exact List.forall_mem_append.mpr ⟨lw_r1, lw_r2⟩
/-! ===== BEGIN printed: names, fields, word lists, decode rows ===== -/
def RX0 : String := "SpeakTubes$Day"
def TX0 : u_T := fun k => match k with
  | 0 => ("SpeakTubes$Day", "rooms", "[I", true)
  | 1 => ("SpeakTubes$Day", "over", "[I", true)
  | 2 => ("SpeakTubes$Day", "tubes", "[I", true)
  | 3 => ("SpeakTubes$Day", "hearers", "[I", true)
  | 4 => ("SpeakTubes$Day", "brings", "[I", true)
  | 5 => ("SpeakTubes$Day", "ended", "[Z", true)
  | 6 => ("SpeakTubes$Day", "known", "[I", true)
  | 7 => ("SpeakTubes$Day", "begun", "I", false)
  | 8 => ("SpeakTubes$Day", "minute", "I", false)
  | 9 => ("SpeakTubes$Day", "last", "I", false)
  | 10 => ("SpeakTubes$Day", "most", "I", false)
  | 11 => ("SpeakTubes$Day", "used", "I", false)
  | _ => ("SpeakTubes$Day", "why", "I", false)
def tyX0 : Nat → FieldType := fun k => match k with
  | 0 => .array .int
  | 1 => .array .int
  | 2 => .array .int
  | 3 => .array .int
  | 4 => .array .int
  | 5 => .array .boolean
  | 6 => .array .int
  | 7 => .int
  | 8 => .int
  | 9 => .int
  | 10 => .int
  | 11 => .int
  | _ => .int
abbrev wsX00 : List Cond := u_ws RX0 TX0 13
theorem nmX0 : ∀ a, a < 13 → ∀ b, b < 13 → a ≠ b → (TX0 a).2.1 ≠ (TX0 b).2.1 := by decide +kernel
theorem tyX0_ok : ∀ k, k < 13 → parseFieldDescriptor (TX0 k).2.2.1 = some (tyX0 k) := by decide +kernel
abbrev cX0_init : ByteArray := prog_2_method_1_code
def yX0_init : MethodName := ⟨RX0, "<init>", "()V"⟩
abbrev cX0_run : ByteArray := prog_2_method_2_code
def yX0_run : MethodName := ⟨RX0, "run", "(LSpeakTubes$Pad;LSpeakTubes$Keeping;LSpeakTubes$Route;I)V"⟩
abbrev cX0_beginCall : ByteArray := prog_2_method_3_code
def yX0_beginCall : MethodName := ⟨RX0, "beginCall", "(IIILSpeakTubes$Route;I)V"⟩
abbrev cX0_whyNot : ByteArray := prog_2_method_4_code
def yX0_whyNot : MethodName := ⟨RX0, "whyNot", "(IILSpeakTubes$Keeping;LSpeakTubes$Route;)I"⟩
abbrev cX0_goingOn : ByteArray := prog_2_method_5_code
def yX0_goingOn : MethodName := ⟨RX0, "goingOn", "()I"⟩
abbrev cX0_endCalls : ByteArray := prog_2_method_6_code
def yX0_endCalls : MethodName := ⟨RX0, "endCalls", "()V"⟩
def RX1 : String := "SpeakTubes$Distances"
def TX1 : u_T := fun k => match k with
  | _ => ("SpeakTubes$Distances", "lengths", "[I", true)
def tyX1 : Nat → FieldType := fun k => match k with
  | _ => .array .int
abbrev wsX10 : List Cond := u_ws RX1 TX1 1
theorem nmX1 : ∀ a, a < 1 → ∀ b, b < 1 → a ≠ b → (TX1 a).2.1 ≠ (TX1 b).2.1 := by decide +kernel
theorem tyX1_ok : ∀ k, k < 1 → parseFieldDescriptor (TX1 k).2.2.1 = some (tyX1 k) := by decide +kernel
abbrev cX1_init : ByteArray := prog_3_method_1_code
def yX1_init : MethodName := ⟨RX1, "<init>", "()V"⟩
abbrev cX1_measure : ByteArray := prog_3_method_2_code
def yX1_measure : MethodName := ⟨RX1, "measure", "(LSpeakTubes$Keeping;I)V"⟩
abbrev cX1_layTube : ByteArray := prog_3_method_3_code
def yX1_layTube : MethodName := ⟨RX1, "layTube", "(LSpeakTubes$House;I)V"⟩
abbrev cX1_goBy : ByteArray := prog_3_method_4_code
def yX1_goBy : MethodName := ⟨RX1, "goBy", "(I)V"⟩
abbrev cX1_carried : ByteArray := prog_3_method_5_code
def yX1_carried : MethodName := ⟨RX1, "carried", "(II)I"⟩
abbrev cX1_sum : ByteArray := prog_3_method_6_code
def yX1_sum : MethodName := ⟨RX1, "sum", "()I"⟩
abbrev cX1_sumWith : ByteArray := prog_3_method_7_code
def yX1_sumWith : MethodName := ⟨RX1, "sumWith", "(IIII)I"⟩
abbrev cX1_lacksOneOf : ByteArray := prog_3_method_8_code
def yX1_lacksOneOf : MethodName := ⟨RX1, "lacksOneOf", "(LSpeakTubes$Distances;)Z"⟩
def RX2 : String := "SpeakTubes$House"
def TX2 : u_T := fun k => match k with
  | 0 => ("SpeakTubes$House", "first", "[I", true)
  | 1 => ("SpeakTubes$House", "other", "[I", true)
  | 2 => ("SpeakTubes$House", "kind", "[I", true)
  | 3 => ("SpeakTubes$House", "length", "[I", true)
  | _ => ("SpeakTubes$House", "count", "I", false)
def tyX2 : Nat → FieldType := fun k => match k with
  | 0 => .array .int
  | 1 => .array .int
  | 2 => .array .int
  | 3 => .array .int
  | _ => .int
abbrev wsX20 : List Cond := u_ws RX2 TX2 5
theorem nmX2 : ∀ a, a < 5 → ∀ b, b < 5 → a ≠ b → (TX2 a).2.1 ≠ (TX2 b).2.1 := by decide +kernel
theorem tyX2_ok : ∀ k, k < 5 → parseFieldDescriptor (TX2 k).2.2.1 = some (tyX2 k) := by decide +kernel
abbrev cX2_init : ByteArray := prog_4_method_1_code
def yX2_init : MethodName := ⟨RX2, "<init>", "()V"⟩
abbrev cX2_read : ByteArray := prog_4_method_2_code
def yX2_read : MethodName := ⟨RX2, "read", "(LSpeakTubes$Pad;)V"⟩
abbrev cX2_beyond : ByteArray := prog_4_method_4_code
def yX2_beyond : MethodName := ⟨RX2, "beyond", "(II)I"⟩
abbrev cX2_ofKind : ByteArray := prog_4_method_5_code
def yX2_ofKind : MethodName := ⟨RX2, "ofKind", "(I)I"⟩
def RX3 : String := "SpeakTubes$Keeping"
def TX3 : u_T := fun k => match k with
  | 0 => ("SpeakTubes$Keeping", "house", "LSpeakTubes$House;", true)
  | 1 => ("SpeakTubes$Keeping", "carries", "I", false)
  | 2 => ("SpeakTubes$Keeping", "stoppers", "I", false)
  | 3 => ("SpeakTubes$Keeping", "matters", "[I", true)
  | 4 => ("SpeakTubes$Keeping", "from", "[I", true)
  | 5 => ("SpeakTubes$Keeping", "to", "[I", true)
  | 6 => ("SpeakTubes$Keeping", "minutes", "[I", true)
  | 7 => ("SpeakTubes$Keeping", "due", "[I", true)
  | 8 => ("SpeakTubes$Keeping", "waiting", "I", false)
  | 9 => ("SpeakTubes$Keeping", "tries", "I", false)
  | _ => ("SpeakTubes$Keeping", "canBe", "I", false)
def tyX3 : Nat → FieldType := fun k => match k with
  | 0 => .object "SpeakTubes$House"
  | 1 => .int
  | 2 => .int
  | 3 => .array .int
  | 4 => .array .int
  | 5 => .array .int
  | 6 => .array .int
  | 7 => .array .int
  | 8 => .int
  | 9 => .int
  | _ => .int
abbrev wsX30 : List Cond := u_ws RX3 TX3 11
theorem nmX3 : ∀ a, a < 11 → ∀ b, b < 11 → a ≠ b → (TX3 a).2.1 ≠ (TX3 b).2.1 := by decide +kernel
theorem tyX3_ok : ∀ k, k < 11 → parseFieldDescriptor (TX3 k).2.2.1 = some (tyX3 k) := by decide +kernel
abbrev cX3_init : ByteArray := prog_5_method_1_code
def yX3_init : MethodName := ⟨RX3, "<init>", "()V"⟩
abbrev cX3_beginTries : ByteArray := prog_5_method_3_code
def yX3_beginTries : MethodName := ⟨RX3, "beginTries", "()V"⟩
abbrev cX3_addWaiting : ByteArray := prog_5_method_4_code
def yX3_addWaiting : MethodName := ⟨RX3, "addWaiting", "(IIII)Z"⟩
def RX4 : String := "SpeakTubes$Orders"
def TX4 : u_T := fun k => match k with
  | 0 => ("SpeakTubes$Orders", "rooms", "[I", true)
  | 1 => ("SpeakTubes$Orders", "tubes", "[I", true)
  | 2 => ("SpeakTubes$Orders", "minutes", "[I", true)
  | 3 => ("SpeakTubes$Orders", "due", "[I", true)
  | 4 => ("SpeakTubes$Orders", "order", "[I", true)
  | 5 => ("SpeakTubes$Orders", "best", "[I", true)
  | 6 => ("SpeakTubes$Orders", "spans", "[J", true)
  | 7 => ("SpeakTubes$Orders", "count", "I", false)
  | 8 => ("SpeakTubes$Orders", "doubles", "I", false)
  | 9 => ("SpeakTubes$Orders", "minute", "I", false)
  | _ => ("SpeakTubes$Orders", "found", "Z", false)
def tyX4 : Nat → FieldType := fun k => match k with
  | 0 => .array .int
  | 1 => .array .int
  | 2 => .array .int
  | 3 => .array .int
  | 4 => .array .int
  | 5 => .array .int
  | 6 => .array .long
  | 7 => .int
  | 8 => .int
  | 9 => .int
  | _ => .boolean
abbrev wsX40 : List Cond := u_ws RX4 TX4 11
theorem nmX4 : ∀ a, a < 11 → ∀ b, b < 11 → a ≠ b → (TX4 a).2.1 ≠ (TX4 b).2.1 := by decide +kernel
theorem tyX4_ok : ∀ k, k < 11 → parseFieldDescriptor (TX4 k).2.2.1 = some (tyX4 k) := by decide +kernel
abbrev cX4_init : ByteArray := prog_6_method_1_code
def yX4_init : MethodName := ⟨RX4, "<init>", "()V"⟩
abbrev cX4_gather : ByteArray := prog_6_method_2_code
def yX4_gather : MethodName := ⟨RX4, "gather", "(LSpeakTubes$Keeping;LSpeakTubes$Route;)Z"⟩
abbrev cX4_seek : ByteArray := prog_6_method_3_code
def yX4_seek : MethodName := ⟨RX4, "seek", "(Z)V"⟩
abbrev cX4_callAt : ByteArray := prog_6_method_4_code
def yX4_callAt : MethodName := ⟨RX4, "callAt", "(I)I"⟩
abbrev cX4_orderEnd : ByteArray := prog_6_method_5_code
def yX4_orderEnd : MethodName := ⟨RX4, "orderEnd", "(Z)I"⟩
abbrev cX4_span : ByteArray := prog_6_method_6_code
def yX4_span : MethodName := ⟨RX4, "span", "(II)J"⟩
abbrev cX4_firstFree : ByteArray := prog_6_method_7_code
def yX4_firstFree : MethodName := ⟨RX4, "firstFree", "(JI)I"⟩
abbrev cX4_busyMinutes : ByteArray := prog_6_method_8_code
def yX4_busyMinutes : MethodName := ⟨RX4, "busyMinutes", "(I)J"⟩
abbrev cX4_minutesOf : ByteArray := prog_6_method_9_code
def yX4_minutesOf : MethodName := ⟨RX4, "minutesOf", "(II)J"⟩
abbrev cX4_nextOrder : ByteArray := prog_6_method_10_code
def yX4_nextOrder : MethodName := ⟨RX4, "nextOrder", "()Z"⟩
abbrev cX4_swap : ByteArray := prog_6_method_11_code
def yX4_swap : MethodName := ⟨RX4, "swap", "(II)V"⟩
def RX5 : String := "SpeakTubes$Pad"
def TX5 : u_T := fun k => match k with
  | 0 => ("SpeakTubes$Pad", "signs", "[I", true)
  | _ => ("SpeakTubes$Pad", "count", "I", false)
def tyX5 : Nat → FieldType := fun k => match k with
  | 0 => .array .int
  | _ => .int
abbrev wsX50 : List Cond := u_ws RX5 TX5 2
theorem nmX5 : ∀ a, a < 2 → ∀ b, b < 2 → a ≠ b → (TX5 a).2.1 ≠ (TX5 b).2.1 := by decide +kernel
theorem tyX5_ok : ∀ k, k < 2 → parseFieldDescriptor (TX5 k).2.2.1 = some (tyX5 k) := by decide +kernel
abbrev cX5_init : ByteArray := prog_7_method_1_code
def yX5_init : MethodName := ⟨RX5, "<init>", "()V"⟩
abbrev cX5_add : ByteArray := prog_7_method_2_code
def yX5_add : MethodName := ⟨RX5, "add", "(I)Z"⟩
abbrev cX5_empty : ByteArray := prog_7_method_3_code
def yX5_empty : MethodName := ⟨RX5, "empty", "()I"⟩
abbrev cX5_signAt : ByteArray := prog_7_method_4_code
def yX5_signAt : MethodName := ⟨RX5, "signAt", "(I)I"⟩
abbrev cX5_roomAt : ByteArray := prog_7_method_5_code
def yX5_roomAt : MethodName := ⟨RX5, "roomAt", "(I)Z"⟩
abbrev cX5_otherRoomAt : ByteArray := prog_7_method_6_code
def yX5_otherRoomAt : MethodName := ⟨RX5, "otherRoomAt", "(II)Z"⟩
abbrev cX5_digitAt : ByteArray := prog_7_method_7_code
def yX5_digitAt : MethodName := ⟨RX5, "digitAt", "(I)Z"⟩
abbrev cX5_kindAt : ByteArray := prog_7_method_8_code
def yX5_kindAt : MethodName := ⟨RX5, "kindAt", "(I)Z"⟩
abbrev cX5_roomOf : ByteArray := prog_7_method_9_code
def yX5_roomOf : MethodName := ⟨RX5, "roomOf", "(I)I"⟩
abbrev cX5_numberOf : ByteArray := prog_7_method_10_code
def yX5_numberOf : MethodName := ⟨RX5, "numberOf", "(I)I"⟩
abbrev cX5_houseFault : ByteArray := prog_7_method_11_code
def yX5_houseFault : MethodName := ⟨RX5, "houseFault", "()I"⟩
abbrev cX5_dayFault : ByteArray := prog_7_method_12_code
def yX5_dayFault : MethodName := ⟨RX5, "dayFault", "()I"⟩
def RX6 : String := "SpeakTubes$Route"
def TX6 : u_T := fun k => match k with
  | 0 => ("SpeakTubes$Route", "cost", "[I", true)
  | 1 => ("SpeakTubes$Route", "tubes", "[I", true)
  | 2 => ("SpeakTubes$Route", "rooms", "[I", true)
  | 3 => ("SpeakTubes$Route", "count", "I", false)
  | 4 => ("SpeakTubes$Route", "length", "I", false)
  | _ => ("SpeakTubes$Route", "mask", "I", false)
def tyX6 : Nat → FieldType := fun k => match k with
  | 0 => .array .int
  | 1 => .array .int
  | 2 => .array .int
  | 3 => .int
  | 4 => .int
  | _ => .int
abbrev wsX60 : List Cond := u_ws RX6 TX6 6
theorem nmX6 : ∀ a, a < 6 → ∀ b, b < 6 → a ≠ b → (TX6 a).2.1 ≠ (TX6 b).2.1 := by decide +kernel
theorem tyX6_ok : ∀ k, k < 6 → parseFieldDescriptor (TX6 k).2.2.1 = some (tyX6 k) := by decide +kernel
abbrev cX6_init : ByteArray := prog_8_method_1_code
def yX6_init : MethodName := ⟨RX6, "<init>", "()V"⟩
abbrev cX6_find : ByteArray := prog_8_method_2_code
def yX6_find : MethodName := ⟨RX6, "find", "(LSpeakTubes$Keeping;III)Z"⟩
abbrev cX6_aim : ByteArray := prog_8_method_3_code
def yX6_aim : MethodName := ⟨RX6, "aim", "(LSpeakTubes$House;II)V"⟩
abbrev cX6_bringsNearer : ByteArray := prog_8_method_4_code
def yX6_bringsNearer : MethodName := ⟨RX6, "bringsNearer", "(LSpeakTubes$House;I)Z"⟩
abbrev cX6_stepOf : ByteArray := prog_8_method_5_code
def yX6_stepOf : MethodName := ⟨RX6, "stepOf", "(LSpeakTubes$House;I)I"⟩
abbrev cX6_walk : ByteArray := prog_8_method_6_code
def yX6_walk : MethodName := ⟨RX6, "walk", "(LSpeakTubes$Keeping;III)Z"⟩
abbrev cX6_nextTube : ByteArray := prog_8_method_7_code
def yX6_nextTube : MethodName := ⟨RX6, "nextTube", "(LSpeakTubes$House;II)I"⟩
abbrev cX6_loudness : ByteArray := prog_8_method_8_code
def yX6_loudness : MethodName := ⟨RX6, "loudness", "(LSpeakTubes$Keeping;I)I"⟩
abbrev cX6_hearers : ByteArray := prog_8_method_9_code
def yX6_hearers : MethodName := ⟨RX6, "hearers", "(LSpeakTubes$House;I)I"⟩
def RX7 : String := "SpeakTubes$Servants"
def TX7 : u_T := fun k => match k with
  | 0 => ("SpeakTubes$Servants", "takes", "[[I", true)
  | 1 => ("SpeakTubes$Servants", "counts", "[I", true)
  | _ => ("SpeakTubes$Servants", "doubles", "I", false)
def tyX7 : Nat → FieldType := fun k => match k with
  | 0 => .array (.array .int)
  | 1 => .array .int
  | _ => .int
abbrev wsX70 : List Cond := u_ws RX7 TX7 3
theorem nmX7 : ∀ a, a < 3 → ∀ b, b < 3 → a ≠ b → (TX7 a).2.1 ≠ (TX7 b).2.1 := by decide +kernel
theorem tyX7_ok : ∀ k, k < 3 → parseFieldDescriptor (TX7 k).2.2.1 = some (tyX7 k) := by decide +kernel
abbrev cX7_init : ByteArray := prog_9_method_1_code
def yX7_init : MethodName := ⟨RX7, "<init>", "()V"⟩
abbrev cX7_gather : ByteArray := prog_9_method_2_code
def yX7_gather : MethodName := ⟨RX7, "gather", "(LSpeakTubes$Keeping;LSpeakTubes$Route;II)Z"⟩
abbrev cX7_takeAsTheyCome : ByteArray := prog_9_method_3_code
def yX7_takeAsTheyCome : MethodName := ⟨RX7, "takeAsTheyCome", "(ILSpeakTubes$Route;)V"⟩
abbrev cX7_takeByNumbers : ByteArray := prog_9_method_4_code
def yX7_takeByNumbers : MethodName := ⟨RX7, "takeByNumbers", "(ILSpeakTubes$Route;)V"⟩
abbrev cX7_leastLocked : ByteArray := prog_9_method_5_code
def yX7_leastLocked : MethodName := ⟨RX7, "leastLocked", "()I"⟩
abbrev cX7_leastFrom : ByteArray := prog_9_method_6_code
def yX7_leastFrom : MethodName := ⟨RX7, "leastFrom", "(LSpeakTubes$Servants;IIIII)I"⟩
def RX8 : String := "SpeakTubes$Stretches"
def TX8 : u_T := fun k => match k with
  | 0 => ("SpeakTubes$Stretches", "ways", "[I", true)
  | 1 => ("SpeakTubes$Stretches", "parts", "[I", true)
  | 2 => ("SpeakTubes$Stretches", "count", "I", false)
  | 3 => ("SpeakTubes$Stretches", "bounds", "[I", true)
  | _ => ("SpeakTubes$Stretches", "fewest", "[B", true)
def tyX8 : Nat → FieldType := fun k => match k with
  | 0 => .array .int
  | 1 => .array .int
  | 2 => .int
  | 3 => .array .int
  | _ => .array .byte
abbrev wsX80 : List Cond := u_ws RX8 TX8 5
theorem nmX8 : ∀ a, a < 5 → ∀ b, b < 5 → a ≠ b → (TX8 a).2.1 ≠ (TX8 b).2.1 := by decide +kernel
theorem tyX8_ok : ∀ k, k < 5 → parseFieldDescriptor (TX8 k).2.2.1 = some (tyX8 k) := by decide +kernel
abbrev cX8_init : ByteArray := prog_10_method_1_code
def yX8_init : MethodName := ⟨RX8, "<init>", "()V"⟩
abbrev cX8_gather : ByteArray := prog_10_method_2_code
def yX8_gather : MethodName := ⟨RX8, "gather", "(LSpeakTubes$Keeping;LSpeakTubes$Route;)V"⟩
abbrev cX8_nextTry : ByteArray := prog_10_method_3_code
def yX8_nextTry : MethodName := ⟨RX8, "nextTry", "(I)I"⟩
abbrev cX8_largerPart : ByteArray := prog_10_method_4_code
def yX8_largerPart : MethodName := ⟨RX8, "largerPart", "(II)I"⟩
abbrev cX8_fewestTries : ByteArray := prog_10_method_5_code
def yX8_fewestTries : MethodName := ⟨RX8, "fewestTries", "(I)I"⟩
abbrev cX8_gatherParts : ByteArray := prog_10_method_6_code
def yX8_gatherParts : MethodName := ⟨RX8, "gatherParts", "(I)V"⟩
abbrev cX8_hasPart : ByteArray := prog_10_method_7_code
def yX8_hasPart : MethodName := ⟨RX8, "hasPart", "(II)Z"⟩
abbrev cX8_allCanBeParted : ByteArray := prog_10_method_8_code
def yX8_allCanBeParted : MethodName := ⟨RX8, "allCanBeParted", "(I)Z"⟩
abbrev cX8_layBounds : ByteArray := prog_10_method_9_code
def yX8_layBounds : MethodName := ⟨RX8, "layBounds", "(I)V"⟩
abbrev cX8_fewestOf : ByteArray := prog_10_method_10_code
def yX8_fewestOf : MethodName := ⟨RX8, "fewestOf", "(LSpeakTubes$Stretches;II)I"⟩
def RX9 : String := "SpeakTubes"
def TX9 : u_T := fun k => match k with
  | 0 => ("SpeakTubes", "pad", "LSpeakTubes$Pad;", true)
  | 1 => ("SpeakTubes", "now", "LSpeakTubes$Keeping;", true)
  | 2 => ("SpeakTubes", "image0", "LSpeakTubes$Keeping;", true)
  | 3 => ("SpeakTubes", "image1", "LSpeakTubes$Keeping;", true)
  | 4 => ("SpeakTubes", "kept", "[Z", true)
  | 5 => ("SpeakTubes", "route", "LSpeakTubes$Route;", true)
  | 6 => ("SpeakTubes", "today", "LSpeakTubes$Day;", true)
  | 7 => ("SpeakTubes", "orders", "LSpeakTubes$Orders;", true)
  | 8 => ("SpeakTubes", "servants", "LSpeakTubes$Servants;", true)
  | 9 => ("SpeakTubes", "stretches", "LSpeakTubes$Stretches;", true)
  | 10 => ("SpeakTubes", "distances", "LSpeakTubes$Distances;", true)
  | _ => ("SpeakTubes", "others", "LSpeakTubes$Distances;", true)
def tyX9 : Nat → FieldType := fun k => match k with
  | 0 => .object "SpeakTubes$Pad"
  | 1 => .object "SpeakTubes$Keeping"
  | 2 => .object "SpeakTubes$Keeping"
  | 3 => .object "SpeakTubes$Keeping"
  | 4 => .array .boolean
  | 5 => .object "SpeakTubes$Route"
  | 6 => .object "SpeakTubes$Day"
  | 7 => .object "SpeakTubes$Orders"
  | 8 => .object "SpeakTubes$Servants"
  | 9 => .object "SpeakTubes$Stretches"
  | 10 => .object "SpeakTubes$Distances"
  | _ => .object "SpeakTubes$Distances"
abbrev wsX90 : List Cond := u_ws RX9 TX9 12
theorem nmX9 : ∀ a, a < 12 → ∀ b, b < 12 → a ≠ b → (TX9 a).2.1 ≠ (TX9 b).2.1 := by decide +kernel
theorem tyX9_ok : ∀ k, k < 12 → parseFieldDescriptor (TX9 k).2.2.1 = some (tyX9 k) := by decide +kernel
abbrev cX9_init : ByteArray := prog_1_method_1_code
def yX9_init : MethodName := ⟨RX9, "<init>", "()V"⟩
abbrev cX9_say : ByteArray := prog_1_method_2_code
def yX9_say : MethodName := ⟨RX9, "say", "(I)I"⟩
abbrev cX9_wipe : ByteArray := prog_1_method_3_code
def yX9_wipe : MethodName := ⟨RX9, "wipe", "()I"⟩
abbrev cX9_fault : ByteArray := prog_1_method_4_code
def yX9_fault : MethodName := ⟨RX9, "fault", "(I)I"⟩
abbrev cX9_house : ByteArray := prog_1_method_5_code
def yX9_house : MethodName := ⟨RX9, "house", "()I"⟩
abbrev cX9_set : ByteArray := prog_1_method_7_code
def yX9_set : MethodName := ⟨RX9, "set", "(II)I"⟩
abbrev cX9_way : ByteArray := prog_1_method_8_code
def yX9_way : MethodName := ⟨RX9, "way", "(III)I"⟩
abbrev cX9_loud : ByteArray := prog_1_method_9_code
def yX9_loud : MethodName := ⟨RX9, "loud", "(III)I"⟩
abbrev cX9_heard : ByteArray := prog_1_method_10_code
def yX9_heard : MethodName := ⟨RX9, "heard", "(II)I"⟩
abbrev cX9_judge : ByteArray := prog_1_method_11_code
def yX9_judge : MethodName := ⟨RX9, "judge", "(I)I"⟩
abbrev cX9_day : ByteArray := prog_1_method_12_code
def yX9_day : MethodName := ⟨RX9, "day", "(I)I"⟩
abbrev cX9_know : ByteArray := prog_1_method_13_code
def yX9_know : MethodName := ⟨RX9, "know", "(II)I"⟩
abbrev cX9_knows : ByteArray := prog_1_method_14_code
def yX9_knows : MethodName := ⟨RX9, "knows", "(II)I"⟩
abbrev cX9_call : ByteArray := prog_1_method_15_code
def yX9_call : MethodName := ⟨RX9, "call", "(IIII)I"⟩
abbrev cX9_clear : ByteArray := prog_1_method_16_code
def yX9_clear : MethodName := ⟨RX9, "clear", "()I"⟩
abbrev cX9_soonest : ByteArray := prog_1_method_17_code
def yX9_soonest : MethodName := ⟨RX9, "soonest", "(I)I"⟩
abbrev cX9_byDue : ByteArray := prog_1_method_18_code
def yX9_byDue : MethodName := ⟨RX9, "byDue", "(I)I"⟩
abbrev cX9_locked : ByteArray := prog_1_method_19_code
def yX9_locked : MethodName := ⟨RX9, "locked", "(II)I"⟩
abbrev cX9_tried : ByteArray := prog_1_method_20_code
def yX9_tried : MethodName := ⟨RX9, "tried", "(IIZ)I"⟩
abbrev cX9_stopped : ByteArray := prog_1_method_22_code
def yX9_stopped : MethodName := ⟨RX9, "stopped", "(I)I"⟩
abbrev cX9_far : ByteArray := prog_1_method_23_code
def yX9_far : MethodName := ⟨RX9, "far", "(II)I"⟩
abbrev cX9_further : ByteArray := prog_1_method_24_code
def yX9_further : MethodName := ⟨RX9, "further", "(II)I"⟩
abbrev cX9_bridges : ByteArray := prog_1_method_25_code
def yX9_bridges : MethodName := ⟨RX9, "bridges", "()I"⟩
abbrev cX9_told : ByteArray := prog_1_method_29_code
def yX9_told : MethodName := ⟨RX9, "told", "(I)I"⟩
abbrev cX9_within : ByteArray := prog_1_method_30_code
def yX9_within : MethodName := ⟨RX9, "within", "(III)Z"⟩
abbrev cX9_isRoom : ByteArray := prog_1_method_31_code
def yX9_isRoom : MethodName := ⟨RX9, "isRoom", "(I)Z"⟩
abbrev cX9_twoRooms : ByteArray := prog_1_method_32_code
def yX9_twoRooms : MethodName := ⟨RX9, "twoRooms", "(II)Z"⟩
abbrev cX9_takenOf : ByteArray := prog_1_method_33_code
def yX9_takenOf : MethodName := ⟨RX9, "takenOf", "(III)I"⟩
def RX10 : String := "SpeakTubesModel"
def TX10 : u_T := fun k => match k with
  | _ => ("", "", "", false)
def tyX10 : Nat → FieldType := fun k => match k with
  | _ => .int
abbrev wsX100 : List Cond := u_ws RX10 TX10 0
theorem nmX10 : ∀ a, a < 0 → ∀ b, b < 0 → a ≠ b → (TX10 a).2.1 ≠ (TX10 b).2.1 := by decide +kernel
theorem tyX10_ok : ∀ k, k < 0 → parseFieldDescriptor (TX10 k).2.2.1 = some (tyX10 k) := by decide +kernel
def RJ6 : String := "java/lang/Integer"
def TJ6 : u_T := fun k => match k with
  | _ => ("", "", "", false)
def tyJ6 : Nat → FieldType := fun k => match k with
  | _ => .int
abbrev wsJ60 : List Cond := u_ws RJ6 TJ6 0
theorem nmJ6 : ∀ a, a < 0 → ∀ b, b < 0 → a ≠ b → (TJ6 a).2.1 ≠ (TJ6 b).2.1 := by decide +kernel
theorem tyJ6_ok : ∀ k, k < 0 → parseFieldDescriptor (TJ6 k).2.2.1 = some (tyJ6 k) := by decide +kernel
abbrev cJ6_bitCount_0f7a4 : ByteArray := prog_13_method_49_code
def yJ6_bitCount_0f7a4 : MethodName := ⟨RJ6, "bitCount", "(I)I"⟩
def RJ9 : String := "java/lang/Math"
def TJ9 : u_T := fun k => match k with
  | _ => ("", "", "", false)
def tyJ9 : Nat → FieldType := fun k => match k with
  | _ => .int
abbrev wsJ90 : List Cond := u_ws RJ9 TJ9 0
theorem nmJ9 : ∀ a, a < 0 → ∀ b, b < 0 → a ≠ b → (TJ9 a).2.1 ≠ (TJ9 b).2.1 := by decide +kernel
theorem tyJ9_ok : ∀ k, k < 0 → parseFieldDescriptor (TJ9 k).2.2.1 = some (tyJ9 k) := by decide +kernel
abbrev cJ9_max_7cf53 : ByteArray := prog_14_method_65_code
def yJ9_max_7cf53 : MethodName := ⟨RJ9, "max", "(II)I"⟩
abbrev cJ9_min_7cf53 : ByteArray := prog_14_method_69_code
def yJ9_min_7cf53 : MethodName := ⟨RJ9, "min", "(II)I"⟩
def RJ10 : String := "java/lang/System"
def TJ10 : u_T := fun k => match k with
  | _ => ("", "", "", false)
def tyJ10 : Nat → FieldType := fun k => match k with
  | _ => .int
abbrev wsJ100 : List Cond := u_ws RJ10 TJ10 0
theorem nmJ10 : ∀ a, a < 0 → ∀ b, b < 0 → a ≠ b → (TJ10 a).2.1 ≠ (TJ10 b).2.1 := by decide +kernel
theorem tyJ10_ok : ∀ k, k < 0 → parseFieldDescriptor (TJ10 k).2.2.1 = some (tyJ10 k) := by decide +kernel
def RJ7 : String := "java/util/Arrays"
def TJ7 : u_T := fun k => match k with
  | _ => ("", "", "", false)
def tyJ7 : Nat → FieldType := fun k => match k with
  | _ => .int
abbrev wsJ70 : List Cond := u_ws RJ7 TJ7 0
theorem nmJ7 : ∀ a, a < 0 → ∀ b, b < 0 → a ≠ b → (TJ7 a).2.1 ≠ (TJ7 b).2.1 := by decide +kernel
theorem tyJ7_ok : ∀ k, k < 0 → parseFieldDescriptor (TJ7 k).2.2.1 = some (tyJ7 k) := by decide +kernel
abbrev cJ7_fill_031fb : ByteArray := prog_16_method_109_code
def yJ7_fill_031fb : MethodName := ⟨RJ7, "fill", "([BB)V"⟩
def RL : String := "SpeakTubesLaw"
abbrev cL_cell : ByteArray := method_2_code
def yL_cell : MethodName := ⟨RL, "cell", "([III)I"⟩
abbrev cL_sign : ByteArray := method_3_code
def yL_sign : MethodName := ⟨RL, "sign", "(I)I"⟩
abbrev cL_house : ByteArray := method_4_code
def yL_house : MethodName := ⟨RL, "house", "(LSpeakTubes;[III[I)I"⟩
abbrev cL_leads : ByteArray := method_5_code
def yL_leads : MethodName := ⟨RL, "leads", "([III)I"⟩
abbrev cL_law : ByteArray := code
def yL_law : MethodName := ⟨RL, "law", "([I)Z"⟩
def R_law : String := "SpeakTubesLaw"
def lw_P (b : Addr) (xs : List Int32) (args : Array Value) (s : State) : Prop := args = #[.ref b] ∧ s.IntsAt b xs ∧ xs.length ≤ 260 ∧ (Jvm.Cond.and given_1 narrow_1).before args s = true
def lw_Q (_ : Array Value) (s : State) (o : Outcome) (t : State) : Prop := o = .returned (some (.int 1)) ∧ Framed s o t [] 600000 7302250
def lw_Z (below : List Frame) (a : Array Value) (s : State) : State → Prop := fun t => ∃ o, t.status = .running ∧ Ended t below o ∧ lw_Q a s o t
/-- the law's own end, with 1 on the stack, nothing written that was there before, its room as the claim has it -/
theorem lw_ret {p : Program} {l : Launch} {e : Env} {s : State} {m : MethodId} {below : List Frame} {meth : Method} {c : Code} {b : Nat} (hx : p.tables.exec = Jvm.exec) (hb : c.code = code) (hr : meth.sig.returnType = ret) (hlocks : meth.locks = false) {pc : Nat} {H : Heap} {ls : Array Slot} (hdg : decode code pc = .ok (.ireturn, 1)) : W p l e room_1 s m #[Value.ref b] below meth c H [] 600000 7302250 (lw_Z below #[Value.ref b] s) (F0 m pc ls [.int 1]) := by
  intro T hT X
  obtain ⟨fs, hret, hrun, hended, hW, hframe⟩ := X.leave (v := some (.int 1)) (hlocks := hlocks) (fun h => by rw [hr] at h; cases h)
  have hmeth' : T.vm.method? m = some meth := X.method'
  refine ⟨T.setFrames fs, ?_, .returned (some (.int 1)), hrun, hended, rfl, ⟨_, rfl⟩, hW, hframe⟩
  jvm_step X.here [X.here.top, hx, hb, hdg, hmeth', hr, ret, narrow_b1]
  (try refine ⟨rfl, ?_⟩); (try refine ⟨rfl, ?_⟩)
  first | (intro acts; rw [hret _ acts rfl rfl rfl]) | rw [hret _ _ rfl rfl rfl]
  exact Steps.refl _
/-- what holds at the law's entry: the machine, the code, the tables' words (any of lw_tbl by 'hts w (by decide +kernel)'), the script of L ints xs at the cell b, what the Statement gives of the start (any of its parts by flat_of_before) -/
def lw_At (p : Program) (s : State) (m : MethodId) (meth : Method) (c : Code) (b L : Nat) (xs : Nat → Int32) : Prop :=
  p.tables.exec = Jvm.exec ∧ c.code = code ∧ meth.sig.returnType = ret ∧ c.maxLocals = 21 ∧ s.vm.findClass R_law = some m.cls ∧ (∀ w ∈ lw_tbl, w.before #[Value.ref b] s = true) ∧ va_X b L xs s s.heap ∧ b < s.heap.size ∧ meth.locks = false ∧ (Jvm.Cond.and given_1 narrow_1).before #[Value.ref b] s = true
