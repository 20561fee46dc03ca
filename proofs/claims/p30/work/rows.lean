section
-- ===== PART A: goes FIRST, ahead of the names: the tables' words, and 'selects' of the private methods out of them =====
/-- a private method of a class that the tables say can be made, by its rows of tables_1 -/
def lw_okq (q : MethodName × Nat) : Prop := (q.1.cls ≠ "java/lang/invoke/MethodHandle" ∧ q.1.cls ≠ "java/lang/invoke/VarHandle") ∧ Cond.instantiable q.1.cls q.2 ∈ tables_1 ∧ Cond.privateMethod q.1 ∈ tables_1 ∧ Cond.instanceMethod q.1 ∈ tables_1
theorem lw_p0 : lw_okq (⟨"SpeakTubes$Route", "bringsNearer", "(LSpeakTubes$House;I)Z"⟩, 6) := ⟨⟨by decide +kernel, by decide +kernel⟩, List.mem_of_getElem? (i := 138) (by decide +kernel), List.mem_of_getElem? (i := 399) (by decide +kernel), List.mem_of_getElem? (i := 400) (by decide +kernel)⟩
theorem lw_p1 : lw_okq (⟨"SpeakTubes$Route", "nextTube", "(LSpeakTubes$House;II)I"⟩, 6) := ⟨⟨by decide +kernel, by decide +kernel⟩, List.mem_of_getElem? (i := 138) (by decide +kernel), List.mem_of_getElem? (i := 410) (by decide +kernel), List.mem_of_getElem? (i := 411) (by decide +kernel)⟩
theorem lw_p2 : lw_okq (⟨"SpeakTubes$Day", "endCalls", "()V"⟩, 13) := ⟨⟨by decide +kernel, by decide +kernel⟩, List.mem_of_getElem? (i := 174) (by decide +kernel), List.mem_of_getElem? (i := 471) (by decide +kernel), List.mem_of_getElem? (i := 472) (by decide +kernel)⟩
theorem lw_p3 : lw_okq (⟨"SpeakTubes$Day", "whyNot", "(IILSpeakTubes$Keeping;LSpeakTubes$Route;)I"⟩, 13) := ⟨⟨by decide +kernel, by decide +kernel⟩, List.mem_of_getElem? (i := 174) (by decide +kernel), List.mem_of_getElem? (i := 479) (by decide +kernel), List.mem_of_getElem? (i := 480) (by decide +kernel)⟩
theorem lw_p4 : lw_okq (⟨"SpeakTubes$Day", "beginCall", "(IIILSpeakTubes$Route;I)V"⟩, 13) := ⟨⟨by decide +kernel, by decide +kernel⟩, List.mem_of_getElem? (i := 174) (by decide +kernel), List.mem_of_getElem? (i := 492) (by decide +kernel), List.mem_of_getElem? (i := 493) (by decide +kernel)⟩
theorem lw_p5 : lw_okq (⟨"SpeakTubes$Day", "goingOn", "()I"⟩, 13) := ⟨⟨by decide +kernel, by decide +kernel⟩, List.mem_of_getElem? (i := 174) (by decide +kernel), List.mem_of_getElem? (i := 499) (by decide +kernel), List.mem_of_getElem? (i := 500) (by decide +kernel)⟩
theorem lw_p6 : lw_okq (⟨"SpeakTubes$Orders", "orderEnd", "(Z)I"⟩, 11) := ⟨⟨by decide +kernel, by decide +kernel⟩, List.mem_of_getElem? (i := 226) (by decide +kernel), List.mem_of_getElem? (i := 541) (by decide +kernel), List.mem_of_getElem? (i := 542) (by decide +kernel)⟩
theorem lw_p7 : lw_okq (⟨"SpeakTubes$Orders", "busyMinutes", "(I)J"⟩, 11) := ⟨⟨by decide +kernel, by decide +kernel⟩, List.mem_of_getElem? (i := 226) (by decide +kernel), List.mem_of_getElem? (i := 545) (by decide +kernel), List.mem_of_getElem? (i := 546) (by decide +kernel)⟩
theorem lw_p8 : lw_okq (⟨"SpeakTubes$Orders", "minutesOf", "(II)J"⟩, 11) := ⟨⟨by decide +kernel, by decide +kernel⟩, List.mem_of_getElem? (i := 226) (by decide +kernel), List.mem_of_getElem? (i := 549) (by decide +kernel), List.mem_of_getElem? (i := 550) (by decide +kernel)⟩
theorem lw_p9 : lw_okq (⟨"SpeakTubes$Orders", "nextOrder", "()Z"⟩, 11) := ⟨⟨by decide +kernel, by decide +kernel⟩, List.mem_of_getElem? (i := 226) (by decide +kernel), List.mem_of_getElem? (i := 561) (by decide +kernel), List.mem_of_getElem? (i := 562) (by decide +kernel)⟩
theorem lw_p10 : lw_okq (⟨"SpeakTubes$Orders", "swap", "(II)V"⟩, 11) := ⟨⟨by decide +kernel, by decide +kernel⟩, List.mem_of_getElem? (i := 226) (by decide +kernel), List.mem_of_getElem? (i := 565) (by decide +kernel), List.mem_of_getElem? (i := 566) (by decide +kernel)⟩
theorem lw_p11 : lw_okq (⟨"SpeakTubes$Servants", "takeAsTheyCome", "(ILSpeakTubes$Route;)V"⟩, 3) := ⟨⟨by decide +kernel, by decide +kernel⟩, List.mem_of_getElem? (i := 269) (by decide +kernel), List.mem_of_getElem? (i := 587) (by decide +kernel), List.mem_of_getElem? (i := 588) (by decide +kernel)⟩
theorem lw_p12 : lw_okq (⟨"SpeakTubes$Servants", "takeByNumbers", "(ILSpeakTubes$Route;)V"⟩, 3) := ⟨⟨by decide +kernel, by decide +kernel⟩, List.mem_of_getElem? (i := 269) (by decide +kernel), List.mem_of_getElem? (i := 592) (by decide +kernel), List.mem_of_getElem? (i := 593) (by decide +kernel)⟩
theorem lw_p13 : lw_okq (⟨"SpeakTubes$Stretches", "gatherParts", "(I)V"⟩, 5) := ⟨⟨by decide +kernel, by decide +kernel⟩, List.mem_of_getElem? (i := 287) (by decide +kernel), List.mem_of_getElem? (i := 638) (by decide +kernel), List.mem_of_getElem? (i := 639) (by decide +kernel)⟩
theorem lw_p14 : lw_okq (⟨"SpeakTubes$Stretches", "hasPart", "(II)Z"⟩, 5) := ⟨⟨by decide +kernel, by decide +kernel⟩, List.mem_of_getElem? (i := 287) (by decide +kernel), List.mem_of_getElem? (i := 642) (by decide +kernel), List.mem_of_getElem? (i := 643) (by decide +kernel)⟩
theorem lw_p15 : lw_okq (⟨"SpeakTubes$Stretches", "allCanBeParted", "(I)Z"⟩, 5) := ⟨⟨by decide +kernel, by decide +kernel⟩, List.mem_of_getElem? (i := 287) (by decide +kernel), List.mem_of_getElem? (i := 646) (by decide +kernel), List.mem_of_getElem? (i := 647) (by decide +kernel)⟩
def lw_privs_1 : List (MethodName × Nat) := [(⟨"SpeakTubes$Route", "bringsNearer", "(LSpeakTubes$House;I)Z"⟩, 6), (⟨"SpeakTubes$Route", "nextTube", "(LSpeakTubes$House;II)I"⟩, 6), (⟨"SpeakTubes$Day", "endCalls", "()V"⟩, 13), (⟨"SpeakTubes$Day", "whyNot", "(IILSpeakTubes$Keeping;LSpeakTubes$Route;)I"⟩, 13), (⟨"SpeakTubes$Day", "beginCall", "(IIILSpeakTubes$Route;I)V"⟩, 13), (⟨"SpeakTubes$Day", "goingOn", "()I"⟩, 13), (⟨"SpeakTubes$Orders", "orderEnd", "(Z)I"⟩, 11), (⟨"SpeakTubes$Orders", "busyMinutes", "(I)J"⟩, 11), (⟨"SpeakTubes$Orders", "minutesOf", "(II)J"⟩, 11), (⟨"SpeakTubes$Orders", "nextOrder", "()Z"⟩, 11), (⟨"SpeakTubes$Orders", "swap", "(II)V"⟩, 11), (⟨"SpeakTubes$Servants", "takeAsTheyCome", "(ILSpeakTubes$Route;)V"⟩, 3), (⟨"SpeakTubes$Servants", "takeByNumbers", "(ILSpeakTubes$Route;)V"⟩, 3), (⟨"SpeakTubes$Stretches", "gatherParts", "(I)V"⟩, 5), (⟨"SpeakTubes$Stretches", "hasPart", "(II)Z"⟩, 5), (⟨"SpeakTubes$Stretches", "allCanBeParted", "(I)Z"⟩, 5)]
theorem lw_r1 : ∀ q ∈ lw_privs_1, lw_okq q := List.forall_mem_cons.mpr ⟨lw_p0, List.forall_mem_cons.mpr ⟨lw_p1, List.forall_mem_cons.mpr ⟨lw_p2, List.forall_mem_cons.mpr ⟨lw_p3, List.forall_mem_cons.mpr ⟨lw_p4, List.forall_mem_cons.mpr ⟨lw_p5, List.forall_mem_cons.mpr ⟨lw_p6, List.forall_mem_cons.mpr ⟨lw_p7, List.forall_mem_cons.mpr ⟨lw_p8, List.forall_mem_cons.mpr ⟨lw_p9, List.forall_mem_cons.mpr ⟨lw_p10, List.forall_mem_cons.mpr ⟨lw_p11, List.forall_mem_cons.mpr ⟨lw_p12, List.forall_mem_cons.mpr ⟨lw_p13, List.forall_mem_cons.mpr ⟨lw_p14, List.forall_mem_cons.mpr ⟨lw_p15, fun _ h => absurd h List.not_mem_nil⟩⟩⟩⟩⟩⟩⟩⟩⟩⟩⟩⟩⟩⟩⟩⟩
theorem lw_p16 : lw_okq (⟨"SpeakTubes$Stretches", "layBounds", "(I)V"⟩, 5) := ⟨⟨by decide +kernel, by decide +kernel⟩, List.mem_of_getElem? (i := 287) (by decide +kernel), List.mem_of_getElem? (i := 650) (by decide +kernel), List.mem_of_getElem? (i := 651) (by decide +kernel)⟩
theorem lw_p17 : lw_okq (⟨"SpeakTubes$Distances", "layTube", "(LSpeakTubes$House;I)V"⟩, 1) := ⟨⟨by decide +kernel, by decide +kernel⟩, List.mem_of_getElem? (i := 310) (by decide +kernel), List.mem_of_getElem? (i := 675) (by decide +kernel), List.mem_of_getElem? (i := 676) (by decide +kernel)⟩
theorem lw_p18 : lw_okq (⟨"SpeakTubes$Distances", "goBy", "(I)V"⟩, 1) := ⟨⟨by decide +kernel, by decide +kernel⟩, List.mem_of_getElem? (i := 310) (by decide +kernel), List.mem_of_getElem? (i := 680) (by decide +kernel), List.mem_of_getElem? (i := 681) (by decide +kernel)⟩
def lw_privs_2 : List (MethodName × Nat) := [(⟨"SpeakTubes$Stretches", "layBounds", "(I)V"⟩, 5), (⟨"SpeakTubes$Distances", "layTube", "(LSpeakTubes$House;I)V"⟩, 1), (⟨"SpeakTubes$Distances", "goBy", "(I)V"⟩, 1)]
theorem lw_r2 : ∀ q ∈ lw_privs_2, lw_okq q := List.forall_mem_cons.mpr ⟨lw_p16, List.forall_mem_cons.mpr ⟨lw_p17, List.forall_mem_cons.mpr ⟨lw_p18, fun _ h => absurd h List.not_mem_nil⟩⟩⟩
def lw_privs : List (MethodName × Nat) := lw_privs_1 ++ (lw_privs_2)
def lw_tbl : List Cond := k2_sels lw_privs ++ tables_1
theorem lw_privs_ok : ∀ q ∈ lw_privs, lw_okq q := by
  show ∀ q ∈ lw_privs_1 ++ (lw_privs_2), lw_okq q
  exact List.forall_mem_append.mpr ⟨lw_r1, lw_r2⟩
/-! ===== BEGIN printed: names, fields, word lists, decode rows ===== -/
def RX0 : String := "SpeakTubes$Day"
def TX0 : u_T := fun k => match k with
  | 0 => ("SpeakTubes$Day", "rooms", "[I", true)
  | 1 => ("SpeakTubes$Day", "over", "[I", true)
  | 2 => ("SpeakTubes$Day", "tubes", "[I", true)
  | 3 => ("SpeakTubes$Day", "hearers", "[I", true)
  | 4 => ("SpeakTubes$Day", "brings", "[I", true)
  | 5 => ("SpeakTubes$Day", "ended", "[Z", true)
  | 6 => ("SpeakTubes$Day", "known", "[I", true)
  | 7 => ("SpeakTubes$Day", "begun", "I", false)
  | 8 => ("SpeakTubes$Day", "minute", "I", false)
  | 9 => ("SpeakTubes$Day", "last", "I", false)
  | 10 => ("SpeakTubes$Day", "most", "I", false)
  | 11 => ("SpeakTubes$Day", "used", "I", false)
  | _ => ("SpeakTubes$Day", "why", "I", false)
def tyX0 : Nat → FieldType := fun k => match k with
  | 0 => .array .int
  | 1 => .array .int
  | 2 => .array .int
  | 3 => .array .int
  | 4 => .array .int
  | 5 => .array .boolean
  | 6 => .array .int
  | 7 => .int
  | 8 => .int
  | 9 => .int
  | 10 => .int
  | 11 => .int
  | _ => .int
abbrev wsX00 : List Cond := u_ws RX0 TX0 13
theorem nmX0 : ∀ a, a < 13 → ∀ b, b < 13 → a ≠ b → (TX0 a).2.1 ≠ (TX0 b).2.1 := by decide +kernel
theorem tyX0_ok : ∀ k, k < 13 → parseFieldDescriptor (TX0 k).2.2.1 = some (tyX0 k) := by decide +kernel
abbrev cX0_init : ByteArray := prog_2_method_1_code
def yX0_init : MethodName := ⟨RX0, "<init>", "()V"⟩
abbrev cX0_run : ByteArray := prog_2_method_2_code
def yX0_run : MethodName := ⟨RX0, "run", "(LSpeakTubes$Pad;LSpeakTubes$Keeping;LSpeakTubes$Route;I)V"⟩
abbrev cX0_beginCall : ByteArray := prog_2_method_3_code
def yX0_beginCall : MethodName := ⟨RX0, "beginCall", "(IIILSpeakTubes$Route;I)V"⟩
abbrev cX0_whyNot : ByteArray := prog_2_method_4_code
def yX0_whyNot : MethodName := ⟨RX0, "whyNot", "(IILSpeakTubes$Keeping;LSpeakTubes$Route;)I"⟩
abbrev cX0_goingOn : ByteArray := prog_2_method_5_code
def yX0_goingOn : MethodName := ⟨RX0, "goingOn", "()I"⟩
abbrev cX0_endCalls : ByteArray := prog_2_method_6_code
def yX0_endCalls : MethodName := ⟨RX0, "endCalls", "()V"⟩
def RX1 : String := "SpeakTubes$Distances"
def TX1 : u_T := fun k => match k with
  | _ => ("SpeakTubes$Distances", "lengths", "[I", true)
def tyX1 : Nat → FieldType := fun k => match k with
  | _ => .array .int
abbrev wsX10 : List Cond := u_ws RX1 TX1 1
theorem nmX1 : ∀ a, a < 1 → ∀ b, b < 1 → a ≠ b → (TX1 a).2.1 ≠ (TX1 b).2.1 := by decide +kernel
theorem tyX1_ok : ∀ k, k < 1 → parseFieldDescriptor (TX1 k).2.2.1 = some (tyX1 k) := by decide +kernel
abbrev cX1_init : ByteArray := prog_3_method_1_code
def yX1_init : MethodName := ⟨RX1, "<init>", "()V"⟩
abbrev cX1_measure : ByteArray := prog_3_method_2_code
def yX1_measure : MethodName := ⟨RX1, "measure", "(LSpeakTubes$Keeping;I)V"⟩
abbrev cX1_layTube : ByteArray := prog_3_method_3_code
def yX1_layTube : MethodName := ⟨RX1, "layTube", "(LSpeakTubes$House;I)V"⟩
abbrev cX1_goBy : ByteArray := prog_3_method_4_code
def yX1_goBy : MethodName := ⟨RX1, "goBy", "(I)V"⟩
abbrev cX1_carried : ByteArray := prog_3_method_5_code
def yX1_carried : MethodName := ⟨RX1, "carried", "(II)I"⟩
abbrev cX1_sum : ByteArray := prog_3_method_6_code
def yX1_sum : MethodName := ⟨RX1, "sum", "()I"⟩
abbrev cX1_sumWith : ByteArray := prog_3_method_7_code
def yX1_sumWith : MethodName := ⟨RX1, "sumWith", "(IIII)I"⟩
abbrev cX1_lacksOneOf : ByteArray := prog_3_method_8_code
def yX1_lacksOneOf : MethodName := ⟨RX1, "lacksOneOf", "(LSpeakTubes$Distances;)Z"⟩
def RX2 : String := "SpeakTubes$House"
def TX2 : u_T := fun k => match k with
  | 0 => ("SpeakTubes$House", "first", "[I", true)
  | 1 => ("SpeakTubes$House", "other", "[I", true)
  | 2 => ("SpeakTubes$House", "kind", "[I", true)
  | 3 => ("SpeakTubes$House", "length", "[I", true)
  | _ => ("SpeakTubes$House", "count", "I", false)
def tyX2 : Nat → FieldType := fun k => match k with
  | 0 => .array .int
  | 1 => .array .int
  | 2 => .array .int
  | 3 => .array .int
  | _ => .int
abbrev wsX20 : List Cond := u_ws RX2 TX2 5
theorem nmX2 : ∀ a, a < 5 → ∀ b, b < 5 → a ≠ b → (TX2 a).2.1 ≠ (TX2 b).2.1 := by decide +kernel
theorem tyX2_ok : ∀ k, k < 5 → parseFieldDescriptor (TX2 k).2.2.1 = some (tyX2 k) := by decide +kernel
abbrev cX2_init : ByteArray := prog_4_method_1_code
def yX2_init : MethodName := ⟨RX2, "<init>", "()V"⟩
abbrev cX2_read : ByteArray := prog_4_method_2_code
def yX2_read : MethodName := ⟨RX2, "read", "(LSpeakTubes$Pad;)V"⟩
abbrev cX2_beyond : ByteArray := prog_4_method_4_code
def yX2_beyond : MethodName := ⟨RX2, "beyond", "(II)I"⟩
abbrev cX2_ofKind : ByteArray := prog_4_method_5_code
def yX2_ofKind : MethodName := ⟨RX2, "ofKind", "(I)I"⟩
def RX3 : String := "SpeakTubes$Keeping"
def TX3 : u_T := fun k => match k with
  | 0 => ("SpeakTubes$Keeping", "house", "LSpeakTubes$House;", true)
  | 1 => ("SpeakTubes$Keeping", "carries", "I", false)
  | 2 => ("SpeakTubes$Keeping", "stoppers", "I", false)
  | 3 => ("SpeakTubes$Keeping", "matters", "[I", true)
  | 4 => ("SpeakTubes$Keeping", "from", "[I", true)
  | 5 => ("SpeakTubes$Keeping", "to", "[I", true)
  | 6 => ("SpeakTubes$Keeping", "minutes", "[I", true)
  | 7 => ("SpeakTubes$Keeping", "due", "[I", true)
  | 8 => ("SpeakTubes$Keeping", "waiting", "I", false)
  | 9 => ("SpeakTubes$Keeping", "tries", "I", false)
  | _ => ("SpeakTubes$Keeping", "canBe", "I", false)
def tyX3 : Nat → FieldType := fun k => match k with
  | 0 => .object "SpeakTubes$House"
  | 1 => .int
  | 2 => .int
  | 3 => .array .int
  | 4 => .array .int
  | 5 => .array .int
  | 6 => .array .int
  | 7 => .array .int
  | 8 => .int
  | 9 => .int
  | _ => .int
abbrev wsX30 : List Cond := u_ws RX3 TX3 11
theorem nmX3 : ∀ a, a < 11 → ∀ b, b < 11 → a ≠ b → (TX3 a).2.1 ≠ (TX3 b).2.1 := by decide +kernel
theorem tyX3_ok : ∀ k, k < 11 → parseFieldDescriptor (TX3 k).2.2.1 = some (tyX3 k) := by decide +kernel
abbrev cX3_init : ByteArray := prog_5_method_1_code
def yX3_init : MethodName := ⟨RX3, "<init>", "()V"⟩
abbrev cX3_beginTries : ByteArray := prog_5_method_3_code
def yX3_beginTries : MethodName := ⟨RX3, "beginTries", "()V"⟩
abbrev cX3_addWaiting : ByteArray := prog_5_method_4_code
def yX3_addWaiting : MethodName := ⟨RX3, "addWaiting", "(IIII)Z"⟩
def RX4 : String := "SpeakTubes$Orders"
def TX4 : u_T := fun k => match k with
  | 0 => ("SpeakTubes$Orders", "rooms", "[I", true)
  | 1 => ("SpeakTubes$Orders", "tubes", "[I", true)
  | 2 => ("SpeakTubes$Orders", "minutes", "[I", true)
  | 3 => ("SpeakTubes$Orders", "due", "[I", true)
  | 4 => ("SpeakTubes$Orders", "order", "[I", true)
  | 5 => ("SpeakTubes$Orders", "best", "[I", true)
  | 6 => ("SpeakTubes$Orders", "spans", "[J", true)
  | 7 => ("SpeakTubes$Orders", "count", "I", false)
  | 8 => ("SpeakTubes$Orders", "doubles", "I", false)
  | 9 => ("SpeakTubes$Orders", "minute", "I", false)
  | _ => ("SpeakTubes$Orders", "found", "Z", false)
def tyX4 : Nat → FieldType := fun k => match k with
  | 0 => .array .int
  | 1 => .array .int
  | 2 => .array .int
  | 3 => .array .int
  | 4 => .array .int
  | 5 => .array .int
  | 6 => .array .long
  | 7 => .int
  | 8 => .int
  | 9 => .int
  | _ => .boolean
abbrev wsX40 : List Cond := u_ws RX4 TX4 11
theorem nmX4 : ∀ a, a < 11 → ∀ b, b < 11 → a ≠ b → (TX4 a).2.1 ≠ (TX4 b).2.1 := by decide +kernel
theorem tyX4_ok : ∀ k, k < 11 → parseFieldDescriptor (TX4 k).2.2.1 = some (tyX4 k) := by decide +kernel
abbrev cX4_init : ByteArray := prog_6_method_1_code
def yX4_init : MethodName := ⟨RX4, "<init>", "()V"⟩
abbrev cX4_gather : ByteArray := prog_6_method_2_code
def yX4_gather : MethodName := ⟨RX4, "gather", "(LSpeakTubes$Keeping;LSpeakTubes$Route;)Z"⟩
abbrev cX4_seek : ByteArray := prog_6_method_3_code
def yX4_seek : MethodName := ⟨RX4, "seek", "(Z)V"⟩
abbrev cX4_callAt : ByteArray := prog_6_method_4_code
def yX4_callAt : MethodName := ⟨RX4, "callAt", "(I)I"⟩
abbrev cX4_orderEnd : ByteArray := prog_6_method_5_code
def yX4_orderEnd : MethodName := ⟨RX4, "orderEnd", "(Z)I"⟩
abbrev cX4_span : ByteArray := prog_6_method_6_code
def yX4_span : MethodName := ⟨RX4, "span", "(II)J"⟩
abbrev cX4_firstFree : ByteArray := prog_6_method_7_code
def yX4_firstFree : MethodName := ⟨RX4, "firstFree", "(JI)I"⟩
abbrev cX4_busyMinutes : ByteArray := prog_6_method_8_code
def yX4_busyMinutes : MethodName := ⟨RX4, "busyMinutes", "(I)J"⟩
abbrev cX4_minutesOf : ByteArray := prog_6_method_9_code
def yX4_minutesOf : MethodName := ⟨RX4, "minutesOf", "(II)J"⟩
abbrev cX4_nextOrder : ByteArray := prog_6_method_10_code
def yX4_nextOrder : MethodName := ⟨RX4, "nextOrder", "()Z"⟩
abbrev cX4_swap : ByteArray := prog_6_method_11_code
def yX4_swap : MethodName := ⟨RX4, "swap", "(II)V"⟩
def RX5 : String := "SpeakTubes$Pad"
def TX5 : u_T := fun k => match k with
  | 0 => ("SpeakTubes$Pad", "signs", "[I", true)
  | _ => ("SpeakTubes$Pad", "count", "I", false)
def tyX5 : Nat → FieldType := fun k => match k with
  | 0 => .array .int
  | _ => .int
abbrev wsX50 : List Cond := u_ws RX5 TX5 2
theorem nmX5 : ∀ a, a < 2 → ∀ b, b < 2 → a ≠ b → (TX5 a).2.1 ≠ (TX5 b).2.1 := by decide +kernel
theorem tyX5_ok : ∀ k, k < 2 → parseFieldDescriptor (TX5 k).2.2.1 = some (tyX5 k) := by decide +kernel
abbrev cX5_init : ByteArray := prog_7_method_1_code
def yX5_init : MethodName := ⟨RX5, "<init>", "()V"⟩
abbrev cX5_add : ByteArray := prog_7_method_2_code
def yX5_add : MethodName := ⟨RX5, "add", "(I)Z"⟩
abbrev cX5_empty : ByteArray := prog_7_method_3_code
def yX5_empty : MethodName := ⟨RX5, "empty", "()I"⟩
abbrev cX5_signAt : ByteArray := prog_7_method_4_code
def yX5_signAt : MethodName := ⟨RX5, "signAt", "(I)I"⟩
abbrev cX5_roomAt : ByteArray := prog_7_method_5_code
def yX5_roomAt : MethodName := ⟨RX5, "roomAt", "(I)Z"⟩
abbrev cX5_otherRoomAt : ByteArray := prog_7_method_6_code
def yX5_otherRoomAt : MethodName := ⟨RX5, "otherRoomAt", "(II)Z"⟩
abbrev cX5_digitAt : ByteArray := prog_7_method_7_code
def yX5_digitAt : MethodName := ⟨RX5, "digitAt", "(I)Z"⟩
abbrev cX5_kindAt : ByteArray := prog_7_method_8_code
def yX5_kindAt : MethodName := ⟨RX5, "kindAt", "(I)Z"⟩
abbrev cX5_roomOf : ByteArray := prog_7_method_9_code
def yX5_roomOf : MethodName := ⟨RX5, "roomOf", "(I)I"⟩
abbrev cX5_numberOf : ByteArray := prog_7_method_10_code
def yX5_numberOf : MethodName := ⟨RX5, "numberOf", "(I)I"⟩
abbrev cX5_houseFault : ByteArray := prog_7_method_11_code
def yX5_houseFault : MethodName := ⟨RX5, "houseFault", "()I"⟩
abbrev cX5_dayFault : ByteArray := prog_7_method_12_code
def yX5_dayFault : MethodName := ⟨RX5, "dayFault", "()I"⟩
def RX6 : String := "SpeakTubes$Route"
def TX6 : u_T := fun k => match k with
  | 0 => ("SpeakTubes$Route", "cost", "[I", true)
  | 1 => ("SpeakTubes$Route", "tubes", "[I", true)
  | 2 => ("SpeakTubes$Route", "rooms", "[I", true)
  | 3 => ("SpeakTubes$Route", "count", "I", false)
  | 4 => ("SpeakTubes$Route", "length", "I", false)
  | _ => ("SpeakTubes$Route", "mask", "I", false)
def tyX6 : Nat → FieldType := fun k => match k with
  | 0 => .array .int
  | 1 => .array .int
  | 2 => .array .int
  | 3 => .int
  | 4 => .int
  | _ => .int
abbrev wsX60 : List Cond := u_ws RX6 TX6 6
theorem nmX6 : ∀ a, a < 6 → ∀ b, b < 6 → a ≠ b → (TX6 a).2.1 ≠ (TX6 b).2.1 := by decide +kernel
theorem tyX6_ok : ∀ k, k < 6 → parseFieldDescriptor (TX6 k).2.2.1 = some (tyX6 k) := by decide +kernel
abbrev cX6_init : ByteArray := prog_8_method_1_code
def yX6_init : MethodName := ⟨RX6, "<init>", "()V"⟩
abbrev cX6_find : ByteArray := prog_8_method_2_code
def yX6_find : MethodName := ⟨RX6, "find", "(LSpeakTubes$Keeping;III)Z"⟩
abbrev cX6_aim : ByteArray := prog_8_method_3_code
def yX6_aim : MethodName := ⟨RX6, "aim", "(LSpeakTubes$House;II)V"⟩
abbrev cX6_bringsNearer : ByteArray := prog_8_method_4_code
def yX6_bringsNearer : MethodName := ⟨RX6, "bringsNearer", "(LSpeakTubes$House;I)Z"⟩
abbrev cX6_stepOf : ByteArray := prog_8_method_5_code
def yX6_stepOf : MethodName := ⟨RX6, "stepOf", "(LSpeakTubes$House;I)I"⟩
abbrev cX6_walk : ByteArray := prog_8_method_6_code
def yX6_walk : MethodName := ⟨RX6, "walk", "(LSpeakTubes$Keeping;III)Z"⟩
abbrev cX6_nextTube : ByteArray := prog_8_method_7_code
def yX6_nextTube : MethodName := ⟨RX6, "nextTube", "(LSpeakTubes$House;II)I"⟩
abbrev cX6_loudness : ByteArray := prog_8_method_8_code
def yX6_loudness : MethodName := ⟨RX6, "loudness", "(LSpeakTubes$Keeping;I)I"⟩
abbrev cX6_hearers : ByteArray := prog_8_method_9_code
def yX6_hearers : MethodName := ⟨RX6, "hearers", "(LSpeakTubes$House;I)I"⟩
def RX7 : String := "SpeakTubes$Servants"
def TX7 : u_T := fun k => match k with
  | 0 => ("SpeakTubes$Servants", "takes", "[[I", true)
  | 1 => ("SpeakTubes$Servants", "counts", "[I", true)
  | _ => ("SpeakTubes$Servants", "doubles", "I", false)
def tyX7 : Nat → FieldType := fun k => match k with
  | 0 => .array (.array .int)
  | 1 => .array .int
  | _ => .int
abbrev wsX70 : List Cond := u_ws RX7 TX7 3
theorem nmX7 : ∀ a, a < 3 → ∀ b, b < 3 → a ≠ b → (TX7 a).2.1 ≠ (TX7 b).2.1 := by decide +kernel
theorem tyX7_ok : ∀ k, k < 3 → parseFieldDescriptor (TX7 k).2.2.1 = some (tyX7 k) := by decide +kernel
abbrev cX7_init : ByteArray := prog_9_method_1_code
def yX7_init : MethodName := ⟨RX7, "<init>", "()V"⟩
abbrev cX7_gather : ByteArray := prog_9_method_2_code
def yX7_gather : MethodName := ⟨RX7, "gather", "(LSpeakTubes$Keeping;LSpeakTubes$Route;II)Z"⟩
abbrev cX7_takeAsTheyCome : ByteArray := prog_9_method_3_code
def yX7_takeAsTheyCome : MethodName := ⟨RX7, "takeAsTheyCome", "(ILSpeakTubes$Route;)V"⟩
abbrev cX7_takeByNumbers : ByteArray := prog_9_method_4_code
def yX7_takeByNumbers : MethodName := ⟨RX7, "takeByNumbers", "(ILSpeakTubes$Route;)V"⟩
abbrev cX7_leastLocked : ByteArray := prog_9_method_5_code
def yX7_leastLocked : MethodName := ⟨RX7, "leastLocked", "()I"⟩
abbrev cX7_leastFrom : ByteArray := prog_9_method_6_code
def yX7_leastFrom : MethodName := ⟨RX7, "leastFrom", "(LSpeakTubes$Servants;IIIII)I"⟩
def RX8 : String := "SpeakTubes$Stretches"
def TX8 : u_T := fun k => match k with
  | 0 => ("SpeakTubes$Stretches", "ways", "[I", true)
  | 1 => ("SpeakTubes$Stretches", "parts", "[I", true)
  | 2 => ("SpeakTubes$Stretches", "count", "I", false)
  | 3 => ("SpeakTubes$Stretches", "bounds", "[I", true)
  | _ => ("SpeakTubes$Stretches", "fewest", "[B", true)
def tyX8 : Nat → FieldType := fun k => match k with
  | 0 => .array .int
  | 1 => .array .int
  | 2 => .int
  | 3 => .array .int
  | _ => .array .byte
abbrev wsX80 : List Cond := u_ws RX8 TX8 5
theorem nmX8 : ∀ a, a < 5 → ∀ b, b < 5 → a ≠ b → (TX8 a).2.1 ≠ (TX8 b).2.1 := by decide +kernel
theorem tyX8_ok : ∀ k, k < 5 → parseFieldDescriptor (TX8 k).2.2.1 = some (tyX8 k) := by decide +kernel
abbrev cX8_init : ByteArray := prog_10_method_1_code
def yX8_init : MethodName := ⟨RX8, "<init>", "()V"⟩
abbrev cX8_gather : ByteArray := prog_10_method_2_code
def yX8_gather : MethodName := ⟨RX8, "gather", "(LSpeakTubes$Keeping;LSpeakTubes$Route;)V"⟩
abbrev cX8_nextTry : ByteArray := prog_10_method_3_code
def yX8_nextTry : MethodName := ⟨RX8, "nextTry", "(I)I"⟩
abbrev cX8_largerPart : ByteArray := prog_10_method_4_code
def yX8_largerPart : MethodName := ⟨RX8, "largerPart", "(II)I"⟩
abbrev cX8_fewestTries : ByteArray := prog_10_method_5_code
def yX8_fewestTries : MethodName := ⟨RX8, "fewestTries", "(I)I"⟩
abbrev cX8_gatherParts : ByteArray := prog_10_method_6_code
def yX8_gatherParts : MethodName := ⟨RX8, "gatherParts", "(I)V"⟩
abbrev cX8_hasPart : ByteArray := prog_10_method_7_code
def yX8_hasPart : MethodName := ⟨RX8, "hasPart", "(II)Z"⟩
abbrev cX8_allCanBeParted : ByteArray := prog_10_method_8_code
def yX8_allCanBeParted : MethodName := ⟨RX8, "allCanBeParted", "(I)Z"⟩
abbrev cX8_layBounds : ByteArray := prog_10_method_9_code
def yX8_layBounds : MethodName := ⟨RX8, "layBounds", "(I)V"⟩
abbrev cX8_fewestOf : ByteArray := prog_10_method_10_code
def yX8_fewestOf : MethodName := ⟨RX8, "fewestOf", "(LSpeakTubes$Stretches;II)I"⟩
def RX9 : String := "SpeakTubes"
def TX9 : u_T := fun k => match k with
  | 0 => ("SpeakTubes", "pad", "LSpeakTubes$Pad;", true)
  | 1 => ("SpeakTubes", "now", "LSpeakTubes$Keeping;", true)
  | 2 => ("SpeakTubes", "image0", "LSpeakTubes$Keeping;", true)
  | 3 => ("SpeakTubes", "image1", "LSpeakTubes$Keeping;", true)
  | 4 => ("SpeakTubes", "kept", "[Z", true)
  | 5 => ("SpeakTubes", "route", "LSpeakTubes$Route;", true)
  | 6 => ("SpeakTubes", "today", "LSpeakTubes$Day;", true)
  | 7 => ("SpeakTubes", "orders", "LSpeakTubes$Orders;", true)
  | 8 => ("SpeakTubes", "servants", "LSpeakTubes$Servants;", true)
  | 9 => ("SpeakTubes", "stretches", "LSpeakTubes$Stretches;", true)
  | 10 => ("SpeakTubes", "distances", "LSpeakTubes$Distances;", true)
  | _ => ("SpeakTubes", "others", "LSpeakTubes$Distances;", true)
def tyX9 : Nat → FieldType := fun k => match k with
  | 0 => .object "SpeakTubes$Pad"
  | 1 => .object "SpeakTubes$Keeping"
  | 2 => .object "SpeakTubes$Keeping"
  | 3 => .object "SpeakTubes$Keeping"
  | 4 => .array .boolean
  | 5 => .object "SpeakTubes$Route"
  | 6 => .object "SpeakTubes$Day"
  | 7 => .object "SpeakTubes$Orders"
  | 8 => .object "SpeakTubes$Servants"
  | 9 => .object "SpeakTubes$Stretches"
  | 10 => .object "SpeakTubes$Distances"
  | _ => .object "SpeakTubes$Distances"
abbrev wsX90 : List Cond := u_ws RX9 TX9 12
theorem nmX9 : ∀ a, a < 12 → ∀ b, b < 12 → a ≠ b → (TX9 a).2.1 ≠ (TX9 b).2.1 := by decide +kernel
theorem tyX9_ok : ∀ k, k < 12 → parseFieldDescriptor (TX9 k).2.2.1 = some (tyX9 k) := by decide +kernel
abbrev cX9_init : ByteArray := prog_1_method_1_code
def yX9_init : MethodName := ⟨RX9, "<init>", "()V"⟩
abbrev cX9_say : ByteArray := prog_1_method_2_code
def yX9_say : MethodName := ⟨RX9, "say", "(I)I"⟩
abbrev cX9_wipe : ByteArray := prog_1_method_3_code
def yX9_wipe : MethodName := ⟨RX9, "wipe", "()I"⟩
abbrev cX9_fault : ByteArray := prog_1_method_4_code
def yX9_fault : MethodName := ⟨RX9, "fault", "(I)I"⟩
abbrev cX9_house : ByteArray := prog_1_method_5_code
def yX9_house : MethodName := ⟨RX9, "house", "()I"⟩
abbrev cX9_set : ByteArray := prog_1_method_7_code
def yX9_set : MethodName := ⟨RX9, "set", "(II)I"⟩
abbrev cX9_way : ByteArray := prog_1_method_8_code
def yX9_way : MethodName := ⟨RX9, "way", "(III)I"⟩
abbrev cX9_loud : ByteArray := prog_1_method_9_code
def yX9_loud : MethodName := ⟨RX9, "loud", "(III)I"⟩
abbrev cX9_heard : ByteArray := prog_1_method_10_code
def yX9_heard : MethodName := ⟨RX9, "heard", "(II)I"⟩
abbrev cX9_judge : ByteArray := prog_1_method_11_code
def yX9_judge : MethodName := ⟨RX9, "judge", "(I)I"⟩
abbrev cX9_day : ByteArray := prog_1_method_12_code
def yX9_day : MethodName := ⟨RX9, "day", "(I)I"⟩
abbrev cX9_know : ByteArray := prog_1_method_13_code
def yX9_know : MethodName := ⟨RX9, "know", "(II)I"⟩
abbrev cX9_knows : ByteArray := prog_1_method_14_code
def yX9_knows : MethodName := ⟨RX9, "knows", "(II)I"⟩
abbrev cX9_call : ByteArray := prog_1_method_15_code
def yX9_call : MethodName := ⟨RX9, "call", "(IIII)I"⟩
abbrev cX9_clear : ByteArray := prog_1_method_16_code
def yX9_clear : MethodName := ⟨RX9, "clear", "()I"⟩
abbrev cX9_soonest : ByteArray := prog_1_method_17_code
def yX9_soonest : MethodName := ⟨RX9, "soonest", "(I)I"⟩
abbrev cX9_byDue : ByteArray := prog_1_method_18_code
def yX9_byDue : MethodName := ⟨RX9, "byDue", "(I)I"⟩
abbrev cX9_locked : ByteArray := prog_1_method_19_code
def yX9_locked : MethodName := ⟨RX9, "locked", "(II)I"⟩
abbrev cX9_tried : ByteArray := prog_1_method_20_code
def yX9_tried : MethodName := ⟨RX9, "tried", "(IIZ)I"⟩
abbrev cX9_stopped : ByteArray := prog_1_method_22_code
def yX9_stopped : MethodName := ⟨RX9, "stopped", "(I)I"⟩
abbrev cX9_far : ByteArray := prog_1_method_23_code
def yX9_far : MethodName := ⟨RX9, "far", "(II)I"⟩
abbrev cX9_further : ByteArray := prog_1_method_24_code
def yX9_further : MethodName := ⟨RX9, "further", "(II)I"⟩
abbrev cX9_bridges : ByteArray := prog_1_method_25_code
def yX9_bridges : MethodName := ⟨RX9, "bridges", "()I"⟩
abbrev cX9_told : ByteArray := prog_1_method_29_code
def yX9_told : MethodName := ⟨RX9, "told", "(I)I"⟩
abbrev cX9_within : ByteArray := prog_1_method_30_code
def yX9_within : MethodName := ⟨RX9, "within", "(III)Z"⟩
abbrev cX9_isRoom : ByteArray := prog_1_method_31_code
def yX9_isRoom : MethodName := ⟨RX9, "isRoom", "(I)Z"⟩
abbrev cX9_twoRooms : ByteArray := prog_1_method_32_code
def yX9_twoRooms : MethodName := ⟨RX9, "twoRooms", "(II)Z"⟩
abbrev cX9_takenOf : ByteArray := prog_1_method_33_code
def yX9_takenOf : MethodName := ⟨RX9, "takenOf", "(III)I"⟩
def RX10 : String := "SpeakTubesModel"
def TX10 : u_T := fun k => match k with
  | _ => ("", "", "", false)
def tyX10 : Nat → FieldType := fun k => match k with
  | _ => .int
abbrev wsX100 : List Cond := u_ws RX10 TX10 0
theorem nmX10 : ∀ a, a < 0 → ∀ b, b < 0 → a ≠ b → (TX10 a).2.1 ≠ (TX10 b).2.1 := by decide +kernel
theorem tyX10_ok : ∀ k, k < 0 → parseFieldDescriptor (TX10 k).2.2.1 = some (tyX10 k) := by decide +kernel
def RJ6 : String := "java/lang/Integer"
def TJ6 : u_T := fun k => match k with
  | _ => ("", "", "", false)
def tyJ6 : Nat → FieldType := fun k => match k with
  | _ => .int
abbrev wsJ60 : List Cond := u_ws RJ6 TJ6 0
theorem nmJ6 : ∀ a, a < 0 → ∀ b, b < 0 → a ≠ b → (TJ6 a).2.1 ≠ (TJ6 b).2.1 := by decide +kernel
theorem tyJ6_ok : ∀ k, k < 0 → parseFieldDescriptor (TJ6 k).2.2.1 = some (tyJ6 k) := by decide +kernel
abbrev cJ6_bitCount_0f7a4 : ByteArray := prog_13_method_49_code
def yJ6_bitCount_0f7a4 : MethodName := ⟨RJ6, "bitCount", "(I)I"⟩
def RJ9 : String := "java/lang/Math"
def TJ9 : u_T := fun k => match k with
  | _ => ("", "", "", false)
def tyJ9 : Nat → FieldType := fun k => match k with
  | _ => .int
abbrev wsJ90 : List Cond := u_ws RJ9 TJ9 0
theorem nmJ9 : ∀ a, a < 0 → ∀ b, b < 0 → a ≠ b → (TJ9 a).2.1 ≠ (TJ9 b).2.1 := by decide +kernel
theorem tyJ9_ok : ∀ k, k < 0 → parseFieldDescriptor (TJ9 k).2.2.1 = some (tyJ9 k) := by decide +kernel
abbrev cJ9_max_7cf53 : ByteArray := prog_14_method_65_code
def yJ9_max_7cf53 : MethodName := ⟨RJ9, "max", "(II)I"⟩
abbrev cJ9_min_7cf53 : ByteArray := prog_14_method_69_code
def yJ9_min_7cf53 : MethodName := ⟨RJ9, "min", "(II)I"⟩
def RJ10 : String := "java/lang/System"
def TJ10 : u_T := fun k => match k with
  | _ => ("", "", "", false)
def tyJ10 : Nat → FieldType := fun k => match k with
  | _ => .int
abbrev wsJ100 : List Cond := u_ws RJ10 TJ10 0
theorem nmJ10 : ∀ a, a < 0 → ∀ b, b < 0 → a ≠ b → (TJ10 a).2.1 ≠ (TJ10 b).2.1 := by decide +kernel
theorem tyJ10_ok : ∀ k, k < 0 → parseFieldDescriptor (TJ10 k).2.2.1 = some (tyJ10 k) := by decide +kernel
def RJ7 : String := "java/util/Arrays"
def TJ7 : u_T := fun k => match k with
  | _ => ("", "", "", false)
def tyJ7 : Nat → FieldType := fun k => match k with
  | _ => .int
abbrev wsJ70 : List Cond := u_ws RJ7 TJ7 0
theorem nmJ7 : ∀ a, a < 0 → ∀ b, b < 0 → a ≠ b → (TJ7 a).2.1 ≠ (TJ7 b).2.1 := by decide +kernel
theorem tyJ7_ok : ∀ k, k < 0 → parseFieldDescriptor (TJ7 k).2.2.1 = some (tyJ7 k) := by decide +kernel
abbrev cJ7_fill_031fb : ByteArray := prog_16_method_109_code
def yJ7_fill_031fb : MethodName := ⟨RJ7, "fill", "([BB)V"⟩
def RL : String := "SpeakTubesLaw"
abbrev cL_cell : ByteArray := method_2_code
def yL_cell : MethodName := ⟨RL, "cell", "([III)I"⟩
abbrev cL_sign : ByteArray := method_3_code
def yL_sign : MethodName := ⟨RL, "sign", "(I)I"⟩
abbrev cL_house : ByteArray := method_4_code
def yL_house : MethodName := ⟨RL, "house", "(LSpeakTubes;[III[I)I"⟩
abbrev cL_leads : ByteArray := method_5_code
def yL_leads : MethodName := ⟨RL, "leads", "([III)I"⟩
abbrev cL_law : ByteArray := code
def yL_law : MethodName := ⟨RL, "law", "([I)Z"⟩
def R_law : String := "SpeakTubesLaw"
def lw_P (b : Addr) (xs : List Int32) (args : Array Value) (s : State) : Prop := args = #[.ref b] ∧ s.IntsAt b xs ∧ xs.length ≤ 260 ∧ (Jvm.Cond.and given_1 narrow_1).before args s = true
def lw_Q (_ : Array Value) (s : State) (o : Outcome) (t : State) : Prop := o = .returned (some (.int 1)) ∧ Framed s o t [] 600000 7302250
def lw_Z (below : List Frame) (a : Array Value) (s : State) : State → Prop := fun t => ∃ o, t.status = .running ∧ Ended t below o ∧ lw_Q a s o t
/-- the law's own end, with 1 on the stack, nothing written that was there before, its room as the claim has it -/
theorem lw_ret {p : Program} {l : Launch} {e : Env} {s : State} {m : MethodId} {below : List Frame} {meth : Method} {c : Code} {b : Nat} (hx : p.tables.exec = Jvm.exec) (hb : c.code = code) (hr : meth.sig.returnType = ret) (hlocks : meth.locks = false) {pc : Nat} {H : Heap} {ls : Array Slot} (hdg : decode code pc = .ok (.ireturn, 1)) : W p l e room_1 s m #[Value.ref b] below meth c H [] 600000 7302250 (lw_Z below #[Value.ref b] s) (F0 m pc ls [.int 1]) := by
  intro T hT X
  obtain ⟨fs, hret, hrun, hended, hW, hframe⟩ := X.leave (v := some (.int 1)) (hlocks := hlocks) (fun h => by rw [hr] at h; cases h)
  have hmeth' : T.vm.method? m = some meth := X.method'
  refine ⟨T.setFrames fs, ?_, .returned (some (.int 1)), hrun, hended, rfl, ⟨_, rfl⟩, hW, hframe⟩
  jvm_step X.here [X.here.top, hx, hb, hdg, hmeth', hr, ret, narrow_b1]
  (try refine ⟨rfl, ?_⟩); (try refine ⟨rfl, ?_⟩)
  first | (intro acts; rw [hret _ acts rfl rfl rfl]) | rw [hret _ _ rfl rfl rfl]
  exact Steps.refl _
/-- what holds at the law's entry: the machine, the code, the tables' words (any of lw_tbl by 'hts w (by decide +kernel)'), the script of L ints xs at the cell b, what the Statement gives of the start (any of its parts by flat_of_before) -/
def lw_At (p : Program) (s : State) (m : MethodId) (meth : Method) (c : Code) (b L : Nat) (xs : Nat → Int32) : Prop :=
  p.tables.exec = Jvm.exec ∧ c.code = code ∧ meth.sig.returnType = ret ∧ c.maxLocals = 21 ∧ s.vm.findClass R_law = some m.cls ∧ (∀ w ∈ lw_tbl, w.before #[Value.ref b] s = true) ∧ va_X b L xs s s.heap ∧ b < s.heap.size ∧ meth.locks = false ∧ (Jvm.Cond.and given_1 narrow_1).before #[Value.ref b] s = true
end
section
/-! the tables of the abstract machine, by program: methods, field links, constants, places -/
def am_N (y : Nat) : MethodName := (bif Nat.blt y 47 then (bif Nat.blt y 23 then (bif Nat.blt y 11 then (bif Nat.blt y 5 then (bif Nat.blt y 2 then (bif Nat.blt y 1 then yX0_run else yX0_beginCall) else (bif Nat.blt y 3 then yX0_whyNot else (bif Nat.blt y 4 then yX0_goingOn else yX0_endCalls))) else (bif Nat.blt y 8 then (bif Nat.blt y 6 then yX1_measure else (bif Nat.blt y 7 then yX1_layTube else yX1_goBy)) else (bif Nat.blt y 9 then yX1_carried else (bif Nat.blt y 10 then yX1_sum else yX1_sumWith)))) else (bif Nat.blt y 17 then (bif Nat.blt y 14 then (bif Nat.blt y 12 then yX1_lacksOneOf else (bif Nat.blt y 13 then yX2_read else yX2_beyond)) else (bif Nat.blt y 15 then yX2_ofKind else (bif Nat.blt y 16 then yX3_beginTries else yX3_addWaiting))) else (bif Nat.blt y 20 then (bif Nat.blt y 18 then yX4_gather else (bif Nat.blt y 19 then yX4_seek else yX4_callAt)) else (bif Nat.blt y 21 then yX4_orderEnd else (bif Nat.blt y 22 then yX4_span else yX4_firstFree))))) else (bif Nat.blt y 35 then (bif Nat.blt y 29 then (bif Nat.blt y 26 then (bif Nat.blt y 24 then yX4_busyMinutes else (bif Nat.blt y 25 then yX4_minutesOf else yX4_nextOrder)) else (bif Nat.blt y 27 then yX4_swap else (bif Nat.blt y 28 then yX5_add else yX5_empty))) else (bif Nat.blt y 32 then (bif Nat.blt y 30 then yX5_signAt else (bif Nat.blt y 31 then yX5_roomAt else yX5_otherRoomAt)) else (bif Nat.blt y 33 then yX5_digitAt else (bif Nat.blt y 34 then yX5_kindAt else yX5_roomOf)))) else (bif Nat.blt y 41 then (bif Nat.blt y 38 then (bif Nat.blt y 36 then yX5_numberOf else (bif Nat.blt y 37 then yX5_houseFault else yX5_dayFault)) else (bif Nat.blt y 39 then yX6_find else (bif Nat.blt y 40 then yX6_aim else yX6_bringsNearer))) else (bif Nat.blt y 44 then (bif Nat.blt y 42 then yX6_stepOf else (bif Nat.blt y 43 then yX6_walk else yX6_nextTube)) else (bif Nat.blt y 45 then yX6_loudness else (bif Nat.blt y 46 then yX6_hearers else yX7_gather)))))) else (bif Nat.blt y 70 then (bif Nat.blt y 58 then (bif Nat.blt y 52 then (bif Nat.blt y 49 then (bif Nat.blt y 48 then yX7_takeAsTheyCome else yX7_takeByNumbers) else (bif Nat.blt y 50 then yX7_leastLocked else (bif Nat.blt y 51 then yX7_leastFrom else yX8_gather))) else (bif Nat.blt y 55 then (bif Nat.blt y 53 then yX8_nextTry else (bif Nat.blt y 54 then yX8_largerPart else yX8_fewestTries)) else (bif Nat.blt y 56 then yX8_gatherParts else (bif Nat.blt y 57 then yX8_hasPart else yX8_allCanBeParted)))) else (bif Nat.blt y 64 then (bif Nat.blt y 61 then (bif Nat.blt y 59 then yX8_layBounds else (bif Nat.blt y 60 then yX8_fewestOf else yX9_say)) else (bif Nat.blt y 62 then yX9_wipe else (bif Nat.blt y 63 then yX9_fault else yX9_house))) else (bif Nat.blt y 67 then (bif Nat.blt y 65 then yX9_set else (bif Nat.blt y 66 then yX9_way else yX9_loud)) else (bif Nat.blt y 68 then yX9_heard else (bif Nat.blt y 69 then yX9_judge else yX9_day))))) else (bif Nat.blt y 82 then (bif Nat.blt y 76 then (bif Nat.blt y 73 then (bif Nat.blt y 71 then yX9_know else (bif Nat.blt y 72 then yX9_knows else yX9_call)) else (bif Nat.blt y 74 then yX9_clear else (bif Nat.blt y 75 then yX9_soonest else yX9_byDue))) else (bif Nat.blt y 79 then (bif Nat.blt y 77 then yX9_locked else (bif Nat.blt y 78 then yX9_tried else yX9_stopped)) else (bif Nat.blt y 80 then yX9_far else (bif Nat.blt y 81 then yX9_further else yX9_bridges)))) else (bif Nat.blt y 88 then (bif Nat.blt y 85 then (bif Nat.blt y 83 then yX9_told else (bif Nat.blt y 84 then yX9_within else yX9_isRoom)) else (bif Nat.blt y 86 then yX9_twoRooms else (bif Nat.blt y 87 then yX9_takenOf else yJ6_bitCount_0f7a4))) else (bif Nat.blt y 91 then (bif Nat.blt y 89 then yJ7_fill_031fb else (bif Nat.blt y 90 then yL_cell else yL_sign)) else (bif Nat.blt y 92 then yL_house else (bif Nat.blt y 93 then yL_leads else yL_law)))))))
def am_B (y : Nat) : ByteArray := (bif Nat.blt y 47 then (bif Nat.blt y 23 then (bif Nat.blt y 11 then (bif Nat.blt y 5 then (bif Nat.blt y 2 then (bif Nat.blt y 1 then cX0_run else cX0_beginCall) else (bif Nat.blt y 3 then cX0_whyNot else (bif Nat.blt y 4 then cX0_goingOn else cX0_endCalls))) else (bif Nat.blt y 8 then (bif Nat.blt y 6 then cX1_measure else (bif Nat.blt y 7 then cX1_layTube else cX1_goBy)) else (bif Nat.blt y 9 then cX1_carried else (bif Nat.blt y 10 then cX1_sum else cX1_sumWith)))) else (bif Nat.blt y 17 then (bif Nat.blt y 14 then (bif Nat.blt y 12 then cX1_lacksOneOf else (bif Nat.blt y 13 then cX2_read else cX2_beyond)) else (bif Nat.blt y 15 then cX2_ofKind else (bif Nat.blt y 16 then cX3_beginTries else cX3_addWaiting))) else (bif Nat.blt y 20 then (bif Nat.blt y 18 then cX4_gather else (bif Nat.blt y 19 then cX4_seek else cX4_callAt)) else (bif Nat.blt y 21 then cX4_orderEnd else (bif Nat.blt y 22 then cX4_span else cX4_firstFree))))) else (bif Nat.blt y 35 then (bif Nat.blt y 29 then (bif Nat.blt y 26 then (bif Nat.blt y 24 then cX4_busyMinutes else (bif Nat.blt y 25 then cX4_minutesOf else cX4_nextOrder)) else (bif Nat.blt y 27 then cX4_swap else (bif Nat.blt y 28 then cX5_add else cX5_empty))) else (bif Nat.blt y 32 then (bif Nat.blt y 30 then cX5_signAt else (bif Nat.blt y 31 then cX5_roomAt else cX5_otherRoomAt)) else (bif Nat.blt y 33 then cX5_digitAt else (bif Nat.blt y 34 then cX5_kindAt else cX5_roomOf)))) else (bif Nat.blt y 41 then (bif Nat.blt y 38 then (bif Nat.blt y 36 then cX5_numberOf else (bif Nat.blt y 37 then cX5_houseFault else cX5_dayFault)) else (bif Nat.blt y 39 then cX6_find else (bif Nat.blt y 40 then cX6_aim else cX6_bringsNearer))) else (bif Nat.blt y 44 then (bif Nat.blt y 42 then cX6_stepOf else (bif Nat.blt y 43 then cX6_walk else cX6_nextTube)) else (bif Nat.blt y 45 then cX6_loudness else (bif Nat.blt y 46 then cX6_hearers else cX7_gather)))))) else (bif Nat.blt y 70 then (bif Nat.blt y 58 then (bif Nat.blt y 52 then (bif Nat.blt y 49 then (bif Nat.blt y 48 then cX7_takeAsTheyCome else cX7_takeByNumbers) else (bif Nat.blt y 50 then cX7_leastLocked else (bif Nat.blt y 51 then cX7_leastFrom else cX8_gather))) else (bif Nat.blt y 55 then (bif Nat.blt y 53 then cX8_nextTry else (bif Nat.blt y 54 then cX8_largerPart else cX8_fewestTries)) else (bif Nat.blt y 56 then cX8_gatherParts else (bif Nat.blt y 57 then cX8_hasPart else cX8_allCanBeParted)))) else (bif Nat.blt y 64 then (bif Nat.blt y 61 then (bif Nat.blt y 59 then cX8_layBounds else (bif Nat.blt y 60 then cX8_fewestOf else cX9_say)) else (bif Nat.blt y 62 then cX9_wipe else (bif Nat.blt y 63 then cX9_fault else cX9_house))) else (bif Nat.blt y 67 then (bif Nat.blt y 65 then cX9_set else (bif Nat.blt y 66 then cX9_way else cX9_loud)) else (bif Nat.blt y 68 then cX9_heard else (bif Nat.blt y 69 then cX9_judge else cX9_day))))) else (bif Nat.blt y 82 then (bif Nat.blt y 76 then (bif Nat.blt y 73 then (bif Nat.blt y 71 then cX9_know else (bif Nat.blt y 72 then cX9_knows else cX9_call)) else (bif Nat.blt y 74 then cX9_clear else (bif Nat.blt y 75 then cX9_soonest else cX9_byDue))) else (bif Nat.blt y 79 then (bif Nat.blt y 77 then cX9_locked else (bif Nat.blt y 78 then cX9_tried else cX9_stopped)) else (bif Nat.blt y 80 then cX9_far else (bif Nat.blt y 81 then cX9_further else cX9_bridges)))) else (bif Nat.blt y 88 then (bif Nat.blt y 85 then (bif Nat.blt y 83 then cX9_told else (bif Nat.blt y 84 then cX9_within else cX9_isRoom)) else (bif Nat.blt y 86 then cX9_twoRooms else (bif Nat.blt y 87 then cX9_takenOf else cJ6_bitCount_0f7a4))) else (bif Nat.blt y 91 then (bif Nat.blt y 89 then cJ7_fill_031fb else (bif Nat.blt y 90 then cL_cell else cL_sign)) else (bif Nat.blt y 92 then cL_house else (bif Nat.blt y 93 then cL_leads else cL_law)))))))
def am_X (y : Nat) : Nat := (bif Nat.blt y 47 then (bif Nat.blt y 23 then (bif Nat.blt y 11 then (bif Nat.blt y 5 then (bif Nat.blt y 2 then (bif Nat.blt y 1 then 9 else 6) else (bif Nat.blt y 3 then 9 else (bif Nat.blt y 4 then 3 else 3))) else (bif Nat.blt y 8 then (bif Nat.blt y 6 then 4 else (bif Nat.blt y 7 then 5 else 5)) else (bif Nat.blt y 9 then 2 else (bif Nat.blt y 10 then 6 else 13)))) else (bif Nat.blt y 17 then (bif Nat.blt y 14 then (bif Nat.blt y 12 then 3 else (bif Nat.blt y 13 then 3 else 3)) else (bif Nat.blt y 15 then 4 else (bif Nat.blt y 16 then 1 else 5))) else (bif Nat.blt y 20 then (bif Nat.blt y 18 then 4 else (bif Nat.blt y 19 then 5 else 2)) else (bif Nat.blt y 21 then 7 else (bif Nat.blt y 22 then 2 else 4))))) else (bif Nat.blt y 35 then (bif Nat.blt y 29 then (bif Nat.blt y 26 then (bif Nat.blt y 24 then 8 else (bif Nat.blt y 25 then 6 else 5)) else (bif Nat.blt y 27 then 4 else (bif Nat.blt y 28 then 2 else 2))) else (bif Nat.blt y 32 then (bif Nat.blt y 30 then 2 else (bif Nat.blt y 31 then 2 else 3)) else (bif Nat.blt y 33 then 2 else (bif Nat.blt y 34 then 3 else 2)))) else (bif Nat.blt y 41 then (bif Nat.blt y 38 then (bif Nat.blt y 36 then 2 else (bif Nat.blt y 37 then 3 else 4)) else (bif Nat.blt y 39 then 5 else (bif Nat.blt y 40 then 7 else 7))) else (bif Nat.blt y 44 then (bif Nat.blt y 42 then 2 else (bif Nat.blt y 43 then 8 else 6)) else (bif Nat.blt y 45 then 5 else (bif Nat.blt y 46 then 5 else 6)))))) else (bif Nat.blt y 70 then (bif Nat.blt y 58 then (bif Nat.blt y 52 then (bif Nat.blt y 49 then (bif Nat.blt y 48 then 3 else 4) else (bif Nat.blt y 50 then 1 else (bif Nat.blt y 51 then 10 else 5))) else (bif Nat.blt y 55 then (bif Nat.blt y 53 then 7 else (bif Nat.blt y 54 then 2 else 2)) else (bif Nat.blt y 56 then 9 else (bif Nat.blt y 57 then 4 else 5)))) else (bif Nat.blt y 64 then (bif Nat.blt y 61 then (bif Nat.blt y 59 then 5 else (bif Nat.blt y 60 then 8 else 2)) else (bif Nat.blt y 62 then 1 else (bif Nat.blt y 63 then 2 else 1))) else (bif Nat.blt y 67 then (bif Nat.blt y 65 then 4 else (bif Nat.blt y 66 then 4 else 4)) else (bif Nat.blt y 68 then 3 else (bif Nat.blt y 69 then 2 else 2))))) else (bif Nat.blt y 82 then (bif Nat.blt y 76 then (bif Nat.blt y 73 then (bif Nat.blt y 71 then 4 else (bif Nat.blt y 72 then 3 else 5)) else (bif Nat.blt y 74 then 2 else (bif Nat.blt y 75 then 2 else 2))) else (bif Nat.blt y 79 then (bif Nat.blt y 77 then 4 else (bif Nat.blt y 78 then 4 else 2)) else (bif Nat.blt y 80 then 3 else (bif Nat.blt y 81 then 8 else 3)))) else (bif Nat.blt y 88 then (bif Nat.blt y 85 then (bif Nat.blt y 83 then 2 else (bif Nat.blt y 84 then 3 else 1)) else (bif Nat.blt y 86 then 2 else (bif Nat.blt y 87 then 3 else 1))) else (bif Nat.blt y 91 then (bif Nat.blt y 89 then 4 else (bif Nat.blt y 90 then 3 else 1)) else (bif Nat.blt y 92 then 10 else (bif Nat.blt y 93 then 4 else 21)))))))
def am_R (y : Nat) : Option FieldType := (bif Nat.blt y 47 then (bif Nat.blt y 23 then (bif Nat.blt y 11 then (bif Nat.blt y 5 then (bif Nat.blt y 2 then (bif Nat.blt y 1 then none else none) else (bif Nat.blt y 3 then (some .int) else (bif Nat.blt y 4 then (some .int) else none))) else (bif Nat.blt y 8 then (bif Nat.blt y 6 then none else (bif Nat.blt y 7 then none else none)) else (bif Nat.blt y 9 then (some .int) else (bif Nat.blt y 10 then (some .int) else (some .int))))) else (bif Nat.blt y 17 then (bif Nat.blt y 14 then (bif Nat.blt y 12 then (some .boolean) else (bif Nat.blt y 13 then none else (some .int))) else (bif Nat.blt y 15 then (some .int) else (bif Nat.blt y 16 then none else (some .boolean)))) else (bif Nat.blt y 20 then (bif Nat.blt y 18 then (some .boolean) else (bif Nat.blt y 19 then none else (some .int))) else (bif Nat.blt y 21 then (some .int) else (bif Nat.blt y 22 then (some .long) else (some .int)))))) else (bif Nat.blt y 35 then (bif Nat.blt y 29 then (bif Nat.blt y 26 then (bif Nat.blt y 24 then (some .long) else (bif Nat.blt y 25 then (some .long) else (some .boolean))) else (bif Nat.blt y 27 then none else (bif Nat.blt y 28 then (some .boolean) else (some .int)))) else (bif Nat.blt y 32 then (bif Nat.blt y 30 then (some .int) else (bif Nat.blt y 31 then (some .boolean) else (some .boolean))) else (bif Nat.blt y 33 then (some .boolean) else (bif Nat.blt y 34 then (some .boolean) else (some .int))))) else (bif Nat.blt y 41 then (bif Nat.blt y 38 then (bif Nat.blt y 36 then (some .int) else (bif Nat.blt y 37 then (some .int) else (some .int))) else (bif Nat.blt y 39 then (some .boolean) else (bif Nat.blt y 40 then none else (some .boolean)))) else (bif Nat.blt y 44 then (bif Nat.blt y 42 then (some .int) else (bif Nat.blt y 43 then (some .boolean) else (some .int))) else (bif Nat.blt y 45 then (some .int) else (bif Nat.blt y 46 then (some .int) else (some .boolean))))))) else (bif Nat.blt y 70 then (bif Nat.blt y 58 then (bif Nat.blt y 52 then (bif Nat.blt y 49 then (bif Nat.blt y 48 then none else none) else (bif Nat.blt y 50 then (some .int) else (bif Nat.blt y 51 then (some .int) else none))) else (bif Nat.blt y 55 then (bif Nat.blt y 53 then (some .int) else (bif Nat.blt y 54 then (some .int) else (some .int))) else (bif Nat.blt y 56 then none else (bif Nat.blt y 57 then (some .boolean) else (some .boolean))))) else (bif Nat.blt y 64 then (bif Nat.blt y 61 then (bif Nat.blt y 59 then none else (bif Nat.blt y 60 then (some .int) else (some .int))) else (bif Nat.blt y 62 then (some .int) else (bif Nat.blt y 63 then (some .int) else (some .int)))) else (bif Nat.blt y 67 then (bif Nat.blt y 65 then (some .int) else (bif Nat.blt y 66 then (some .int) else (some .int))) else (bif Nat.blt y 68 then (some .int) else (bif Nat.blt y 69 then (some .int) else (some .int)))))) else (bif Nat.blt y 82 then (bif Nat.blt y 76 then (bif Nat.blt y 73 then (bif Nat.blt y 71 then (some .int) else (bif Nat.blt y 72 then (some .int) else (some .int))) else (bif Nat.blt y 74 then (some .int) else (bif Nat.blt y 75 then (some .int) else (some .int)))) else (bif Nat.blt y 79 then (bif Nat.blt y 77 then (some .int) else (bif Nat.blt y 78 then (some .int) else (some .int))) else (bif Nat.blt y 80 then (some .int) else (bif Nat.blt y 81 then (some .int) else (some .int))))) else (bif Nat.blt y 88 then (bif Nat.blt y 85 then (bif Nat.blt y 83 then (some .int) else (bif Nat.blt y 84 then (some .boolean) else (some .boolean))) else (bif Nat.blt y 86 then (some .boolean) else (bif Nat.blt y 87 then (some .int) else (some .int)))) else (bif Nat.blt y 91 then (bif Nat.blt y 89 then none else (bif Nat.blt y 90 then (some .int) else (some .int))) else (bif Nat.blt y 92 then (some .int) else (bif Nat.blt y 93 then (some .int) else (some .boolean))))))))
def am_O (y : Nat) : Nat := (bif Nat.blt y 47 then (bif Nat.blt y 23 then (bif Nat.blt y 11 then (bif Nat.blt y 5 then (bif Nat.blt y 2 then (bif Nat.blt y 1 then 0 else 0) else (bif Nat.blt y 3 then 0 else (bif Nat.blt y 4 then 0 else 0))) else (bif Nat.blt y 8 then (bif Nat.blt y 6 then 1 else (bif Nat.blt y 7 then 1 else 1)) else (bif Nat.blt y 9 then 1 else (bif Nat.blt y 10 then 1 else 1)))) else (bif Nat.blt y 17 then (bif Nat.blt y 14 then (bif Nat.blt y 12 then 1 else (bif Nat.blt y 13 then 2 else 2)) else (bif Nat.blt y 15 then 2 else (bif Nat.blt y 16 then 3 else 3))) else (bif Nat.blt y 20 then (bif Nat.blt y 18 then 4 else (bif Nat.blt y 19 then 4 else 4)) else (bif Nat.blt y 21 then 4 else (bif Nat.blt y 22 then 4 else 4))))) else (bif Nat.blt y 35 then (bif Nat.blt y 29 then (bif Nat.blt y 26 then (bif Nat.blt y 24 then 4 else (bif Nat.blt y 25 then 4 else 4)) else (bif Nat.blt y 27 then 4 else (bif Nat.blt y 28 then 5 else 5))) else (bif Nat.blt y 32 then (bif Nat.blt y 30 then 5 else (bif Nat.blt y 31 then 5 else 5)) else (bif Nat.blt y 33 then 5 else (bif Nat.blt y 34 then 5 else 5)))) else (bif Nat.blt y 41 then (bif Nat.blt y 38 then (bif Nat.blt y 36 then 5 else (bif Nat.blt y 37 then 5 else 5)) else (bif Nat.blt y 39 then 6 else (bif Nat.blt y 40 then 6 else 6))) else (bif Nat.blt y 44 then (bif Nat.blt y 42 then 6 else (bif Nat.blt y 43 then 6 else 6)) else (bif Nat.blt y 45 then 6 else (bif Nat.blt y 46 then 6 else 7)))))) else (bif Nat.blt y 70 then (bif Nat.blt y 58 then (bif Nat.blt y 52 then (bif Nat.blt y 49 then (bif Nat.blt y 48 then 7 else 7) else (bif Nat.blt y 50 then 7 else (bif Nat.blt y 51 then 7 else 8))) else (bif Nat.blt y 55 then (bif Nat.blt y 53 then 8 else (bif Nat.blt y 54 then 8 else 8)) else (bif Nat.blt y 56 then 8 else (bif Nat.blt y 57 then 8 else 8)))) else (bif Nat.blt y 64 then (bif Nat.blt y 61 then (bif Nat.blt y 59 then 8 else (bif Nat.blt y 60 then 8 else 9)) else (bif Nat.blt y 62 then 9 else (bif Nat.blt y 63 then 9 else 9))) else (bif Nat.blt y 67 then (bif Nat.blt y 65 then 9 else (bif Nat.blt y 66 then 9 else 9)) else (bif Nat.blt y 68 then 9 else (bif Nat.blt y 69 then 9 else 9))))) else (bif Nat.blt y 82 then (bif Nat.blt y 76 then (bif Nat.blt y 73 then (bif Nat.blt y 71 then 9 else (bif Nat.blt y 72 then 9 else 9)) else (bif Nat.blt y 74 then 9 else (bif Nat.blt y 75 then 9 else 9))) else (bif Nat.blt y 79 then (bif Nat.blt y 77 then 9 else (bif Nat.blt y 78 then 9 else 9)) else (bif Nat.blt y 80 then 9 else (bif Nat.blt y 81 then 9 else 9)))) else (bif Nat.blt y 88 then (bif Nat.blt y 85 then (bif Nat.blt y 83 then 9 else (bif Nat.blt y 84 then 9 else 9)) else (bif Nat.blt y 86 then 9 else (bif Nat.blt y 87 then 9 else 11))) else (bif Nat.blt y 91 then (bif Nat.blt y 89 then 12 else (bif Nat.blt y 90 then 13 else 13)) else (bif Nat.blt y 92 then 13 else (bif Nat.blt y 93 then 13 else 13)))))))
def am_P (y : Nat) : Nat := (bif Nat.blt y 47 then (bif Nat.blt y 23 then (bif Nat.blt y 11 then (bif Nat.blt y 5 then (bif Nat.blt y 2 then (bif Nat.blt y 1 then 4 else 5) else (bif Nat.blt y 3 then 4 else (bif Nat.blt y 4 then 0 else 0))) else (bif Nat.blt y 8 then (bif Nat.blt y 6 then 2 else (bif Nat.blt y 7 then 2 else 1)) else (bif Nat.blt y 9 then 2 else (bif Nat.blt y 10 then 0 else 4)))) else (bif Nat.blt y 17 then (bif Nat.blt y 14 then (bif Nat.blt y 12 then 1 else (bif Nat.blt y 13 then 1 else 2)) else (bif Nat.blt y 15 then 1 else (bif Nat.blt y 16 then 0 else 4))) else (bif Nat.blt y 20 then (bif Nat.blt y 18 then 2 else (bif Nat.blt y 19 then 1 else 1)) else (bif Nat.blt y 21 then 1 else (bif Nat.blt y 22 then 2 else 2))))) else (bif Nat.blt y 35 then (bif Nat.blt y 29 then (bif Nat.blt y 26 then (bif Nat.blt y 24 then 1 else (bif Nat.blt y 25 then 2 else 0)) else (bif Nat.blt y 27 then 2 else (bif Nat.blt y 28 then 1 else 0))) else (bif Nat.blt y 32 then (bif Nat.blt y 30 then 1 else (bif Nat.blt y 31 then 1 else 2)) else (bif Nat.blt y 33 then 1 else (bif Nat.blt y 34 then 1 else 1)))) else (bif Nat.blt y 41 then (bif Nat.blt y 38 then (bif Nat.blt y 36 then 1 else (bif Nat.blt y 37 then 0 else 0)) else (bif Nat.blt y 39 then 4 else (bif Nat.blt y 40 then 3 else 2))) else (bif Nat.blt y 44 then (bif Nat.blt y 42 then 2 else (bif Nat.blt y 43 then 4 else 3)) else (bif Nat.blt y 45 then 2 else (bif Nat.blt y 46 then 2 else 4)))))) else (bif Nat.blt y 70 then (bif Nat.blt y 58 then (bif Nat.blt y 52 then (bif Nat.blt y 49 then (bif Nat.blt y 48 then 2 else 2) else (bif Nat.blt y 50 then 0 else (bif Nat.blt y 51 then 6 else 2))) else (bif Nat.blt y 55 then (bif Nat.blt y 53 then 1 else (bif Nat.blt y 54 then 2 else 1)) else (bif Nat.blt y 56 then 1 else (bif Nat.blt y 57 then 2 else 1)))) else (bif Nat.blt y 64 then (bif Nat.blt y 61 then (bif Nat.blt y 59 then 1 else (bif Nat.blt y 60 then 3 else 1)) else (bif Nat.blt y 62 then 0 else (bif Nat.blt y 63 then 1 else 0))) else (bif Nat.blt y 67 then (bif Nat.blt y 65 then 2 else (bif Nat.blt y 66 then 3 else 3)) else (bif Nat.blt y 68 then 2 else (bif Nat.blt y 69 then 1 else 1))))) else (bif Nat.blt y 82 then (bif Nat.blt y 76 then (bif Nat.blt y 73 then (bif Nat.blt y 71 then 2 else (bif Nat.blt y 72 then 2 else 4)) else (bif Nat.blt y 74 then 0 else (bif Nat.blt y 75 then 1 else 1))) else (bif Nat.blt y 79 then (bif Nat.blt y 77 then 2 else (bif Nat.blt y 78 then 3 else 1)) else (bif Nat.blt y 80 then 2 else (bif Nat.blt y 81 then 2 else 0)))) else (bif Nat.blt y 88 then (bif Nat.blt y 85 then (bif Nat.blt y 83 then 1 else (bif Nat.blt y 84 then 3 else 1)) else (bif Nat.blt y 86 then 2 else (bif Nat.blt y 87 then 3 else 1))) else (bif Nat.blt y 91 then (bif Nat.blt y 89 then 2 else (bif Nat.blt y 90 then 3 else 1)) else (bif Nat.blt y 92 then 5 else (bif Nat.blt y 93 then 3 else 1)))))))
def am_C (y : Nat) : String := (bif Nat.blt y 7 then (bif Nat.blt y 3 then (bif Nat.blt y 1 then RX0 else (bif Nat.blt y 2 then RX1 else RX2)) else (bif Nat.blt y 5 then (bif Nat.blt y 4 then RX3 else RX4) else (bif Nat.blt y 6 then RX5 else RX6))) else (bif Nat.blt y 10 then (bif Nat.blt y 8 then RX7 else (bif Nat.blt y 9 then RX8 else RX9)) else (bif Nat.blt y 12 then (bif Nat.blt y 11 then RX10 else RJ6) else (bif Nat.blt y 13 then RJ7 else RL))))
def am_FL : List (Nat × Nat × Nat × Nat × Nat) := [(5, 9, 5, 0, 29), (5, 15, 5, 1, 30), (2, 28, 5, 1, 31), (9, 82, 5, 1, 32), (0, 64, 5, 1, 33), (2, 9, 2, 0, 52), (1, 42, 2, 0, 53), (6, 46, 2, 0, 54), (2, 15, 2, 1, 55), (1, 45, 2, 1, 56), (6, 49, 2, 1, 57), (2, 18, 2, 2, 58), (1, 48, 2, 2, 59), (6, 52, 2, 2, 60), (2, 21, 2, 3, 61), (1, 51, 2, 3, 62), (6, 59, 2, 3, 63), (2, 24, 2, 4, 64), (1, 21, 2, 4, 65), (3, 60, 2, 4, 66), (6, 36, 2, 4, 67), (9, 112, 2, 4, 68), (3, 12, 3, 0, 80), (6, 21, 3, 0, 81), (7, 20, 3, 0, 82), (4, 43, 3, 0, 83), (8, 25, 3, 0, 84), (1, 15, 3, 0, 85), (0, 86, 3, 0, 86), (9, 96, 3, 0, 87), (3, 18, 3, 1, 88), (1, 35, 3, 1, 89), (6, 68, 3, 1, 90), (9, 130, 3, 1, 91), (3, 22, 3, 2, 92), (9, 133, 3, 2, 93), (3, 25, 3, 3, 94), (0, 34, 3, 3, 95), (9, 180, 3, 3, 96), (3, 29, 3, 4, 97), (4, 56, 3, 4, 98), (7, 36, 3, 4, 99), (3, 32, 3, 5, 100), (4, 59, 3, 5, 101), (7, 39, 3, 5, 102), (3, 35, 3, 6, 103), (4, 71, 3, 6, 104), (3, 38, 3, 7, 105), (4, 72, 3, 7, 106), (4, 34, 3, 8, 107), (3, 54, 3, 8, 108), (9, 106, 3, 8, 109), (3, 57, 3, 9, 110), (9, 216, 3, 9, 111), (3, 41, 3, 10, 112), (9, 219, 3, 10, 113), (6, 9, 6, 0, 143), (6, 15, 6, 1, 144), (7, 55, 6, 1, 145), (9, 147, 6, 1, 146), (6, 18, 6, 2, 147), (7, 64, 6, 3, 148), (6, 62, 6, 3, 149), (9, 146, 6, 3, 150), (6, 63, 6, 4, 151), (9, 144, 6, 4, 152), (8, 41, 6, 5, 153), (4, 68, 6, 5, 154), (0, 105, 6, 5, 155), (7, 67, 6, 5, 156), (6, 65, 6, 5, 157), (9, 222, 6, 5, 158), (0, 9, 0, 0, 179), (0, 15, 0, 1, 180), (0, 18, 0, 2, 181), (0, 21, 0, 3, 182), (0, 24, 0, 4, 183), (0, 27, 0, 5, 184), (0, 31, 0, 6, 185), (9, 183, 0, 6, 186), (0, 45, 0, 7, 187), (9, 168, 0, 7, 188), (0, 49, 0, 8, 189), (0, 52, 0, 9, 190), (9, 171, 0, 9, 191), (0, 55, 0, 10, 192), (9, 174, 0, 10, 193), (0, 58, 0, 11, 194), (9, 177, 0, 11, 195), (0, 61, 0, 12, 196), (9, 165, 0, 12, 197), (4, 9, 4, 0, 231), (4, 15, 4, 1, 232), (4, 18, 4, 2, 233), (4, 21, 4, 3, 234), (4, 24, 4, 4, 235), (4, 27, 4, 5, 236), (4, 30, 4, 6, 237), (4, 40, 4, 7, 238), (4, 53, 4, 8, 239), (4, 77, 4, 9, 240), (9, 198, 4, 9, 241), (4, 73, 4, 10, 242), (9, 205, 4, 10, 243), (7, 11, 7, 0, 276), (7, 16, 7, 1, 277), (7, 32, 7, 2, 278), (8, 9, 8, 0, 292), (8, 15, 8, 1, 293), (8, 81, 8, 2, 294), (8, 18, 8, 3, 295), (8, 21, 8, 4, 296), (1, 9, 1, 0, 315), (9, 12, 9, 0, 319), (9, 19, 9, 1, 320), (9, 23, 9, 2, 321), (9, 26, 9, 3, 322), (9, 29, 9, 4, 323), (9, 36, 9, 5, 324), (9, 43, 9, 6, 325), (9, 50, 9, 7, 326), (9, 57, 9, 8, 327), (9, 64, 9, 9, 328), (9, 71, 9, 10, 329), (9, 75, 9, 11, 330)]
def am_CT : List (Nat × Nat × Int × Nat) := [(6, 35, 1048576, 397), (9, 215, 1000000, 603), (11, 265, 1431655765, 611), (11, 266, 858993459, 612), (11, 267, 252645135, 613), (13, 7, 4194303, 709)]
def am_CL : List (Nat × Nat × Nat × Nat) := []
def am_SP : List (Nat × Nat × Nat × Nat) := [(0, 39, 2, 462), (0, 99, 0, 495), (4, 106, 0, 558), (4, 84, 2, 559), (7, 58, 2, 590), (8, 55, 0, 632), (8, 88, 1, 659), (1, 54, 1, 678)]
def am_PF : List (Nat × Nat × Nat) := [(0, 7, 0), (0, 8, 0), (0, 9, 0), (0, 10, 0), (0, 11, 0), (0, 12, 0), (2, 4, 0), (3, 1, 0), (3, 2, 0), (3, 8, 0), (3, 9, 0), (3, 10, 0), (4, 7, 0), (4, 8, 0), (4, 9, 0), (4, 10, 1), (5, 1, 0), (6, 3, 0), (6, 4, 0), (6, 5, 0), (7, 2, 0), (8, 2, 0)]
def am_NP : Nat := 75
def am_tr (k : Nat) : (Nat × List (Option Nat)) ⊕ (Nat × Nat) := (bif Nat.blt k 37 then (bif Nat.blt k 18 then (bif Nat.blt k 9 then (bif Nat.blt k 4 then (bif Nat.blt k 2 then (bif Nat.blt k 1 then (.inl (9, [some 1, some 3, some 14, some 25, some 36, some 37, some 41, some 49, some 57, some 65, some 70, some 72])) else (.inl (5, [some 2, none]))) else (bif Nat.blt k 3 then (.inr (0, 60)) else (.inl (3, [some 4, none, none, some 9, some 10, some 11, some 12, some 13, none, none, none])))) else (bif Nat.blt k 6 then (bif Nat.blt k 5 then (.inl (2, [some 5, some 6, some 7, some 8, none])) else (.inr (0, 12))) else (bif Nat.blt k 7 then (.inr (0, 12)) else (bif Nat.blt k 8 then (.inr (0, 12)) else (.inr (0, 12)))))) else (bif Nat.blt k 13 then (bif Nat.blt k 11 then (bif Nat.blt k 10 then (.inr (0, 8)) else (.inr (0, 5))) else (bif Nat.blt k 12 then (.inr (0, 5)) else (.inr (0, 5)))) else (bif Nat.blt k 15 then (bif Nat.blt k 14 then (.inr (0, 5)) else (.inl (3, [some 15, none, none, some 20, some 21, some 22, some 23, some 24, none, none, none]))) else (bif Nat.blt k 16 then (.inl (2, [some 16, some 17, some 18, some 19, none])) else (bif Nat.blt k 17 then (.inr (0, 12)) else (.inr (0, 12))))))) else (bif Nat.blt k 27 then (bif Nat.blt k 22 then (bif Nat.blt k 20 then (bif Nat.blt k 19 then (.inr (0, 12)) else (.inr (0, 12))) else (bif Nat.blt k 21 then (.inr (0, 8)) else (.inr (0, 5)))) else (bif Nat.blt k 24 then (bif Nat.blt k 23 then (.inr (0, 5)) else (.inr (0, 5))) else (bif Nat.blt k 25 then (.inr (0, 5)) else (bif Nat.blt k 26 then (.inl (3, [some 26, none, none, some 31, some 32, some 33, some 34, some 35, none, none, none])) else (.inl (2, [some 27, some 28, some 29, some 30, none])))))) else (bif Nat.blt k 32 then (bif Nat.blt k 29 then (bif Nat.blt k 28 then (.inr (0, 12)) else (.inr (0, 12))) else (bif Nat.blt k 30 then (.inr (0, 12)) else (bif Nat.blt k 31 then (.inr (0, 12)) else (.inr (0, 8))))) else (bif Nat.blt k 34 then (bif Nat.blt k 33 then (.inr (0, 5)) else (.inr (0, 5))) else (bif Nat.blt k 35 then (.inr (0, 5)) else (bif Nat.blt k 36 then (.inr (0, 5)) else (.inr (1, 2)))))))) else (bif Nat.blt k 56 then (bif Nat.blt k 46 then (bif Nat.blt k 41 then (bif Nat.blt k 39 then (bif Nat.blt k 38 then (.inl (6, [some 38, some 39, some 40, none, none, none])) else (.inr (0, 8))) else (bif Nat.blt k 40 then (.inr (0, 8)) else (.inr (0, 8)))) else (bif Nat.blt k 43 then (bif Nat.blt k 42 then (.inl (0, [some 42, some 43, some 44, some 45, some 46, some 47, some 48, none, none, none, none, none, none])) else (.inr (0, 20))) else (bif Nat.blt k 44 then (.inr (0, 20)) else (bif Nat.blt k 45 then (.inr (0, 20)) else (.inr (0, 20)))))) else (bif Nat.blt k 51 then (bif Nat.blt k 48 then (bif Nat.blt k 47 then (.inr (0, 20)) else (.inr (1, 20))) else (bif Nat.blt k 49 then (.inr (0, 8)) else (bif Nat.blt k 50 then (.inl (4, [some 50, some 51, some 52, some 53, some 54, some 55, some 56, none, none, none, none])) else (.inr (0, 5))))) else (bif Nat.blt k 53 then (bif Nat.blt k 52 then (.inr (0, 5)) else (.inr (0, 5))) else (bif Nat.blt k 54 then (.inr (0, 5)) else (bif Nat.blt k 55 then (.inr (0, 5)) else (.inr (0, 5))))))) else (bif Nat.blt k 65 then (bif Nat.blt k 60 then (bif Nat.blt k 58 then (bif Nat.blt k 57 then (.inr (2, 5)) else (.inl (7, [some 58, some 64, none]))) else (bif Nat.blt k 59 then (.inr (4, 5)) else (.inr (0, 8)))) else (bif Nat.blt k 62 then (bif Nat.blt k 61 then (.inr (0, 8)) else (.inr (0, 8))) else (bif Nat.blt k 63 then (.inr (0, 8)) else (bif Nat.blt k 64 then (.inr (0, 8)) else (.inr (0, 5)))))) else (bif Nat.blt k 70 then (bif Nat.blt k 67 then (bif Nat.blt k 66 then (.inl (8, [some 66, some 67, none, some 68, some 69])) else (.inr (0, 64))) else (bif Nat.blt k 68 then (.inr (0, 64)) else (bif Nat.blt k 69 then (.inr (0, 14)) else (.inr (3, 8192))))) else (bif Nat.blt k 72 then (bif Nat.blt k 71 then (.inl (1, [some 71])) else (.inr (0, 64))) else (bif Nat.blt k 73 then (.inl (1, [some 73])) else (bif Nat.blt k 74 then (.inr (0, 64)) else (.inr (0, 48)))))))))
def am_MT : List (Nat × Nat × Nat × Nat × Nat × Nat) := [(461, 1, 459, 1, 460, 6), (494, 1, 493, 2, 4, 6), (481, 1, 480, 2, 3, 6), (501, 1, 500, 2, 5, 6), (473, 1, 472, 2, 2, 6), (673, 1, 671, 1, 672, 10), (677, 1, 676, 2, 17, 10), (682, 1, 681, 2, 18, 10), (685, 0, 684, 0, 0, 10), (689, 1, 687, 1, 688, 10), (693, 1, 691, 1, 692, 10), (701, 1, 699, 1, 700, 10), (735, 1, 733, 1, 734, 4), (416, 1, 414, 1, 415, 4), (486, 1, 484, 1, 485, 4), (742, 1, 740, 1, 741, 3), (521, 1, 519, 1, 520, 3), (533, 1, 531, 1, 532, 7), (539, 1, 537, 1, 538, 7), (571, 1, 569, 1, 570, 7), (543, 1, 542, 2, 6, 7), (557, 0, 556, 0, 0, 7), (554, 0, 553, 0, 0, 7), (547, 1, 546, 2, 7, 7), (551, 1, 550, 2, 8, 7), (563, 1, 562, 2, 9, 7), (567, 1, 566, 2, 10, 7), (363, 1, 361, 1, 362, 2), (371, 1, 369, 1, 370, 2), (444, 1, 442, 1, 443, 2), (448, 1, 446, 1, 447, 2), (453, 1, 451, 1, 452, 2), (457, 1, 455, 1, 456, 2), (727, 1, 725, 1, 726, 2), (477, 1, 475, 1, 476, 2), (469, 1, 467, 1, 468, 2), (723, 1, 721, 1, 722, 2), (440, 1, 438, 1, 439, 2), (392, 1, 390, 1, 391, 5), (396, 1, 394, 1, 395, 5), (401, 1, 400, 2, 0, 5), (404, 0, 403, 0, 0, 5), (408, 1, 406, 1, 407, 5), (412, 1, 411, 2, 1, 5), (424, 1, 422, 1, 423, 5), (432, 1, 430, 1, 431, 5), (583, 1, 581, 1, 582, 8), (589, 1, 588, 2, 11, 8), (594, 1, 593, 2, 12, 8), (598, 1, 596, 1, 597, 8), (601, 0, 600, 0, 0, 8), (621, 1, 619, 1, 620, 9), (627, 1, 625, 1, 626, 9), (631, 0, 630, 0, 0, 9), (636, 1, 634, 1, 635, 9), (640, 1, 639, 2, 13, 9), (644, 1, 643, 2, 14, 9), (648, 1, 647, 2, 15, 9), (652, 1, 651, 2, 16, 9), (658, 0, 657, 0, 0, 9), (359, 1, 357, 1, 358, 1), (367, 1, 365, 1, 366, 1), (719, 1, 717, 1, 718, 1), (731, 1, 729, 1, 730, 1), (375, 1, 373, 1, 374, 1), (382, 1, 380, 1, 381, 1), (420, 1, 418, 1, 419, 1), (428, 1, 426, 1, 427, 1), (436, 1, 434, 1, 435, 1), (505, 1, 503, 1, 504, 1), (509, 1, 507, 1, 508, 1), (513, 1, 511, 1, 512, 1), (517, 1, 515, 1, 516, 1), (525, 1, 523, 1, 524, 1), (529, 1, 527, 1, 528, 1), (575, 1, 573, 1, 574, 1), (579, 1, 577, 1, 578, 1), (607, 1, 605, 1, 606, 1), (617, 1, 615, 1, 616, 1), (665, 1, 663, 1, 664, 1), (669, 1, 667, 1, 668, 1), (697, 1, 695, 1, 696, 1), (705, 1, 703, 1, 704, 1), (378, 0, 377, 0, 0, 1), (388, 0, 387, 0, 0, 1), (385, 0, 384, 0, 0, 1), (489, 0, 488, 0, 0, 1), (610, 0, 609, 0, 0, 13), (655, 0, 654, 0, 0, 14), (708, 0, 707, 0, 0, 0), (715, 0, 714, 0, 0, 0), (712, 0, 711, 0, 0, 0), (746, 0, 745, 0, 0, 0)]
def am_CS : List (Nat × Nat × Nat × Nat) := [(13, 20, 60, 356), (9, 78, 27, 360), (13, 8, 61, 364), (9, 86, 28, 368), (13, 40, 64, 372), (9, 126, 83, 376), (13, 44, 65, 379), (9, 136, 85, 383), (9, 150, 84, 386), (9, 140, 38, 389), (6, 27, 39, 393), (6, 42, 40, 398), (6, 55, 41, 402), (6, 31, 42, 405), (6, 71, 43, 409), (6, 75, 13, 413), (13, 48, 66, 417), (9, 153, 44, 421), (13, 51, 67, 425), (9, 157, 45, 429), (13, 70, 68, 433), (9, 93, 37, 437), (5, 19, 29, 441), (5, 27, 30, 445), (5, 34, 31, 450), (5, 38, 32, 454), (9, 161, 0, 458), (0, 69, 29, 465), (0, 73, 35, 466), (0, 76, 4, 470), (0, 79, 34, 474), (0, 82, 2, 478), (0, 112, 38, 482), (0, 116, 14, 483), (0, 90, 45, 490), (0, 95, 1, 491), (0, 108, 3, 498), (13, 73, 69, 502), (13, 60, 70, 506), (13, 76, 71, 510), (13, 66, 72, 514), (9, 186, 16, 518), (13, 63, 73, 522), (13, 82, 74, 526), (9, 190, 17, 530), (4, 47, 14, 534), (4, 62, 38, 535), (9, 194, 18, 536), (4, 80, 20, 540), (4, 94, 23, 544), (4, 112, 24, 548), (4, 98, 22, 552), (4, 102, 21, 555), (4, 90, 25, 560), (4, 115, 26, 564), (9, 201, 19, 568), (13, 85, 75, 572), (13, 88, 76, 576), (9, 209, 46, 580), (7, 26, 14, 584), (7, 42, 38, 585), (7, 48, 47, 586), (7, 52, 48, 591), (9, 212, 49, 595), (7, 70, 50, 599), (13, 94, 77, 604), (9, 225, 87, 608), (13, 91, 78, 614), (9, 230, 51, 618), (8, 31, 39, 622), (8, 37, 42, 623), (9, 233, 52, 624), (8, 45, 87, 628), (8, 51, 53, 629), (9, 236, 54, 633), (8, 60, 55, 637), (8, 84, 56, 641), (8, 64, 57, 645), (8, 68, 58, 649), (8, 71, 88, 653), (8, 77, 59, 656), (13, 54, 79, 662), (13, 57, 80, 666), (9, 239, 5, 670), (1, 27, 6, 674), (1, 31, 7, 679), (1, 38, 8, 683), (9, 243, 9, 686), (9, 246, 10, 690), (13, 98, 81, 694), (9, 250, 11, 698), (13, 79, 82, 702), (13, 14, 89, 706), (13, 37, 91, 710), (13, 24, 90, 713), (13, 27, 62, 716), (9, 90, 36, 720), (5, 31, 33, 724), (13, 30, 63, 728), (9, 100, 12, 732), (2, 31, 34, 736), (2, 35, 29, 737), (2, 38, 35, 738), (9, 109, 15, 739), (3, 63, 14, 743), (13, 33, 92, 744)]
theorem in_1 {w : Cond} (h : w ∈ tables_1_1) : w ∈ lw_tbl := by
  show w ∈ k2_sels lw_privs ++ tables_1
  exact List.mem_append_right _ (show w ∈ tables_1_1 ++ (tables_1_2 ++ (tables_1_3 ++ tables_1_4)) from List.mem_append_left _ h)
theorem in_2 {w : Cond} (h : w ∈ tables_1_2) : w ∈ lw_tbl := by
  show w ∈ k2_sels lw_privs ++ tables_1
  exact List.mem_append_right _ (show w ∈ tables_1_1 ++ (tables_1_2 ++ (tables_1_3 ++ tables_1_4)) from List.mem_append_right _ (List.mem_append_left _ h))
theorem in_3 {w : Cond} (h : w ∈ tables_1_3) : w ∈ lw_tbl := by
  show w ∈ k2_sels lw_privs ++ tables_1
  exact List.mem_append_right _ (show w ∈ tables_1_1 ++ (tables_1_2 ++ (tables_1_3 ++ tables_1_4)) from List.mem_append_right _ (List.mem_append_right _ (List.mem_append_left _ h)))
theorem in_4 {w : Cond} (h : w ∈ tables_1_4) : w ∈ lw_tbl := by
  show w ∈ k2_sels lw_privs ++ tables_1
  exact List.mem_append_right _ (show w ∈ tables_1_1 ++ (tables_1_2 ++ (tables_1_3 ++ tables_1_4)) from List.mem_append_right _ (List.mem_append_right _ (List.mem_append_right _ (h))))
/-! ===== the abstract machine: values at places, places at addresses ===== -/
abbrev vwCl : List vw_C := [(RX0, TX0, 13), (RX1, TX1, 1), (RX2, TX2, 5), (RX3, TX3, 11), (RX4, TX4, 11), (RX5, TX5, 2), (RX6, TX6, 6), (RX7, TX7, 3), (RX8, TX8, 5), (RX9, TX9, 12)]
abbrev Mem : Type := Nat → Nat → Int32
abbrev LMem : Type := Nat → Int64
def mput (M : Mem) (k i : Nat) (v : Int32) : Mem := fun a b => if a = k ∧ b = i then v else M a b
def mcpy (M : Mem) (ks kd sp dp n : Nat) : Mem := fun a => if a = kd then va_cpy (M ks) (M kd) sp dp n else M a
def am_sh (k : Nat) : (Nat × List (Option Nat)) ⊕ (Nat × Nat) := bif Nat.blt k am_NP then am_tr k else .inr (99, 0)
/-- the class of the object at a place (99: none), its fields' places; the type of the array at a place (99: none), its length -/
def oci (k : Nat) : Nat := match am_sh k with
  | .inl x => x.1
  | .inr _ => 99
def ofs (k : Nat) : List (Option Nat) := match am_sh k with
  | .inl x => x.2
  | .inr _ => []
def oty (k : Nat) : Nat := match am_sh k with
  | .inl _ => 99
  | .inr x => x.1
def oln (k : Nat) : Nat := match am_sh k with
  | .inl _ => 0
  | .inr x => x.2
def lopt : List (Option Nat) → Nat → Option Nat
  | [], _ => none
  | a :: _, 0 => a
  | _ :: r, n + 1 => lopt r n
def lget : List Value → Nat → Value
  | [], _ => .null
  | a :: _, 0 => a
  | _ :: r, n + 1 => lget r n
def lset : List Value → Nat → Value → List Value
  | [], _, _ => []
  | _ :: r, 0, v => v :: r
  | a :: r, n + 1, v => a :: lset r n v
def llt : List Value → Nat → Bool
  | [], _ => false
  | _ :: _, 0 => true
  | _ :: r, n + 1 => llt r n
def isC1 : Value → Bool
  | .long _ => false
  | .double _ => false
  | _ => true
/-- a place to store at: it is there, nothing of two slots stands just ahead of it -/
def lok (lo : List Value) : Nat → Bool
  | 0 => llt lo 0
  | n + 1 => isC1 (lget lo n) && llt lo (n + 1)
def fv (M : Mem) (k j : Nat) : Option Nat → Value
  | some t => .ref t
  | none => .int (M k j)
def isN : Option Nat → Bool
  | some _ => false
  | none => true
def csum : List Value → Nat
  | [] => 0
  | v :: r => v.category + csum r
def aok (k t : Nat) (i : Int32) : Prop := oty k = t ∧ vp_in i (oln k)
def isI : Value → (Int32 → Prop) → Prop
  | .int x, P => P x
  | _, _ => False
def isR : Value → (Nat → Prop) → Prop
  | .ref x, P => P x
  | _, _ => False
def isJ : Value → (Int64 → Prop) → Prop
  | .long x, P => P x
  | _, _ => False
def pI : List Value → (Int32 → List Value → Prop) → Prop
  | .int x :: r, P => P x r
  | _, _ => False
def pR : List Value → (Nat → List Value → Prop) → Prop
  | .ref x :: r, P => P x r
  | _, _ => False
def pJ : List Value → (Int64 → List Value → Prop) → Prop
  | .long x :: r, P => P x r
  | _, _ => False
theorem isI_inv {v : Value} {P : Int32 → Prop} (h : isI v P) : ∃ x, v = .int x ∧ P x := by
  cases v <;> first | exact ⟨_, rfl, h⟩ | exact False.elim h
theorem isR_inv {v : Value} {P : Nat → Prop} (h : isR v P) : ∃ x, v = .ref x ∧ P x := by
  cases v <;> first | exact ⟨_, rfl, h⟩ | exact False.elim h
theorem isJ_inv {v : Value} {P : Int64 → Prop} (h : isJ v P) : ∃ x, v = .long x ∧ P x := by
  cases v <;> first | exact ⟨_, rfl, h⟩ | exact False.elim h
theorem pI_inv {st : List Value} {P : Int32 → List Value → Prop} (h : pI st P) : ∃ x r, st = .int x :: r ∧ P x r := by
  cases st with
  | nil => exact False.elim h
  | cons v r => cases v <;> first | exact ⟨_, _, rfl, h⟩ | exact False.elim h
theorem pR_inv {st : List Value} {P : Nat → List Value → Prop} (h : pR st P) : ∃ x r, st = .ref x :: r ∧ P x r := by
  cases st with
  | nil => exact False.elim h
  | cons v r => cases v <;> first | exact ⟨_, _, rfl, h⟩ | exact False.elim h
theorem pJ_inv {st : List Value} {P : Int64 → List Value → Prop} (h : pJ st P) : ∃ x r, st = .long x :: r ∧ P x r := by
  cases st with
  | nil => exact False.elim h
  | cons v r => cases v <;> first | exact ⟨_, _, rfl, h⟩ | exact False.elim h
theorem bif_inv {b : Bool} {P : Prop} (h : (bif b then P else False)) : b = true ∧ P := by
  cases b
  · exact False.elim h
  · exact ⟨rfl, h⟩
theorem bif_inv2 {b : Bool} {P R : Prop} (h : (bif b then P else R)) : (b = true ∧ P) ∨ (b = false ∧ R) := by
  cases b
  · exact Or.inr ⟨rfl, h⟩
  · exact Or.inl ⟨rfl, h⟩
def am_find3 (L : List (Nat × Nat × Nat × Nat)) (a b : Nat) : Option Nat := (L.find? (fun q => Nat.beq q.1 a && Nat.beq q.2.1 b)).map (fun q => q.2.2.1)
def am_fl (own i : Nat) : Option (Nat × Nat) := (am_FL.find? (fun q => Nat.beq q.1 own && Nat.beq q.2.1 i)).map (fun q => (q.2.2.1, q.2.2.2.1))
def am_ct (own i : Nat) : Option Int := (am_CT.find? (fun q => Nat.beq q.1 own && Nat.beq q.2.1 i)).map (fun q => q.2.2.1)
def am_cl (own i : Nat) : Option Nat := am_find3 am_CL own i
def am_sp (own i : Nat) : Option Nat := am_find3 am_SP own i
/-- 0: an int that may be written, 1: a boolean, 2: none -/
def am_pf (ci k : Nat) : Nat := match am_PF.find? (fun q => Nat.beq q.1 ci && Nat.beq q.2.1 k) with
  | some q => q.2.2
  | none => 2
/-- an instruction as it is, its constants and places looked up; and its length -/
def am_res (own : Nat) : Instr → Option (Instr × Nat)
  | .iconst n => some (.iconst n, 1)
  | .bipush n => if (Int8.ofInt n).toInt32 = Int32.ofInt n then some (.iconst n, 2) else none
  | .sipush n => if (Int16.ofInt n).toInt32 = Int32.ofInt n then some (.iconst n, 3) else none
  | .ldc i => (am_ct own i).map fun v => (.iconst v, 2)
  | .ldc_w i => (am_ct own i).map fun v => (.iconst v, 3)
  | .ldc2_w i => (am_cl own i).map fun v => (.ldc2_w v, 3)
  | .lconst n => some (.ldc2_w n.val, 1)
  | .iload_n k => some (.iload k.val, 1)
  | .iload i => some (.iload i, 2)
  | .aload_n k => some (.aload k.val, 1)
  | .aload i => some (.aload i, 2)
  | .lload_n k => some (.lload k.val, 1)
  | .lload i => some (.lload i, 2)
  | .istore_n k => some (.istore k.val, 1)
  | .istore i => some (.istore i, 2)
  | .astore_n k => some (.astore k.val, 1)
  | .astore i => some (.astore i, 2)
  | .lstore_n k => some (.lstore k.val, 1)
  | .lstore i => some (.lstore i, 2)
  | .iinc i n => some (.iinc i n, 3)
  | .iadd => some (.iadd, 1)
  | .isub => some (.isub, 1)
  | .imul => some (.imul, 1)
  | .idiv => some (.idiv, 1)
  | .irem => some (.irem, 1)
  | .iand => some (.iand, 1)
  | .ior => some (.ior, 1)
  | .ixor => some (.ixor, 1)
  | .ishl => some (.ishl, 1)
  | .ishr => some (.ishr, 1)
  | .iushr => some (.iushr, 1)
  | .lshl => some (.lshl, 1)
  | .lor => some (.lor, 1)
  | .land => some (.land, 1)
  | .lsub => some (.lsub, 1)
  | .lcmp => some (.lcmp, 1)
  | .i2l => some (.i2l, 1)
  | .i2b => some (.i2b, 1)
  | .dup => some (.dup, 1)
  | .dup2 => some (.dup2, 1)
  | .pop => some (.pop, 1)
  | .getfield i => (am_fl own i).map fun q => (.getfield (64 * q.1 + q.2), 3)
  | .putfield i => (am_fl own i).map fun q => (.putfield (64 * q.1 + q.2), 3)
  | .iaload => some (.iaload, 1)
  | .baload => some (.baload, 1)
  | .laload => some (.laload, 1)
  | .aaload => some (.aaload, 1)
  | .iastore => some (.iastore, 1)
  | .bastore => some (.bastore, 1)
  | .lastore => some (.lastore, 1)
  | .arraylength => some (.arraylength, 1)
  | .invokestatic i => (am_sp own i).map fun w => (.invokestatic w, 3)
  | _ => none
abbrev KK : Type := List Value → List Value → Mem → LMem → Prop
/-- what an instruction asks, and where it leads -/
def ex (i : Instr) (lo st : List Value) (M : Mem) (L : LMem) (K : KK) : Prop := match i with
  | .goto _ => K lo st M L
  | .iconst n => K lo (.int (Int32.ofInt n) :: st) M L
  | .ldc2_w n => K lo (.long (Int64.ofNat n) :: st) M L
  | .iload i => isI (lget lo i) fun x => K lo (.int x :: st) M L
  | .aload i => isR (lget lo i) fun x => K lo (.ref x :: st) M L
  | .lload i => isJ (lget lo i) fun x => K lo (.long x :: st) M L
  | .istore i => pI st fun x st => bif lok lo i then K (lset lo i (.int x)) st M L else False
  | .astore i => pR st fun x st => bif lok lo i then K (lset lo i (.ref x)) st M L else False
  | .lstore i => pJ st fun x st => bif lok lo i && llt lo (i + 1) then K (lset (lset lo i (.long x)) (i + 1) .null) st M L else False
  | .iinc i n => isI (lget lo i) fun x => bif lok lo i then K (lset lo i (.int (x + Int32.ofInt n))) st M L else False
  | .iadd => pI st fun y st => pI st fun x st => K lo (.int (x + y) :: st) M L
  | .isub => pI st fun y st => pI st fun x st => K lo (.int (x - y) :: st) M L
  | .imul => pI st fun y st => pI st fun x st => K lo (.int (x * y) :: st) M L
  | .idiv => pI st fun y st => pI st fun x st => ¬ y = 0 ∧ K lo (.int (x / y) :: st) M L
  | .irem => pI st fun y st => pI st fun x st => ¬ y = 0 ∧ K lo (.int (x - x / y * y) :: st) M L
  | .iand => pI st fun y st => pI st fun x st => K lo (.int (x &&& y) :: st) M L
  | .ior => pI st fun y st => pI st fun x st => K lo (.int (x ||| y) :: st) M L
  | .ixor => pI st fun y st => pI st fun x st => K lo (.int (x ^^^ y) :: st) M L
  | .ishl => pI st fun y st => pI st fun x st => K lo (.int (x <<< (y &&& 31)) :: st) M L
  | .ishr => pI st fun y st => pI st fun x st => K lo (.int (x >>> (y &&& 31)) :: st) M L
  | .iushr => pI st fun y st => pI st fun x st => K lo (.int ((x.toUInt32 >>> (y.toUInt32 &&& Int32.toUInt32 31)).toInt32) :: st) M L
  | .lshl => pI st fun y st => pJ st fun x st => K lo (.long (x <<< (y.toInt64 &&& 63)) :: st) M L
  | .lor => pJ st fun y st => pJ st fun x st => K lo (.long (x ||| y) :: st) M L
  | .land => pJ st fun y st => pJ st fun x st => K lo (.long (x &&& y) :: st) M L
  | .lsub => pJ st fun y st => pJ st fun x st => K lo (.long (x - y) :: st) M L
  | .lcmp => pJ st fun y st => pJ st fun x st => K lo (.int (lg_cmp x y) :: st) M L
  | .i2l => pI st fun x st => K lo (.long x.toInt64 :: st) M L
  | .i2b => pI st fun x st => K lo (.int x.toInt8.toInt32 :: st) M L
  | .dup => (match st with
    | .int x :: st => K lo (.int x :: .int x :: st) M L
    | .ref x :: st => K lo (.ref x :: .ref x :: st) M L
    | _ => False)
  | .dup2 => pI st fun y st => pR st fun x st => K lo (.int y :: .ref x :: .int y :: .ref x :: st) M L
  | .pop => pI st fun _ st => K lo st M L
  | .getfield n => pR st fun k st => bif Nat.beq (oci k) (n / 64) && Nat.blt (n % 64) (ofs k).length then K lo (fv M k (n % 64) (lopt (ofs k) (n % 64)) :: st) M L else False
  | .putfield n => pI st fun x st => pR st fun k st => bif (Nat.beq (oci k) (n / 64) && Nat.blt (n % 64) (ofs k).length) && isN (lopt (ofs k) (n % 64)) then
      (bif Nat.beq (am_pf (n / 64) (n % 64)) 0 then K lo st (mput M k (n % 64) x) L else (bif Nat.beq (am_pf (n / 64) (n % 64)) 1 then (x = 0 ∨ x = 1) ∧ K lo st (mput M k (n % 64) x) L else False)) else False
  | .iaload => pI st fun i st => pR st fun k st => aok k 0 i ∧ K lo (.int (M k i.toNatClampNeg) :: st) M L
  | .baload => pI st fun i st => pR st fun k st => (aok k 1 i ∨ aok k 3 i) ∧ K lo (.int (M k i.toNatClampNeg) :: st) M L
  | .laload => pI st fun i st => pR st fun k st => aok k 2 i ∧ K lo (.long (L i.toNatClampNeg) :: st) M L
  | .aaload => pI st fun i st => pR st fun k st => aok k 4 i ∧ K lo (.ref (k + 1 + i.toNatClampNeg) :: st) M L
  | .iastore => pI st fun x st => pI st fun i st => pR st fun k st => aok k 0 i ∧ K lo st (mput M k i.toNatClampNeg x) L
  | .bastore => pI st fun x st => pI st fun i st => pR st fun k st => (aok k 1 i ∧ K lo st (mput M k i.toNatClampNeg (vp_nar .boolean x)) L) ∨ (aok k 3 i ∧ K lo st (mput M k i.toNatClampNeg (vp_nar .byte x)) L)
  | .lastore => pJ st fun x st => pI st fun i st => pR st fun k st => aok k 2 i ∧ K lo st M (vp_updL L i.toNatClampNeg x)
  | .arraylength => pR st fun k st => bif Nat.blt (oty k) 5 then K lo (.int (Int32.ofNat (oln k)) :: st) M L else False
  | .invokestatic w => (match w with
    | 0 => pI st fun y st => pI st fun x st => bif Nat.ble (csum st) 8 then K lo (.int (if x < y then y else x) :: st) M L else False
    | 1 => pI st fun y st => pI st fun x st => bif Nat.ble (csum st) 8 then K lo (.int (if y < x then y else x) :: st) M L else False
    | 2 => pI st fun n st => pI st fun dp st => pR st fun kd st => pI st fun sp st => pR st fun ks st => bif Nat.ble (csum st) 8 then (oty ks = 0 ∧ oty kd = 0 ∧ ¬ sp < 0 ∧ ¬ dp < 0 ∧ ¬ n < 0 ∧ sp.toNatClampNeg + n.toNatClampNeg ≤ oln ks ∧ dp.toNatClampNeg + n.toNatClampNeg ≤ oln kd) ∧ K lo st (mcpy M ks kd sp.toNatClampNeg dp.toNatClampNeg n.toNatClampNeg) L else False
    | _ => False)
  | _ => False
def exs : List Instr → List Value → List Value → Mem → LMem → KK → Prop
  | [], lo, st, M, L, K => K lo st M L
  | i :: is, lo, st, M, L, K => ex i lo st M L (fun lo st M L => exs is lo st M L K)
/-- these instructions stand from pc on (gotos are followed: .goto 0); where they end -/
def segc (b : ByteArray) (own : Nat) : List Instr → Nat → Option Nat
  | [], pc => some pc
  | i :: is, pc => (match decode b pc with
    | .ok (.goto off, 3) => if i = .goto 0 ∧ 0 ≤ (pc : Int) + off then segc b own is ((pc : Int) + off).toNat else none
    | .ok (j, len) => if am_res own j = some (i, len) then segc b own is (pc + len) else none
    | _ => none)
/-! ===== the real machine beneath ===== -/
def cvl (ad : Nat → Nat) : Value → Value
  | .ref k => .ref (ad k)
  | v => v
def am_tys (cA : Nat → ClassId) : List (ClassId × FieldType) := [(cA 0, .int), (cA 1, .boolean), (cA 2, .long), (cA 3, .byte), (cA 4, .array .int)]
def cel (ad : Nat → Nat) (cA : Nat → ClassId) (M : Mem) (L : LMem) (k : Nat) : va_E := match am_sh k with
  | .inl x => .inr (x.1, (List.range x.2.length).map fun j => cvl ad (fv M k j (lopt x.2 j)))
  | .inr x => .inl (cA x.1, x.2, if x.1 = 2 then .inr (.inl L) else if x.1 = 4 then .inr (.inr (.inr (.inr fun i => if i < x.2 then some (ad (k + 1 + i)) else none))) else .inl (M k))
def wd (ad : Nat → Nat) (cA : Nat → ClassId) (M : Mem) (L : LMem) : va_W := (List.range am_NP).map fun k => (ad k, cel ad cA M L k)
abbrev VE : Type := Launch × va_G × (Nat → Nat) × (Nat → ClassId) × Nat × (Nat → Int32)
def am_rm (d : Nat) : Room := { frames := d + 1, cells := 0, slots := 0, locals := 64 * (d + 1) }
def am_WG : List Cond := lw_tbl.filter goodWord
def am_nest : List Cond := [.methodLinkNest RX5 23 yX9_within "SpeakTubes", .methodLinkNest RX0 121 yX9_takenOf "SpeakTubes", .methodLinkNest RX7 74 yX9_takenOf "SpeakTubes"]
def am_AD (ad : Nat → Nat) : Nat → Prop := fun q => ∃ k, k < am_NP ∧ q = ad k
def LOK (ad : Nat → Nat) (n : Nat) (ls : Array Slot) (lo : List Value) : Prop := ls.size = n ∧ lo.length = n ∧ lv_wf ls ∧ ∀ (i : Nat) (v : Value), lo[i]? = some v → v ≠ Value.null → ls[i]? = some (Slot.val (cvl ad v))
abbrev QQ : Type := Option Value → Mem → LMem → Prop
def QcOf (E : VE) (Q : QQ) : Array Value → State → Outcome → State → Prop := fun _ st o t => (∃ r M L, o = .returned (r.map (cvl E.2.2.1)) ∧ Q r M L ∧ va_P E.2.1 vwCl (wd E.2.2.1 E.2.2.2.1 M L) t.heap) ∧ va_F (am_AD E.2.2.1) st t
/-- the script's place -/
def SCU (E : VE) (U : State) : Prop := (∀ i, i < am_NP → E.2.2.1 i ≠ E.2.2.1 75) ∧ E.2.2.1 75 < U.heap.size ∧ va_X (E.2.2.1 75) E.2.2.2.2.1 E.2.2.2.2.2 U U.heap
/-- the law's own method -/
def LAW : Nat := 93
def Ctx (E : VE) (y : Nat) (p : Program) (s : State) (m : MethodId) (args : Array Value) (meth : Method) (c : Code) : Prop :=
  p.tables.exec = Jvm.exec ∧ c.code = am_B y ∧ meth.sig.returnType = am_R y ∧ c.maxLocals = am_X y ∧ s.vm.findClass (am_C (am_O y)) = some m.cls ∧ (∀ w ∈ am_WG, w.before args s = true) ∧ (∀ w ∈ am_nest, va_Nw w s) ∧ va_K E.2.1 vwCl (am_tys E.2.2.2.1) s ∧ meth.locks = false ∧ (∀ i j, i < am_NP → j < am_NP → E.2.2.1 i = E.2.2.1 j → i = j) ∧ SCU E s ∧ (y = LAW → args = #[.ref (E.2.2.1 75)] ∧ ∀ k, k < am_NP → s.heap.size ≤ E.2.2.1 k)
/-- how a method runs: its room, cells and slots made, its end -/
abbrev MD : Type := Room × Nat × Nat × (VE → QQ → List Frame → Array Value → State → State → Prop)
/-- a method that is called, d calls may stand upon it -/
def nm (d : Nat) : MD := (am_rm d, 0, 0, fun E Q below args s => MQ below (QcOf E Q) args s 0 0 (am_AD E.2.2.1))
/-- the law -/
def rt : MD := (room_1, 600000, 7302250, fun _ _ below args s => lw_Z below args s)
def GG (E : VE) (μ : MD) (y : Nat) (Q : QQ) (p : Program) (e : Env) (s : State) (m : MethodId) (args : Array Value) (below : List Frame) (meth : Method) (c : Code) (pc : Nat) (lo st : List Value) (M : Mem) (L : LMem) : Prop :=
  ∀ (ls : Array Slot) (H : Heap) (locs : List Loc), LOK E.2.2.1 (am_X y) ls lo → va_P E.2.1 vwCl (wd E.2.2.1 E.2.2.2.1 M L) H → va_S (am_AD E.2.2.1) s.heap H locs →
    W p E.1 e μ.1 s m args below meth c H locs μ.2.1 μ.2.2.1 (μ.2.2.2 E Q below args s) (F0 m pc ls (st.map (cvl E.2.2.1)))
/-- FROM HERE THE METHOD COMES TO ITS END, AND Q HOLDS THEN: y's code at pc, locals lo, stack st, memory M, longs L -/
def Wm (E : VE) (μ : MD) (y pc : Nat) (lo st : List Value) (M : Mem) (L : LMem) (Q : QQ) : Prop :=
  ∀ (p : Program) (e : Env) (s : State) (m : MethodId) (args : Array Value) (below : List Frame) (meth : Method) (c : Code), Ctx E y p s m args meth c → GG E μ y Q p e s m args below meth c pc lo st M L
abbrev Wp (E : VE) (d y pc : Nat) (lo st : List Value) (M : Mem) (L : LMem) (Q : QQ) : Prop := Wm E (nm d) y pc lo st M L Q
/-- of the law's own body; what it answers is told by its end -/
def QT : QQ := fun _ _ _ => True
abbrev Wr (E : VE) (pc : Nat) (lo st : List Value) (M : Mem) (L : LMem) : Prop := Wm E rt LAW pc lo st M L QT
/-- a method's first locals -/
def lex : List Value → List Value
  | [] => []
  | .long x :: r => .long x :: .null :: lex r
  | v :: r => v :: lex r
def lpad : Nat → List Value → List Value
  | 0, _ => []
  | n + 1, [] => .null :: lpad n []
  | n + 1, a :: r => a :: lpad n r
end
section
/-! ===== the places and the world ===== -/
theorem am_sh_lt {k : Nat} {x : Nat × List (Option Nat)} (h : am_sh k = .inl x) : k < am_NP := by
  unfold am_sh at h
  cases hb : Nat.blt k am_NP with
  | true => exact Nat.blt_eq.mp hb
  | false => rw [hb] at h; cases h
theorem oci_spec {k ci : Nat} (h : oci k = ci) (hc : ci < 99) : am_sh k = .inl (ci, ofs k) ∧ k < am_NP := by
  unfold oci at h
  unfold ofs
  cases hs : am_sh k with
  | inl x =>
    rw [hs] at h
    exact ⟨by rw [← h], am_sh_lt hs⟩
  | inr x =>
    rw [hs] at h
    have h : 99 = ci := h
    omega
theorem oty_spec {k t : Nat} (h : oty k = t) (hc : t < 5) : am_sh k = .inr (t, oln k) ∧ k < am_NP := by
  unfold oty at h
  unfold oln
  cases hs : am_sh k with
  | inl x =>
    rw [hs] at h
    have h : 99 = t := h
    omega
  | inr x =>
    rw [hs] at h
    refine ⟨by rw [← h], ?_⟩
    unfold am_sh at hs
    cases hb : Nat.blt k am_NP with
    | true => exact Nat.blt_eq.mp hb
    | false =>
      rw [hb] at hs
      have hs : (Sum.inr (99, 0) : (Nat × List (Option Nat)) ⊕ (Nat × Nat)) = .inr x := hs
      cases hs
      have h : 99 = t := h
      omega
theorem wd_get {ad : Nat → Nat} {cA : Nat → ClassId} {M : Mem} {L : LMem} {k : Nat} (h : k < am_NP) : (wd ad cA M L)[k]? = some (ad k, cel ad cA M L k) := by
  simp [wd, h]
theorem wd_len {ad : Nat → Nat} {cA : Nat → ClassId} {M : Mem} {L : LMem} : (wd ad cA M L).length = am_NP := by simp [wd]
theorem wd_none {ad : Nat → Nat} {cA : Nat → ClassId} {M : Mem} {L : LMem} {k : Nat} (h : am_NP ≤ k) : (wd ad cA M L)[k]? = none := by
  rw [List.getElem?_eq_none_iff, wd_len]; exact h
theorem wd_set {ad : Nat → Nat} {cA : Nat → ClassId} {M M' : Mem} {L L' : LMem} {k : Nat} (h : k < am_NP) {e : va_E} (he : e = cel ad cA M' L' k) (hn : ∀ j, j < am_NP → j ≠ k → cel ad cA M' L' j = cel ad cA M L j) : (wd ad cA M L).set k (ad k, e) = wd ad cA M' L' := by
  apply List.ext_getElem?
  intro j
  by_cases hj : j < am_NP
  · by_cases hjk : j = k
    · subst hjk
      rw [List.getElem?_set_self (by rw [wd_len]; exact hj), wd_get hj, he]
    · rw [List.getElem?_set_ne (fun q => hjk q.symm), wd_get hj, wd_get hj, hn j hj hjk]
  · have hj : am_NP ≤ j := Nat.le_of_not_lt hj
    rw [wd_none hj, List.getElem?_eq_none_iff, List.length_set, wd_len]
    exact hj
theorem cel_inl {ad : Nat → Nat} {cA : Nat → ClassId} {M : Mem} {L : LMem} {k : Nat} {x : Nat × List (Option Nat)} (h : am_sh k = .inl x) : cel ad cA M L k = .inr (x.1, (List.range x.2.length).map fun j => cvl ad (fv M k j (lopt x.2 j))) := by
  unfold cel; rw [h]
theorem cel_inr {ad : Nat → Nat} {cA : Nat → ClassId} {M : Mem} {L : LMem} {k : Nat} {x : Nat × Nat} (h : am_sh k = .inr x) : cel ad cA M L k = .inl (cA x.1, x.2, if x.1 = 2 then .inr (.inl L) else if x.1 = 4 then .inr (.inr (.inr (.inr fun i => if i < x.2 then some (ad (k + 1 + i)) else none))) else .inl (M k)) := by
  unfold cel; rw [h]
theorem cel_congr {ad : Nat → Nat} {cA : Nat → ClassId} {M M' : Mem} {L : LMem} {k : Nat} (h : M' k = M k) : cel ad cA M' L k = cel ad cA M L k := by
  cases hs : am_sh k with
  | inl x =>
    rw [cel_inl hs, cel_inl hs]
    have hf : ∀ j o, fv M' k j o = fv M k j o := fun j o => by
      cases o with
      | some t => rfl
      | none => show Value.int _ = Value.int _; rw [h]
    simp only [hf]
  | inr x => rw [cel_inr hs, cel_inr hs, h]
theorem mput_ne {M : Mem} {k i j : Nat} {v : Int32} (h : j ≠ k) : mput M k i v j = M j := by
  funext b
  simp [mput, h]
theorem mput_at {M : Mem} {k i : Nat} {v : Int32} : mput M k i v k = upd (M k) i v := by
  funext b
  simp [mput, upd]
theorem mcpy_ne {M : Mem} {ks kd sp dp n j : Nat} (h : j ≠ kd) : mcpy M ks kd sp dp n j = M j := by
  simp [mcpy, h]
theorem mcpy_at {M : Mem} {ks kd sp dp n : Nat} : mcpy M ks kd sp dp n kd = va_cpy (M ks) (M kd) sp dp n := by
  simp [mcpy]
theorem only_long : ∀ k, k < am_NP → ∀ n, am_sh k = .inr (2, n) → k = 56 := by
  have h : (List.range am_NP).all (fun k => match am_sh k with
    | .inr x => !(Nat.beq x.1 2) || Nat.beq k 56
    | .inl _ => true) = true := by decide +kernel
  intro k hk n hs
  have h1 := List.all_eq_true.mp h k (List.mem_range.mpr hk)
  rw [hs] at h1
  simpa using h1
/-! ===== the locals ===== -/
theorem lset_eq : ∀ (lo : List Value) (i : Nat) (v : Value), lset lo i v = lo.set i v
  | [], _, _ => rfl
  | _ :: _, 0, _ => rfl
  | a :: r, n + 1, v => by
    show a :: lset r n v = a :: r.set n v
    rw [lset_eq r n v]
theorem llt_spec : ∀ (lo : List Value) (i : Nat), llt lo i = true → i < lo.length
  | [], _, h => by cases h
  | _ :: _, 0, _ => Nat.succ_pos _
  | _ :: r, n + 1, h => Nat.succ_lt_succ (llt_spec r n h)
theorem lget_some : ∀ (lo : List Value) (i : Nat) (v : Value), lget lo i = v → v ≠ Value.null → lo[i]? = some v
  | [], _, _, h, hn => absurd h.symm hn
  | _ :: _, 0, _, h, _ => by rw [← h]; rfl
  | _ :: r, n + 1, v, h, hn => by
    rw [List.getElem?_cons_succ]
    exact lget_some r n v h hn
theorem lget_of : ∀ (lo : List Value) (i : Nat) (v : Value), lo[i]? = some v → lget lo i = v
  | [], _, _, h => by simp at h
  | _ :: _, 0, _, h => by cases h; rfl
  | _ :: r, n + 1, v, h => by
    rw [List.getElem?_cons_succ] at h
    exact lget_of r n v h
theorem cvl_cat (ad : Nat → Nat) (v : Value) : (cvl ad v).category = v.category := by cases v <;> rfl
theorem lok_spec {lo : List Value} {i : Nat} (h : lok lo i = true) : i < lo.length ∧ ∀ (j : Nat) (v : Value), j + 1 = i → lo[j]? = some v → ¬ v.category = 2 := by
  cases i with
  | zero => exact ⟨llt_spec _ _ h, fun j v q => by omega⟩
  | succ n =>
    have h : (isC1 (lget lo n) && llt lo (n + 1)) = true := h
    rw [Bool.and_eq_true] at h
    refine ⟨llt_spec _ _ h.2, fun j v q hv => ?_⟩
    have : j = n := by omega
    subst this
    have h1 := h.1
    rw [lget_of _ _ _ hv] at h1
    cases v <;> first | (intro q; cases q; done) | (cases h1)
def aso (ad : Nat → Nat) (lo : List Value) : List (Nat × Value) := (List.range lo.length).filterMap fun i => if lget lo i = Value.null then none else some (i, cvl ad (lget lo i))
theorem aso_mem {ad : Nat → Nat} {lo : List Value} {q : Nat × Value} (h : q ∈ aso ad lo) : ∃ v, lo[q.1]? = some v ∧ v ≠ Value.null ∧ q.2 = cvl ad v := by
  obtain ⟨i, -, hi⟩ := List.mem_filterMap.mp h
  by_cases hn : lget lo i = Value.null
  · rw [if_pos hn] at hi; cases hi
  · rw [if_neg hn] at hi
    cases hi
    exact ⟨_, lget_some _ _ _ rfl hn, hn, rfl⟩
theorem aso_in {ad : Nat → Nat} {lo : List Value} {i : Nat} {v : Value} (h : lo[i]? = some v) (hn : v ≠ Value.null) : (i, cvl ad v) ∈ aso ad lo := by
  refine List.mem_filterMap.mpr ⟨i, List.mem_range.mpr (List.getElem?_eq_some_iff.mp h).1, ?_⟩
  rw [lget_of _ _ _ h, if_neg hn]
theorem LOK.has {ad : Nat → Nat} {n : Nat} {ls : Array Slot} {lo : List Value} (h : LOK ad n ls lo) : lv_has ls n (aso ad lo) := by
  refine ⟨h.1, h.2.2.1, fun q hq => ?_⟩
  obtain ⟨v, h1, h2, h3⟩ := aso_mem hq
  rw [h3]
  exact h.2.2.2 _ _ h1 h2
theorem LOK.at {ad : Nat → Nat} {n : Nat} {ls : Array Slot} {lo : List Value} (h : LOK ad n ls lo) {i : Nat} {v : Value} (hv : lget lo i = v) (hn : v ≠ Value.null) : ls[i]? = some (Slot.val (cvl ad v)) := h.2.2.2 _ _ (lget_some _ _ _ hv hn) hn
theorem LOK.set1 {ad : Nat → Nat} {n : Nat} {ls ls' : Array Slot} {lo : List Value} (h : LOK ad n ls lo) {i : Nat} {v : Value} (hk : lok lo i = true) (h' : lv_has ls' n ((i, cvl ad v) :: (aso ad lo).filter (fun q => !(q.1 == i) && !(q.1 + 1 == i && q.2.category == 2)))) : LOK ad n ls' (lset lo i v) := by
  obtain ⟨hi, hc⟩ := lok_spec hk
  rw [lset_eq]
  refine ⟨h'.1, by rw [List.length_set]; exact h.2.1, h'.2.1, fun j w hw hn => ?_⟩
  by_cases hj : j = i
  · subst hj
    rw [List.getElem?_set_self hi] at hw
    cases hw
    exact h'.2.2 (j, cvl ad v) List.mem_cons_self
  · rw [List.getElem?_set_ne (fun q => hj q.symm)] at hw
    refine h'.2.2 (j, cvl ad w) (List.mem_cons_of_mem _ (List.mem_filter.mpr ⟨aso_in hw hn, ?_⟩))
    have h1 : ¬ (j + 1 = i ∧ (cvl ad w).category = 2) := fun q => hc j w q.1 hw (by rw [← cvl_cat ad w]; exact q.2)
    by_cases h2 : j + 1 = i
    · have h3 : ¬ (cvl ad w).category = 2 := fun q => h1 ⟨h2, q⟩
      simp [hj, h3]
    · simp [hj, h2]
theorem LOK.set2 {ad : Nat → Nat} {n : Nat} {ls ls' : Array Slot} {lo : List Value} (h : LOK ad n ls lo) {i : Nat} {v : Value} (hk : lok lo i = true) (hk2 : llt lo (i + 1) = true) (h' : lv_has ls' n ((i, cvl ad v) :: (aso ad lo).filter (fun q => !(q.1 == i) && (!(q.1 == i + 1) && !(q.1 + 1 == i && q.2.category == 2))))) : LOK ad n ls' (lset (lset lo i v) (i + 1) .null) := by
  obtain ⟨hi, hc⟩ := lok_spec hk
  have hi2 := llt_spec _ _ hk2
  rw [lset_eq, lset_eq]
  refine ⟨h'.1, by rw [List.length_set, List.length_set]; exact h.2.1, h'.2.1, fun j w hw hn => ?_⟩
  by_cases hj2 : j = i + 1
  · subst hj2
    rw [List.getElem?_set_self (by rw [List.length_set]; exact hi2)] at hw
    cases hw
    exact absurd rfl hn
  rw [List.getElem?_set_ne (fun q => hj2 q.symm)] at hw
  by_cases hj : j = i
  · subst hj
    rw [List.getElem?_set_self hi] at hw
    cases hw
    exact h'.2.2 (j, cvl ad v) List.mem_cons_self
  · rw [List.getElem?_set_ne (fun q => hj q.symm)] at hw
    refine h'.2.2 (j, cvl ad w) (List.mem_cons_of_mem _ (List.mem_filter.mpr ⟨aso_in hw hn, ?_⟩))
    have h1 : ¬ (j + 1 = i ∧ (cvl ad w).category = 2) := fun q => hc j w q.1 hw (by rw [← cvl_cat ad w]; exact q.2)
    by_cases h2 : j + 1 = i
    · have h3 : ¬ (cvl ad w).category = 2 := fun q => h1 ⟨h2, q⟩
      simp [hj, hj2, h3]
    · simp [hj, hj2, h2]
theorem csum_eq (ad : Nat → Nat) : ∀ st : List Value, ((st.map (cvl ad)).map fun v => v.category).sum = csum st
  | [] => rfl
  | v :: r => by
    rw [List.map_cons, List.map_cons, List.sum_cons, csum_eq ad r, cvl_cat]
    rfl
/-! ===== the tables ===== -/
theorem am_in {w : Cond} (h : w ∈ lw_tbl) (hg : goodWord w = true) : w ∈ am_WG := List.mem_filter.mpr ⟨h, hg⟩
theorem am_t1 {w : Cond} (h : w ∈ tables_1) : w ∈ lw_tbl := List.mem_append_right (k2_sels lw_privs) h
def am_flok (q : Nat × Nat × Nat × Nat × Nat) : Bool := match vwCl[q.2.2.1]? with
  | some r => decide (tables_1[q.2.2.2.2]? = some (.fieldLink (am_C q.1) q.2.1 (r.2.1 q.2.2.2.1).1 (r.2.1 q.2.2.2.1).2.1 (r.2.1 q.2.2.2.1).2.2.1)) && Nat.blt q.2.2.2.1 r.2.2 && Nat.blt q.2.2.1 11 && Nat.blt q.2.2.2.1 64
  | none => false
set_option maxRecDepth 100000 in
theorem am_FL_ok : am_FL.all am_flok = true := by decide +kernel
set_option maxRecDepth 100000 in
theorem am_CT_ok : am_CT.all (fun q => decide (tables_1[q.2.2.2]? = some (.constant (am_C q.1) q.2.1 (Int32.ofInt q.2.2.1)))) = true := by decide +kernel
set_option maxRecDepth 100000 in
theorem am_CL_ok : am_CL.all (fun q => decide (tables_1[q.2.2.2]? = some (.constantLong (am_C q.1) q.2.1 (Int64.ofNat q.2.2.1)))) = true := by decide +kernel
def am_spN : Nat → MethodName
  | 0 => Lib.Math.max.name
  | 1 => Lib.Math.min.name
  | _ => arraycopyName
set_option maxRecDepth 100000 in
theorem am_SP_ok : am_SP.all (fun q => decide (tables_1[q.2.2.2]? = some (.methodLink (am_C q.1) q.2.1 (am_spN q.2.2.1)) ∧ q.2.2.1 < 3)) = true := by decide +kernel
set_option maxRecDepth 100000 in
theorem am_PF_ok : am_PF.all (fun q => match vwCl[q.1]? with
  | some r => decide ((r.2.1 q.2.1).2.2.2 = false) && decide (parseFieldDescriptor (r.2.1 q.2.1).2.2.1 = some (if q.2.2 = 0 then .int else .boolean))
  | none => false) = true := by decide +kernel
/-! ===== one instruction ===== -/
theorem find_ok {α : Type} {l : List α} {p f : α → Bool} (h : l.all f = true) {x : α} (hx : l.find? p = some x) : f x = true ∧ p x = true := ⟨List.all_eq_true.mp h x (List.mem_of_find?_eq_some hx), List.find?_some hx⟩
theorem am_fl_spec {own i ci k : Nat} (h : am_fl own i = some (ci, k)) : ∃ r : vw_C, vwCl[ci]? = some r ∧ Cond.fieldLink (am_C own) i (r.2.1 k).1 (r.2.1 k).2.1 (r.2.1 k).2.2.1 ∈ am_WG ∧ k < r.2.2 ∧ ci < 11 ∧ k < 64 := by
  unfold am_fl at h
  obtain ⟨q, hq, he⟩ := Option.map_eq_some_iff.mp h
  obtain ⟨h1, h2⟩ := find_ok am_FL_ok hq
  cases he
  simp only [Bool.and_eq_true] at h2
  have e1 := Nat.eq_of_beq_eq_true h2.1
  have e2 := Nat.eq_of_beq_eq_true h2.2
  unfold am_flok at h1
  split at h1
  · rename_i r hr
    simp only [Bool.and_eq_true, decide_eq_true_eq] at h1
    refine ⟨r, hr, ?_, Nat.blt_eq.mp h1.1.1.2, Nat.blt_eq.mp h1.1.2, Nat.blt_eq.mp h1.2⟩
    rw [← e1, ← e2]
    exact am_in (am_t1 (List.mem_of_getElem? h1.1.1.1)) rfl
  · cases h1
theorem am_ct_spec {own i : Nat} {v : Int} (h : am_ct own i = some v) : Cond.constant (am_C own) i (Int32.ofInt v) ∈ am_WG := by
  unfold am_ct at h
  obtain ⟨q, hq, he⟩ := Option.map_eq_some_iff.mp h
  obtain ⟨h1, h2⟩ := find_ok am_CT_ok hq
  cases he
  simp only [Bool.and_eq_true] at h2
  have e1 := Nat.eq_of_beq_eq_true h2.1
  have e2 := Nat.eq_of_beq_eq_true h2.2
  simp only [decide_eq_true_eq] at h1
  rw [← e1, ← e2]
  exact am_in (am_t1 (List.mem_of_getElem? h1)) rfl
theorem am_cl_spec {own i v : Nat} (h : am_cl own i = some v) : Cond.constantLong (am_C own) i (Int64.ofNat v) ∈ am_WG := by
  unfold am_cl am_find3 at h
  obtain ⟨q, hq, he⟩ := Option.map_eq_some_iff.mp h
  obtain ⟨h1, h2⟩ := find_ok am_CL_ok hq
  cases he
  simp only [Bool.and_eq_true] at h2
  have e1 := Nat.eq_of_beq_eq_true h2.1
  have e2 := Nat.eq_of_beq_eq_true h2.2
  simp only [decide_eq_true_eq] at h1
  rw [← e1, ← e2]
  exact am_in (am_t1 (List.mem_of_getElem? h1)) rfl
theorem am_sp_spec {own i w : Nat} (h : am_sp own i = some w) : w < 3 ∧ Cond.methodLink (am_C own) i (am_spN w) ∈ am_WG := by
  unfold am_sp am_find3 at h
  obtain ⟨q, hq, he⟩ := Option.map_eq_some_iff.mp h
  obtain ⟨h1, h2⟩ := find_ok am_SP_ok hq
  cases he
  simp only [Bool.and_eq_true] at h2
  have e1 := Nat.eq_of_beq_eq_true h2.1
  have e2 := Nat.eq_of_beq_eq_true h2.2
  simp only [decide_eq_true_eq] at h1
  refine ⟨h1.2, ?_⟩
  rw [← e1, ← e2]
  exact am_in (am_t1 (List.mem_of_getElem? h1.1)) rfl
theorem am_pf_spec {ci k b : Nat} (h : am_pf ci k = b) (hb : b < 2) {r : vw_C} (hr : vwCl[ci]? = some r) : (r.2.1 k).2.2.2 = false ∧ parseFieldDescriptor (r.2.1 k).2.2.1 = some (if b = 0 then .int else .boolean) := by
  unfold am_pf at h
  split at h
  · rename_i q hq
    obtain ⟨h1, h2⟩ := find_ok am_PF_ok hq
    simp only [Bool.and_eq_true] at h2
    have e1 := Nat.eq_of_beq_eq_true h2.1
    have e2 := Nat.eq_of_beq_eq_true h2.2
    simp only [e1, hr, Bool.and_eq_true, decide_eq_true_eq, e2, h] at h1
    exact h1
  · omega
set_option maxRecDepth 100000 in
theorem am_words : vwCl.all (fun r => (u_ws r.1 r.2.1 r.2.2).all (fun w => decide (w ∈ tables_1) && goodWord w)) = true := by decide +kernel
theorem am_ws {ci : Nat} {r : vw_C} (hr : vwCl[ci]? = some r) : ∀ w ∈ u_ws r.1 r.2.1 r.2.2, w ∈ am_WG := by
  intro w hw
  have h1 := List.all_eq_true.mp (List.all_eq_true.mp am_words r (List.mem_of_getElem? hr)) w hw
  simp only [Bool.and_eq_true, decide_eq_true_eq] at h1
  exact am_in (am_t1 h1.1) h1.2
theorem am_desc : ∀ r ∈ vwCl, (∃ ty0 : Nat → FieldType, ∀ k, k < r.2.2 → parseFieldDescriptor (r.2.1 k).2.2.1 = some (ty0 k)) ∧ ∀ a, a < r.2.2 → ∀ b, b < r.2.2 → a ≠ b → (r.2.1 a).2.1 ≠ (r.2.1 b).2.1 :=
  List.forall_mem_cons.mpr ⟨⟨⟨_, tyX0_ok⟩, nmX0⟩, List.forall_mem_cons.mpr ⟨⟨⟨_, tyX1_ok⟩, nmX1⟩, List.forall_mem_cons.mpr ⟨⟨⟨_, tyX2_ok⟩, nmX2⟩, List.forall_mem_cons.mpr ⟨⟨⟨_, tyX3_ok⟩, nmX3⟩, List.forall_mem_cons.mpr ⟨⟨⟨_, tyX4_ok⟩, nmX4⟩, List.forall_mem_cons.mpr ⟨⟨⟨_, tyX5_ok⟩, nmX5⟩, List.forall_mem_cons.mpr ⟨⟨⟨_, tyX6_ok⟩, nmX6⟩, List.forall_mem_cons.mpr ⟨⟨⟨_, tyX7_ok⟩, nmX7⟩, List.forall_mem_cons.mpr ⟨⟨⟨_, tyX8_ok⟩, nmX8⟩, List.forall_mem_cons.mpr ⟨⟨⟨_, tyX9_ok⟩, nmX9⟩, fun _ h => absurd h List.not_mem_nil⟩⟩⟩⟩⟩⟩⟩⟩⟩⟩
set_option maxRecDepth 100000 in
theorem am_sys : ∀ w ∈ ([.static Lib.Math.max.name, .initialized "java/lang/Math", .code Lib.Math.max.name Lib.Math.max.code 2 (some .int), .static Lib.Math.min.name, .code Lib.Math.min.name Lib.Math.min.code 2 (some .int), .native arraycopyName, .static arraycopyName, .initialized "java/lang/System"] : List Jvm.Cond), w ∈ am_WG := by
  have h : ([.static Lib.Math.max.name, .initialized "java/lang/Math", .code Lib.Math.max.name Lib.Math.max.code 2 (some .int), .static Lib.Math.min.name, .code Lib.Math.min.name Lib.Math.min.code 2 (some .int), .native arraycopyName, .static arraycopyName, .initialized "java/lang/System"] : List Jvm.Cond).all (fun w => decide (w ∈ tables_1) && goodWord w) = true := by decide +kernel
  intro w hw
  have h1 := List.all_eq_true.mp h w hw
  simp only [Bool.and_eq_true, decide_eq_true_eq] at h1
  exact am_in (am_t1 h1.1) h1.2
theorem am_D {ad : Nat → Nat} {cA : Nat → ClassId} {M : Mem} {L : LMem} (hinj : ∀ i j, i < am_NP → j < am_NP → ad i = ad j → i = j) : va_D (am_AD ad) (wd ad cA M L) := by
  have key : ∀ (k : Nat) (q : Nat × va_E), (wd ad cA M L)[k]? = some q → k < am_NP ∧ q.1 = ad k := by
    intro k q hk
    have hl : k < am_NP := by
      have := (List.getElem?_eq_some_iff.mp hk).1
      rwa [wd_len] at this
    rw [wd_get hl] at hk
    cases hk
    exact ⟨hl, rfl⟩
  refine ⟨fun i j x z hi hj hxz => ?_, fun k q hk => ?_⟩
  · obtain ⟨h1, h2⟩ := key i x hi
    obtain ⟨h3, h4⟩ := key j z hj
    exact hinj i j h1 h3 (h2.symm.trans (hxz.trans h4))
  · obtain ⟨h1, h2⟩ := key k q hk
    exact ⟨k, h1, h2⟩
end
section
/-! ===== an instruction of the abstract machine is one of the real one ===== -/
section STEP
variable {E : VE} {μ : MD} {y pc : Nat} {Q : QQ} {p : Program} {e : Env} {s : State} {m : MethodId} {args : Array Value} {below : List Frame} {meth : Method} {c : Code} {lo st : List Value} {M : Mem} {L : LMem}
theorem am_cl_lt {ci : Nat} {r : vw_C} (h : vwCl[ci]? = some r) : r ∈ vwCl := List.mem_of_getElem? h
theorem gx_get (C : Ctx E y p s m args meth c) {i n : Nat} (hd : decode (am_B y) pc = .ok (.getfield i, 3)) (hr : am_fl (am_O y) i = some (n / 64, n % 64)) {k : Nat} (h1 : oci k = n / 64) (h2 : n % 64 < (ofs k).length)
    (hk : GG E μ y Q p e s m args below meth c (pc + 3) lo (fv M k (n % 64) (lopt (ofs k) (n % 64)) :: st) M L) : GG E μ y Q p e s m args below meth c pc lo (.ref k :: st) M L := by
  intro ls H locs hl hP hS
  obtain ⟨hx, hb, -, -, hown, hts, -, hK, -, -, -⟩ := C
  obtain ⟨r, hr1, hw, hlt, hci, -⟩ := am_fl_spec hr
  obtain ⟨hs, hkN⟩ := oci_spec h1 (by omega)
  refine va_get (D := E.2.1) (ci := n / 64) (a := E.2.2.1 k) (ws := wd E.2.2.1 E.2.2.2.1 M L) (cl := vwCl) (tys := am_tys E.2.2.2.1) (C := r.1) (T := r.2.1) (N := r.2.2) hx hb hts (am_ws hr1) hown hK hP k (by rw [wd_get hkN, cel_inl hs]) hr1 (n % 64) hlt (hts _ hw) (fun _ h9 => h9) (v := cvl E.2.2.1 (fv M k (n % 64) (lopt (ofs k) (n % 64)))) ?_ hd (hk ls H locs hl hP hS)
  rw [List.getElem?_map, List.getElem?_range h2]
  rfl
theorem gx_put (C : Ctx E y p s m args meth c) {i n b : Nat} (hd : decode (am_B y) pc = .ok (.putfield i, 3)) (hr : am_fl (am_O y) i = some (n / 64, n % 64)) {k : Nat} {x : Int32} (h1 : oci k = n / 64) (h2 : n % 64 < (ofs k).length) (h3 : lopt (ofs k) (n % 64) = none) (h4 : am_pf (n / 64) (n % 64) = b) (hb2 : b < 2) (hx01 : b = 1 → x = 0 ∨ x = 1)
    (hk : GG E μ y Q p e s m args below meth c (pc + 3) lo st (mput M k (n % 64) x) L) : GG E μ y Q p e s m args below meth c pc lo (.int x :: .ref k :: st) M L := by
  intro ls H locs hl hP hS
  obtain ⟨hx, hb, -, -, hown, hts, -, hK, -, hinj, -⟩ := C
  obtain ⟨r, hr1, hw, hlt, hci, -⟩ := am_fl_spec hr
  obtain ⟨hs, hkN⟩ := oci_spec h1 (by omega)
  obtain ⟨hfin, hty⟩ := am_pf_spec h4 hb2 hr1
  obtain ⟨⟨ty0, hty0⟩, hnm⟩ := am_desc r (am_cl_lt hr1)
  have hD : va_D (am_AD E.2.2.1) (wd E.2.2.1 E.2.2.2.1 M L) := am_D hinj
  have hv : narrow (if b = 0 then .int else .boolean) (.int x) = .int x ∧ fits (if b = 0 then .int else .boolean) (.int x) = true := by
    by_cases hb0 : b = 0
    · rw [if_pos hb0]; exact ⟨rfl, rfl⟩
    · rw [if_neg hb0]
      rcases hx01 (by omega) with rfl | rfl <;> exact ⟨by decide, by decide⟩
  refine va_put (D := E.2.1) (ci := n / 64) (a := E.2.2.1 k) (ws := wd E.2.2.1 E.2.2.2.1 M L) (cl := vwCl) (tys := am_tys E.2.2.2.1) (C := r.1) (T := r.2.1) (N := r.2.2) (v := .int x) hx hb hts (am_ws hr1) ty0 hty0 hnm hown hK hP hD hS k (by rw [wd_get hkN, cel_inl hs]) hr1 (n % 64) hlt (hts _ hw) (fun _ h9 => h9) hfin hty hv.1 hv.2 (by rw [List.length_map, List.length_range]; exact h2) hd (fun H1 locs1 hP1 hD1 hS1 => ?_)
  have he : (wd E.2.2.1 E.2.2.2.1 M L).set k (E.2.2.1 k, .inr (n / 64, ((List.range (ofs k).length).map fun j => cvl E.2.2.1 (fv M k j (lopt (ofs k) j))).set (n % 64) (.int x))) = wd E.2.2.1 E.2.2.2.1 (mput M k (n % 64) x) L := by
    refine wd_set hkN ?_ (fun j _ hj => cel_congr (mput_ne hj))
    rw [cel_inl hs]
    refine congrArg Sum.inr (congrArg (Prod.mk (n / 64)) (List.ext_getElem? fun j => ?_))
    by_cases hj : j < (ofs k).length
    · by_cases hjn : j = n % 64
      · subst hjn
        rw [List.getElem?_set_self (by rw [List.length_map, List.length_range]; exact hj), List.getElem?_map]
        show some (Value.int x) = ((List.range (ofs k).length)[n % 64]?).map (fun j => cvl E.2.2.1 (fv (mput M k (n % 64) x) k j (lopt (ofs k) j)))
        rw [List.getElem?_range hj]
        show some (Value.int x) = some (cvl E.2.2.1 (fv (mput M k (n % 64) x) k (n % 64) (lopt (ofs k) (n % 64))))
        rw [h3]
        simp [fv, mput, cvl]
      · rw [List.getElem?_set_ne (fun q => hjn q.symm), List.getElem?_map, List.getElem?_map]
        show ((List.range (ofs k).length)[j]?).map _ = ((List.range (ofs k).length)[j]?).map (fun j => cvl E.2.2.1 (fv (mput M k (n % 64) x) k j (lopt (ofs k) j)))
        rw [List.getElem?_range hj]
        have hf : fv (mput M k (n % 64) x) k j (lopt (ofs k) j) = fv M k j (lopt (ofs k) j) := by
          cases lopt (ofs k) j with
          | some t => rfl
          | none => show Value.int _ = Value.int _; simp [mput, hjn]
        simp only [Option.map_some, hf]
    · have hj : (ofs k).length ≤ j := Nat.le_of_not_lt hj
      rw [List.getElem?_eq_none_iff.mpr (by simpa using hj), List.getElem?_eq_none_iff.mpr (by simpa using hj)]
  have hP2 : va_P E.2.1 vwCl ((wd E.2.2.1 E.2.2.2.1 M L).set k (E.2.2.1 k, .inr (n / 64, ((List.range (ofs k).length).map fun j => cvl E.2.2.1 (fv M k j (lopt (ofs k) j))).set (n % 64) (.int x)))) H1 := hP1
  rw [he] at hP2
  exact hk ls H1 locs1 hl hP2 hS1
theorem am_int {k : Nat} {t : Nat} (h : oty k = t) (ht : t < 5) (h2 : ¬ t = 2) (h4 : ¬ t = 4) {ad : Nat → Nat} {cA : Nat → ClassId} {M : Mem} {L : LMem} : cel ad cA M L k = .inl (cA t, oln k, .inl (M k)) := by
  rw [cel_inr (oty_spec h ht).1]
  simp only [h2, h4, if_false]
theorem am_get_int {k t : Nat} (h : oty k = t) (ht : t < 5) (h2 : ¬ t = 2) (h4 : ¬ t = 4) {ad : Nat → Nat} {cA : Nat → ClassId} {M : Mem} {L : LMem} : (wd ad cA M L)[k]? = some (ad k, .inl (cA t, oln k, .inl (M k))) := by
  rw [wd_get (oty_spec h ht).2, am_int h ht h2 h4]
theorem gx_iald (C : Ctx E y p s m args meth c) (hd : decode (am_B y) pc = .ok (.iaload, 1)) {k : Nat} {i : Int32} (ha : aok k 0 i)
    (hk : GG E μ y Q p e s m args below meth c (pc + 1) lo (.int (M k i.toNatClampNeg) :: st) M L) : GG E μ y Q p e s m args below meth c pc lo (.int i :: .ref k :: st) M L := by
  intro ls H locs hl hP hS
  obtain ⟨hx, hb, -, -, hown, hts, -, hK, -, -, -⟩ := C
  exact va_iald (D := E.2.1) (a := E.2.2.1 k) (cl := vwCl) (tys := am_tys E.2.2.2.1) hx hb hK hP k 0 (am_get_int ha.1 (by decide) (by decide) (by decide)) rfl ha.2 hd (hk ls H locs hl hP hS)
theorem gx_bald (C : Ctx E y p s m args meth c) (hd : decode (am_B y) pc = .ok (.baload, 1)) {k : Nat} {i : Int32} (ha : aok k 1 i ∨ aok k 3 i)
    (hk : GG E μ y Q p e s m args below meth c (pc + 1) lo (.int (M k i.toNatClampNeg) :: st) M L) : GG E μ y Q p e s m args below meth c pc lo (.int i :: .ref k :: st) M L := by
  intro ls H locs hl hP hS
  obtain ⟨hx, hb, -, -, hown, hts, -, hK, -, -, -⟩ := C
  rcases ha with ha | ha
  · exact va_zald (D := E.2.1) (a := E.2.2.1 k) (cl := vwCl) (tys := am_tys E.2.2.2.1) hx hb hK hP k 1 (am_get_int ha.1 (by decide) (by decide) (by decide)) rfl ha.2 hd (hk ls H locs hl hP hS)
  · exact va_bald (D := E.2.1) (a := E.2.2.1 k) (cl := vwCl) (tys := am_tys E.2.2.2.1) hx hb hK hP k 3 (am_get_int ha.1 (by decide) (by decide) (by decide)) rfl ha.2 hd (hk ls H locs hl hP hS)
theorem gx_lald (C : Ctx E y p s m args meth c) (hd : decode (am_B y) pc = .ok (.laload, 1)) {k : Nat} {i : Int32} (ha : aok k 2 i)
    (hk : GG E μ y Q p e s m args below meth c (pc + 1) lo (.long (L i.toNatClampNeg) :: st) M L) : GG E μ y Q p e s m args below meth c pc lo (.int i :: .ref k :: st) M L := by
  intro ls H locs hl hP hS
  obtain ⟨hx, hb, -, -, hown, hts, -, hK, -, -, -⟩ := C
  exact va_lald (D := E.2.1) (a := E.2.2.1 k) (cl := vwCl) (tys := am_tys E.2.2.2.1) (f := L) hx hb hK hP k 2 (by rw [wd_get (oty_spec ha.1 (by decide)).2, cel_inr (oty_spec ha.1 (by decide)).1]; rfl) rfl ha.2 hd (hk ls H locs hl hP hS)
theorem gx_aald (C : Ctx E y p s m args meth c) (hd : decode (am_B y) pc = .ok (.aaload, 1)) {k : Nat} {i : Int32} (ha : aok k 4 i)
    (hk : GG E μ y Q p e s m args below meth c (pc + 1) lo (.ref (k + 1 + i.toNatClampNeg) :: st) M L) : GG E μ y Q p e s m args below meth c pc lo (.int i :: .ref k :: st) M L := by
  intro ls H locs hl hP hS
  obtain ⟨hx, hb, -, -, hown, hts, -, hK, -, -, -⟩ := C
  obtain ⟨hs, hkN⟩ := oty_spec ha.1 (by decide)
  have hlt : i.toNatClampNeg < oln k := Nat.not_le.mp fun q => ha.2 (Or.inr q)
  have hcell := hP k _ (wd_get hkN)
  rw [cel_inr hs] at hcell
  have hcell : H[E.2.2.1 k]? = some (vp_cell (E.2.2.2.1 4) (oln k, .inr (.inr (.inr (.inr fun i => if i < oln k then some (E.2.2.1 (k + 1 + i)) else none))))) := hcell
  exact W.aald (v := .ref (E.2.2.1 (k + 1 + i.toNatClampNeg))) (ty := .array .int) hx hb hcell ((hK.2 4 _ rfl).1 (oln k) (fun j => va_rf (if j < oln k then some (E.2.2.1 (k + 1 + j)) else none))) rfl (fun q => by cases q) (by show ¬ (i < 0 ∨ (arrV _ _ _).slots.size ≤ _); rw [arrV_size]; exact ha.2) (by show (arrV _ _ _).slots[_]? = _; rw [arrV_read _ _ hlt]; show some (va_rf (if i.toNatClampNeg < oln k then _ else none)) = _; rw [if_pos hlt]; rfl) rfl rfl hd (hk ls H locs hl hP hS)
theorem set_int {k t : Nat} (h : oty k = t) (ht : t < 5) (h2 : ¬ t = 2) (h4 : ¬ t = 4) {ad : Nat → Nat} {cA : Nat → ClassId} {M M' : Mem} {L : LMem} {f : Nat → Int32} (hf : M' k = f) (hn : ∀ j, j ≠ k → M' j = M j) : (wd ad cA M L).set k (ad k, .inl (cA t, oln k, .inl f)) = wd ad cA M' L :=
  wd_set (oty_spec h ht).2 (by rw [am_int h ht h2 h4, hf]) (fun j _ hj => cel_congr (hn j hj))
theorem gx_iast (C : Ctx E y p s m args meth c) (hd : decode (am_B y) pc = .ok (.iastore, 1)) {k : Nat} {i x : Int32} (ha : aok k 0 i)
    (hk : GG E μ y Q p e s m args below meth c (pc + 1) lo st (mput M k i.toNatClampNeg x) L) : GG E μ y Q p e s m args below meth c pc lo (.int x :: .int i :: .ref k :: st) M L := by
  intro ls H locs hl hP hS
  obtain ⟨hx, hb, -, -, hown, hts, -, hK, -, hinj, -⟩ := C
  refine va_iast (D := E.2.1) (a := E.2.2.1 k) (cl := vwCl) (tys := am_tys E.2.2.2.1) hx hb hK hP (am_D hinj) hS k 0 (am_get_int ha.1 (by decide) (by decide) (by decide)) rfl ha.2 hd (fun H1 locs1 hP1 hD1 hS1 => ?_)
  have h7 := hP1
  rw [set_int (M' := mput M k i.toNatClampNeg x) ha.1 (by decide) (by decide) (by decide) mput_at (fun j hj => mput_ne hj)] at h7
  exact hk ls H1 locs1 hl h7 hS1
theorem gx_zast (C : Ctx E y p s m args meth c) (hd : decode (am_B y) pc = .ok (.bastore, 1)) {k : Nat} {i x : Int32} (ha : aok k 1 i)
    (hk : GG E μ y Q p e s m args below meth c (pc + 1) lo st (mput M k i.toNatClampNeg (vp_nar .boolean x)) L) : GG E μ y Q p e s m args below meth c pc lo (.int x :: .int i :: .ref k :: st) M L := by
  intro ls H locs hl hP hS
  obtain ⟨hx, hb, -, -, hown, hts, -, hK, -, hinj, -⟩ := C
  refine va_zast (D := E.2.1) (a := E.2.2.1 k) (cl := vwCl) (tys := am_tys E.2.2.2.1) hx hb hK hP (am_D hinj) hS k 1 (am_get_int ha.1 (by decide) (by decide) (by decide)) rfl ha.2 hd (fun H1 locs1 hP1 hD1 hS1 => ?_)
  have h7 := hP1
  rw [set_int (M' := mput M k i.toNatClampNeg (vp_nar .boolean x)) ha.1 (by decide) (by decide) (by decide) mput_at (fun j hj => mput_ne hj)] at h7
  exact hk ls H1 locs1 hl h7 hS1
theorem gx_bast (C : Ctx E y p s m args meth c) (hd : decode (am_B y) pc = .ok (.bastore, 1)) {k : Nat} {i x : Int32} (ha : aok k 3 i)
    (hk : GG E μ y Q p e s m args below meth c (pc + 1) lo st (mput M k i.toNatClampNeg (vp_nar .byte x)) L) : GG E μ y Q p e s m args below meth c pc lo (.int x :: .int i :: .ref k :: st) M L := by
  intro ls H locs hl hP hS
  obtain ⟨hx, hb, -, -, hown, hts, -, hK, -, hinj, -⟩ := C
  refine va_bast (D := E.2.1) (a := E.2.2.1 k) (cl := vwCl) (tys := am_tys E.2.2.2.1) hx hb hK hP (am_D hinj) hS k 3 (am_get_int ha.1 (by decide) (by decide) (by decide)) rfl ha.2 hd (fun H1 locs1 hP1 hD1 hS1 => ?_)
  have h7 := hP1
  rw [set_int (M' := mput M k i.toNatClampNeg (vp_nar .byte x)) ha.1 (by decide) (by decide) (by decide) mput_at (fun j hj => mput_ne hj)] at h7
  exact hk ls H1 locs1 hl h7 hS1
theorem gx_last (C : Ctx E y p s m args meth c) (hd : decode (am_B y) pc = .ok (.lastore, 1)) {k : Nat} {i : Int32} {x : Int64} (ha : aok k 2 i)
    (hk : GG E μ y Q p e s m args below meth c (pc + 1) lo st M (vp_updL L i.toNatClampNeg x)) : GG E μ y Q p e s m args below meth c pc lo (.long x :: .int i :: .ref k :: st) M L := by
  intro ls H locs hl hP hS
  obtain ⟨hx, hb, -, -, hown, hts, -, hK, -, hinj, -⟩ := C
  obtain ⟨hs, hkN⟩ := oty_spec ha.1 (by decide)
  refine va_last (D := E.2.1) (a := E.2.2.1 k) (cl := vwCl) (tys := am_tys E.2.2.2.1) (f := L) hx hb hK hP (am_D hinj) hS k 2 (by rw [wd_get hkN, cel_inr hs]; rfl) rfl ha.2 hd (fun H1 locs1 hP1 hD1 hS1 => ?_)
  have h7 := hP1
  rw [wd_set (M' := M) (L' := vp_updL L i.toNatClampNeg x) hkN (by rw [cel_inr hs]; rfl) (fun j hjN hj => ?_)] at h7
  · exact hk ls H1 locs1 hl h7 hS1
  · have hk56 := only_long k hkN _ hs
    cases hq : am_sh j with
    | inl z => rw [cel_inl hq, cel_inl hq]
    | inr z =>
      rw [cel_inr hq, cel_inr hq]
      have : ¬ z.1 = 2 := fun h => hj (by
        obtain ⟨z1, z2⟩ := z
        have h : z1 = 2 := h
        subst h
        rw [only_long j hjN _ hq, hk56])
      simp only [this, if_false]
theorem gx_alen (C : Ctx E y p s m args meth c) (hd : decode (am_B y) pc = .ok (.arraylength, 1)) {k : Nat} (ha : oty k < 5)
    (hk : GG E μ y Q p e s m args below meth c (pc + 1) lo (.int (Int32.ofNat (oln k)) :: st) M L) : GG E μ y Q p e s m args below meth c pc lo (.ref k :: st) M L := by
  intro ls H locs hl hP hS
  obtain ⟨hx, hb, -, -, hown, hts, -, hK, -, -, -⟩ := C
  obtain ⟨hs, hkN⟩ := oty_spec rfl ha
  have ht : (am_tys E.2.2.2.1)[oty k]? = some (E.2.2.2.1 (oty k), ([.int, .boolean, .long, .byte, .array .int] : List FieldType).getD (oty k) .int) := by
    revert ha
    generalize oty k = t
    intro ha
    match t, ha with
    | 0, _ => rfl
    | 1, _ => rfl
    | 2, _ => rfl
    | 3, _ => rfl
    | 4, _ => rfl
  exact va_alen (D := E.2.1) (a := E.2.2.1 k) (cl := vwCl) (tys := am_tys E.2.2.2.1) (x := (oln k, if oty k = 2 then .inr (.inl L) else if oty k = 4 then .inr (.inr (.inr (.inr fun i => if i < oln k then some (E.2.2.1 (k + 1 + i)) else none))) else .inl (M k))) hx hb hK hP k (oty k) (by rw [wd_get hkN, cel_inr hs]) ht rfl hd (hk ls H locs hl hP hS)
theorem gx_copy {d : Nat} (C : Ctx E y p s m args meth c) {i : Nat} (hd : decode (am_B y) pc = .ok (.invokestatic i, 3)) (hr : am_sp (am_O y) i = some 2) {ks kd : Nat} {sp dp n : Int32} (h1 : oty ks = 0) (h2 : oty kd = 0) (h3 : ¬ sp < 0) (h4 : ¬ dp < 0) (h5 : ¬ n < 0) (h6 : sp.toNatClampNeg + n.toNatClampNeg ≤ oln ks) (h7 : dp.toNatClampNeg + n.toNatClampNeg ≤ oln kd) (hc8 : csum st ≤ 8)
    (hk : GG E (nm d) y Q p e s m args below meth c (pc + 3) lo st (mcpy M ks kd sp.toNatClampNeg dp.toNatClampNeg n.toNatClampNeg) L) : GG E (nm d) y Q p e s m args below meth c pc lo (.int n :: .int dp :: .ref kd :: .int sp :: .ref ks :: st) M L := by
  intro ls H locs hl hP hS
  obtain ⟨hx, hb, -, hml, hown, hts, -, hK, -, hinj, -⟩ := C
  refine va_copyi (D := E.2.1) (cl := vwCl) (tys := am_tys E.2.2.2.1) (ty := .int) hx hb (by rw [hml, hl.1]) hown (hts _ (am_sp_spec hr).2) (hts _ (am_sys _ (by simp))) (hts _ (am_sys _ (by simp))) (hts _ (am_sys _ (by simp))) hK hP (am_D hinj) hS ks kd 0 0 (am_get_int h1 (by decide) (by decide) (by decide)) (am_get_int h2 (by decide) (by decide) (by decide)) rfl rfl rfl h3 h4 h5 h6 h7 (fun _ _ => rfl) (Nat.succ_pos _) ?_ hd (fun H1 locs1 hP1 hD1 hS1 => ?_)
  · rw [csum_eq]
    show csum st + (nativeFrameWords "java/lang/System" "arraycopy" 5 + 11) ≤ 64 * (d + 1)
    have : nativeFrameWords "java/lang/System" "arraycopy" 5 = 7 := by decide +kernel
    omega
  · have h8 := hP1
    rw [set_int (M' := mcpy M ks kd sp.toNatClampNeg dp.toNatClampNeg n.toNatClampNeg) h2 (by decide) (by decide) (by decide) mcpy_at (fun j hj => mcpy_ne hj)] at h8
    exact hk ls H1 locs1 hl h8 hS1
end STEP
end
section
/-! ===== straight stretches ===== -/
section SEG
variable {E : VE} {μ : MD} {y pc : Nat} {Q : QQ} {p : Program} {e : Env} {s : State} {m : MethodId} {args : Array Value} {below : List Frame} {meth : Method} {c : Code} {lo st : List Value} {M : Mem} {L : LMem}
/-- no method of the library's own -/
def nosp : Instr → Bool
  | .invokestatic _ => false
  | _ => true
set_option maxHeartbeats 4000000 in
theorem ex_sound (C : Ctx E y p s m args meth c) {j i : Instr} {len : Nat} (hd : decode (am_B y) pc = .ok (j, len)) (hr : am_res (am_O y) j = some (i, len)) {K : KK} (h : ex i lo st M L K) (hm : (∃ d, μ = nm d) ∨ nosp i = true)
    (hk : ∀ lo st M L, K lo st M L → GG E μ y Q p e s m args below meth c (pc + len) lo st M L) : GG E μ y Q p e s m args below meth c pc lo st M L := by
  have hx := C.1
  have hb := C.2.1
  have hml := C.2.2.2.1
  have hown := C.2.2.2.2.1
  have hts := C.2.2.2.2.2.1
  cases j with
  | iconst n =>
    cases hr
    intro ls H locs hl hP hS
    exact lv_iconst hx hb hd rfl (hk _ _ _ _ h ls H locs hl hP hS)
  | bipush n =>
    simp only [am_res] at hr
    split at hr
    · rename_i hq
      cases hr
      intro ls H locs hl hP hS
      exact lv_bipush hx hb hd hq (hk _ _ _ _ h ls H locs hl hP hS)
    · cases hr
  | sipush n =>
    simp only [am_res] at hr
    split at hr
    · rename_i hq
      cases hr
      intro ls H locs hl hP hS
      exact lv_sipush hx hb hd hq (hk _ _ _ _ h ls H locs hl hP hS)
    · cases hr
  | ldc i =>
    obtain ⟨v, hv, he⟩ := Option.map_eq_some_iff.mp hr
    cases he
    intro ls H locs hl hP hS
    exact lv_ldc hx hb hown (hts _ (am_ct_spec hv)) hd (hk _ _ _ _ h ls H locs hl hP hS)
  | ldc_w i =>
    obtain ⟨v, hv, he⟩ := Option.map_eq_some_iff.mp hr
    cases he
    intro ls H locs hl hP hS
    exact lv_ldcw hx hb hown (hts _ (am_ct_spec hv)) hd (hk _ _ _ _ h ls H locs hl hP hS)
  | ldc2_w i => exact absurd hr (by simp [am_res, am_cl, am_find3, am_CL])
  | lconst n =>
    cases hr
    intro ls H locs hl hP hS
    exact lv_lconst hx hb hd rfl (hk _ _ _ _ h ls H locs hl hP hS)
  | iload_n k =>
    cases hr
    obtain ⟨x, hx1, h⟩ := isI_inv h
    intro ls H locs hl hP hS
    exact lv_iload_n hx hb hd rfl (hl.at hx1 (by intro q; cases q)) (hk _ _ _ _ h ls H locs hl hP hS)
  | iload k =>
    cases hr
    obtain ⟨x, hx1, h⟩ := isI_inv h
    intro ls H locs hl hP hS
    exact lv_iload hx hb hd (hl.at hx1 (by intro q; cases q)) (hk _ _ _ _ h ls H locs hl hP hS)
  | aload_n k =>
    cases hr
    obtain ⟨x, hx1, h⟩ := isR_inv h
    intro ls H locs hl hP hS
    exact lv_aload_n hx hb hd rfl (hl.at hx1 (by intro q; cases q)) (hk _ _ _ _ h ls H locs hl hP hS)
  | aload k =>
    cases hr
    obtain ⟨x, hx1, h⟩ := isR_inv h
    intro ls H locs hl hP hS
    exact lv_aload hx hb hd (hl.at hx1 (by intro q; cases q)) (hk _ _ _ _ h ls H locs hl hP hS)
  | lload_n k =>
    cases hr
    obtain ⟨x, hx1, h⟩ := isJ_inv h
    intro ls H locs hl hP hS
    exact lv_lload_n hx hb hd rfl (hl.at hx1 (by intro q; cases q)) (hk _ _ _ _ h ls H locs hl hP hS)
  | lload k =>
    cases hr
    obtain ⟨x, hx1, h⟩ := isJ_inv h
    intro ls H locs hl hP hS
    exact lv_lload hx hb hd (hl.at hx1 (by intro q; cases q)) (hk _ _ _ _ h ls H locs hl hP hS)
  | istore_n k =>
    cases hr
    obtain ⟨x, st, rfl, h⟩ := pI_inv h
    obtain ⟨hq, h⟩ := bif_inv h
    intro ls H locs hl hP hS
    exact lv_istore_n hx hb hd rfl hl.has (by rw [← hl.2.1]; exact (lok_spec hq).1) rfl (fun ls' hl' => hk _ _ _ _ h ls' H locs (hl.set1 hq hl') hP hS)
  | istore k =>
    cases hr
    obtain ⟨x, st, rfl, h⟩ := pI_inv h
    obtain ⟨hq, h⟩ := bif_inv h
    intro ls H locs hl hP hS
    exact lv_istore hx hb hd hl.has (by rw [← hl.2.1]; exact (lok_spec hq).1) rfl (fun ls' hl' => hk _ _ _ _ h ls' H locs (hl.set1 hq hl') hP hS)
  | astore_n k =>
    cases hr
    obtain ⟨x, st, rfl, h⟩ := pR_inv h
    obtain ⟨hq, h⟩ := bif_inv h
    intro ls H locs hl hP hS
    exact lv_astore_n hx hb hd rfl hl.has (by rw [← hl.2.1]; exact (lok_spec hq).1) rfl (fun ls' hl' => hk _ _ _ _ h ls' H locs (hl.set1 hq hl') hP hS)
  | astore k =>
    cases hr
    obtain ⟨x, st, rfl, h⟩ := pR_inv h
    obtain ⟨hq, h⟩ := bif_inv h
    intro ls H locs hl hP hS
    exact lv_astore hx hb hd hl.has (by rw [← hl.2.1]; exact (lok_spec hq).1) rfl (fun ls' hl' => hk _ _ _ _ h ls' H locs (hl.set1 hq hl') hP hS)
  | lstore_n k =>
    cases hr
    obtain ⟨x, st, rfl, h⟩ := pJ_inv h
    obtain ⟨hq, h⟩ := bif_inv h
    rw [Bool.and_eq_true] at hq
    intro ls H locs hl hP hS
    exact lv_lstore_n hx hb hd rfl hl.has (by rw [← hl.2.1]; exact llt_spec _ _ hq.2) rfl (fun ls' hl' => hk _ _ _ _ h ls' H locs (hl.set2 hq.1 hq.2 hl') hP hS)
  | lstore k =>
    cases hr
    obtain ⟨x, st, rfl, h⟩ := pJ_inv h
    obtain ⟨hq, h⟩ := bif_inv h
    rw [Bool.and_eq_true] at hq
    intro ls H locs hl hP hS
    exact lv_lstore hx hb hd hl.has (by rw [← hl.2.1]; exact llt_spec _ _ hq.2) rfl (fun ls' hl' => hk _ _ _ _ h ls' H locs (hl.set2 hq.1 hq.2 hl') hP hS)
  | iinc i n =>
    cases hr
    obtain ⟨x, hx1, h⟩ := isI_inv h
    obtain ⟨hq, h⟩ := bif_inv h
    intro ls H locs hl hP hS
    obtain ⟨k, hk1⟩ := List.getElem?_of_mem (aso_in (ad := E.2.2.1) (lget_some _ _ _ hx1 (by intro q; cases q)) (by intro q; cases q))
    exact lv_iinc hx hb hd hl.has hk1 rfl (by rw [← hl.2.1]; exact (lok_spec hq).1) rfl (fun ls' hl' => hk _ _ _ _ h ls' H locs (hl.set1 hq hl') hP hS)
  | iadd =>
    cases hr
    obtain ⟨v1, st, rfl, h⟩ := pI_inv h
    obtain ⟨v2, st, rfl, h⟩ := pI_inv h
    intro ls H locs hl hP hS
    exact lv_iadd hx hb hd (hk _ _ _ _ h ls H locs hl hP hS)
  | isub =>
    cases hr
    obtain ⟨v1, st, rfl, h⟩ := pI_inv h
    obtain ⟨v2, st, rfl, h⟩ := pI_inv h
    intro ls H locs hl hP hS
    exact lv_isub hx hb hd (hk _ _ _ _ h ls H locs hl hP hS)
  | imul =>
    cases hr
    obtain ⟨v1, st, rfl, h⟩ := pI_inv h
    obtain ⟨v2, st, rfl, h⟩ := pI_inv h
    intro ls H locs hl hP hS
    exact lv_imul hx hb hd (hk _ _ _ _ h ls H locs hl hP hS)
  | iand =>
    cases hr
    obtain ⟨v1, st, rfl, h⟩ := pI_inv h
    obtain ⟨v2, st, rfl, h⟩ := pI_inv h
    intro ls H locs hl hP hS
    exact lv_iand hx hb hd (hk _ _ _ _ h ls H locs hl hP hS)
  | ior =>
    cases hr
    obtain ⟨v1, st, rfl, h⟩ := pI_inv h
    obtain ⟨v2, st, rfl, h⟩ := pI_inv h
    intro ls H locs hl hP hS
    exact lv_ior hx hb hd (hk _ _ _ _ h ls H locs hl hP hS)
  | ixor =>
    cases hr
    obtain ⟨v1, st, rfl, h⟩ := pI_inv h
    obtain ⟨v2, st, rfl, h⟩ := pI_inv h
    intro ls H locs hl hP hS
    exact lv_ixor hx hb hd (hk _ _ _ _ h ls H locs hl hP hS)
  | ishl =>
    cases hr
    obtain ⟨v1, st, rfl, h⟩ := pI_inv h
    obtain ⟨v2, st, rfl, h⟩ := pI_inv h
    intro ls H locs hl hP hS
    exact lv_ishl hx hb hd (hk _ _ _ _ h ls H locs hl hP hS)
  | ishr =>
    cases hr
    obtain ⟨v1, st, rfl, h⟩ := pI_inv h
    obtain ⟨v2, st, rfl, h⟩ := pI_inv h
    intro ls H locs hl hP hS
    exact lv_ishr hx hb hd (hk _ _ _ _ h ls H locs hl hP hS)
  | idiv =>
    cases hr
    obtain ⟨v1, st, rfl, h⟩ := pI_inv h
    obtain ⟨v2, st, rfl, h⟩ := pI_inv h
    intro ls H locs hl hP hS
    exact lv_idiv hx hb hd h.1 (hk _ _ _ _ h.2 ls H locs hl hP hS)
  | irem =>
    cases hr
    obtain ⟨v1, st, rfl, h⟩ := pI_inv h
    obtain ⟨v2, st, rfl, h⟩ := pI_inv h
    intro ls H locs hl hP hS
    exact lv_irem hx hb hd h.1 (hk _ _ _ _ h.2 ls H locs hl hP hS)
  | iushr =>
    cases hr
    obtain ⟨v1, st, rfl, h⟩ := pI_inv h
    obtain ⟨v2, st, rfl, h⟩ := pI_inv h
    intro ls H locs hl hP hS
    exact lv_iushr hx hb hd rfl (hk _ _ _ _ h ls H locs hl hP hS)
  | lshl =>
    cases hr
    obtain ⟨v1, st, rfl, h⟩ := pI_inv h
    obtain ⟨v2, st, rfl, h⟩ := pJ_inv h
    intro ls H locs hl hP hS
    exact lv_lshl hx hb hd rfl (hk _ _ _ _ h ls H locs hl hP hS)
  | lor =>
    cases hr
    obtain ⟨v1, st, rfl, h⟩ := pJ_inv h
    obtain ⟨v2, st, rfl, h⟩ := pJ_inv h
    intro ls H locs hl hP hS
    exact lv_lor hx hb hd (hk _ _ _ _ h ls H locs hl hP hS)
  | land =>
    cases hr
    obtain ⟨v1, st, rfl, h⟩ := pJ_inv h
    obtain ⟨v2, st, rfl, h⟩ := pJ_inv h
    intro ls H locs hl hP hS
    exact lv_land hx hb hd (hk _ _ _ _ h ls H locs hl hP hS)
  | lsub =>
    cases hr
    obtain ⟨v1, st, rfl, h⟩ := pJ_inv h
    obtain ⟨v2, st, rfl, h⟩ := pJ_inv h
    intro ls H locs hl hP hS
    exact lv_lsub hx hb hd (hk _ _ _ _ h ls H locs hl hP hS)
  | lcmp =>
    cases hr
    obtain ⟨v1, st, rfl, h⟩ := pJ_inv h
    obtain ⟨v2, st, rfl, h⟩ := pJ_inv h
    intro ls H locs hl hP hS
    exact W.lcmp hx hb hd (hk _ _ _ _ h ls H locs hl hP hS)
  | i2l =>
    cases hr
    obtain ⟨v1, st, rfl, h⟩ := pI_inv h
    intro ls H locs hl hP hS
    exact lv_i2l hx hb hd rfl (hk _ _ _ _ h ls H locs hl hP hS)
  | i2b =>
    cases hr
    obtain ⟨v1, st, rfl, h⟩ := pI_inv h
    intro ls H locs hl hP hS
    exact lv_i2b hx hb hd rfl (hk _ _ _ _ h ls H locs hl hP hS)
  | dup =>
    cases hr
    intro ls H locs hl hP hS
    cases st with
    | nil => exact False.elim h
    | cons v st => cases v <;> first | exact False.elim h | exact lv_dup hx hb hd rfl (hk _ _ _ _ h ls H locs hl hP hS)
  | dup2 =>
    cases hr
    obtain ⟨v1, st, rfl, h⟩ := pI_inv h
    obtain ⟨v2, st, rfl, h⟩ := pR_inv h
    intro ls H locs hl hP hS
    exact lv_dup2_11 hx hb hd rfl rfl (hk _ _ _ _ h ls H locs hl hP hS)
  | pop =>
    cases hr
    obtain ⟨v1, st, rfl, h⟩ := pI_inv h
    intro ls H locs hl hP hS
    exact lv_pop hx hb hd rfl (hk _ _ _ _ h ls H locs hl hP hS)
  | getfield i =>
    obtain ⟨⟨ci, k⟩, hv, he⟩ := Option.map_eq_some_iff.mp hr
    cases he
    obtain ⟨-, -, -, hci, hk64⟩ := am_fl_spec hv
    have e1 : (64 * ci + k) / 64 = ci := by omega
    have e2 : (64 * ci + k) % 64 = k := by omega
    obtain ⟨k1, st, rfl, h⟩ := pR_inv h
    obtain ⟨hq, h⟩ := bif_inv h
    rw [Bool.and_eq_true] at hq
    exact gx_get (n := 64 * ci + k) C hd (by rw [e1, e2]; exact hv) (Nat.eq_of_beq_eq_true hq.1) (Nat.blt_eq.mp hq.2) (hk _ _ _ _ h)
  | putfield i =>
    obtain ⟨⟨ci, k⟩, hv, he⟩ := Option.map_eq_some_iff.mp hr
    cases he
    obtain ⟨-, -, -, hci, hk64⟩ := am_fl_spec hv
    have e1 : (64 * ci + k) / 64 = ci := by omega
    have e2 : (64 * ci + k) % 64 = k := by omega
    obtain ⟨x, st, rfl, h⟩ := pI_inv h
    obtain ⟨k1, st, rfl, h⟩ := pR_inv h
    obtain ⟨hq, h⟩ := bif_inv h
    rw [Bool.and_eq_true, Bool.and_eq_true] at hq
    have hn : lopt (ofs k1) ((64 * ci + k) % 64) = none := by
      cases hz : lopt (ofs k1) ((64 * ci + k) % 64) with
      | none => rfl
      | some t => rw [hz] at hq; cases hq.2
    rcases bif_inv2 h with ⟨h4, h⟩ | ⟨-, h⟩
    · exact gx_put (n := 64 * ci + k) (b := 0) C hd (by rw [e1, e2]; exact hv) (Nat.eq_of_beq_eq_true hq.1.1) (Nat.blt_eq.mp hq.1.2) hn (Nat.eq_of_beq_eq_true h4) (by decide) (fun q => by cases q) (hk _ _ _ _ h)
    · obtain ⟨h4, h⟩ := bif_inv h
      exact gx_put (n := 64 * ci + k) (b := 1) C hd (by rw [e1, e2]; exact hv) (Nat.eq_of_beq_eq_true hq.1.1) (Nat.blt_eq.mp hq.1.2) hn (Nat.eq_of_beq_eq_true h4) (by decide) (fun _ => h.1) (hk _ _ _ _ h.2)
  | iaload =>
    cases hr
    obtain ⟨i, st, rfl, h⟩ := pI_inv h
    obtain ⟨k, st, rfl, h⟩ := pR_inv h
    exact gx_iald C hd h.1 (hk _ _ _ _ h.2)
  | baload =>
    cases hr
    obtain ⟨i, st, rfl, h⟩ := pI_inv h
    obtain ⟨k, st, rfl, h⟩ := pR_inv h
    exact gx_bald C hd h.1 (hk _ _ _ _ h.2)
  | laload =>
    cases hr
    obtain ⟨i, st, rfl, h⟩ := pI_inv h
    obtain ⟨k, st, rfl, h⟩ := pR_inv h
    exact gx_lald C hd h.1 (hk _ _ _ _ h.2)
  | aaload =>
    cases hr
    obtain ⟨i, st, rfl, h⟩ := pI_inv h
    obtain ⟨k, st, rfl, h⟩ := pR_inv h
    exact gx_aald C hd h.1 (hk _ _ _ _ h.2)
  | iastore =>
    cases hr
    obtain ⟨x, st, rfl, h⟩ := pI_inv h
    obtain ⟨i, st, rfl, h⟩ := pI_inv h
    obtain ⟨k, st, rfl, h⟩ := pR_inv h
    exact gx_iast C hd h.1 (hk _ _ _ _ h.2)
  | lastore =>
    cases hr
    obtain ⟨x, st, rfl, h⟩ := pJ_inv h
    obtain ⟨i, st, rfl, h⟩ := pI_inv h
    obtain ⟨k, st, rfl, h⟩ := pR_inv h
    exact gx_last C hd h.1 (hk _ _ _ _ h.2)
  | bastore =>
    cases hr
    obtain ⟨x, st, rfl, h⟩ := pI_inv h
    obtain ⟨i, st, rfl, h⟩ := pI_inv h
    obtain ⟨k, st, rfl, h⟩ := pR_inv h
    rcases h with h | h
    · exact gx_zast C hd h.1 (hk _ _ _ _ h.2)
    · exact gx_bast C hd h.1 (hk _ _ _ _ h.2)
  | arraylength =>
    cases hr
    obtain ⟨k, st, rfl, h⟩ := pR_inv h
    obtain ⟨hq, h⟩ := bif_inv h
    exact gx_alen C hd (Nat.blt_eq.mp hq) (hk _ _ _ _ h)
  | invokestatic i =>
    obtain ⟨w, hv, he⟩ := Option.map_eq_some_iff.mp hr
    cases he
    obtain ⟨hw3, hlink⟩ := am_sp_spec hv
    obtain ⟨d, rfl⟩ : ∃ d, μ = nm d := by
      rcases hm with hm | hm
      · exact hm
      · cases hm
    match w, hw3, h, hv, hlink with
    | 0, _, h, hv, hlink =>
      obtain ⟨v1, st, rfl, h⟩ := pI_inv h
      obtain ⟨v2, st, rfl, h⟩ := pI_inv h
      obtain ⟨hq, h⟩ := bif_inv h
      intro ls H locs hl hP hS
      refine va_mmax hx hb (by rw [hml, hl.1]) hown (hts _ hlink) (hts _ (am_sys _ (by simp))) (hts _ (am_sys _ (by simp))) (hts _ (am_sys _ (by simp))) (show 1 ≤ (am_rm d).frames from Nat.succ_pos _) ?_ (Nat.zero_le _) (Nat.zero_le _) hd (hk _ _ _ _ h ls H locs hl hP hS)
      rw [csum_eq]
      have := Nat.le_of_ble_eq_true hq
      show csum st + 13 ≤ 64 * (d + 1)
      omega
    | 1, _, h, hv, hlink =>
      obtain ⟨v1, st, rfl, h⟩ := pI_inv h
      obtain ⟨v2, st, rfl, h⟩ := pI_inv h
      obtain ⟨hq, h⟩ := bif_inv h
      intro ls H locs hl hP hS
      refine va_mmin hx hb (by rw [hml, hl.1]) hown (hts _ hlink) (hts _ (am_sys _ (by simp))) (hts _ (am_sys _ (by simp))) (hts _ (am_sys _ (by simp))) (show 1 ≤ (am_rm d).frames from Nat.succ_pos _) ?_ (Nat.zero_le _) (Nat.zero_le _) hd (hk _ _ _ _ h ls H locs hl hP hS)
      rw [csum_eq]
      have := Nat.le_of_ble_eq_true hq
      show csum st + 13 ≤ 64 * (d + 1)
      omega
    | 2, _, h, hv, hlink =>
      obtain ⟨n, st, rfl, h⟩ := pI_inv h
      obtain ⟨dp, st, rfl, h⟩ := pI_inv h
      obtain ⟨kd, st, rfl, h⟩ := pR_inv h
      obtain ⟨sp, st, rfl, h⟩ := pI_inv h
      obtain ⟨ks, st, rfl, h⟩ := pR_inv h
      obtain ⟨hq, h⟩ := bif_inv h
      obtain ⟨⟨h1, h2, h3, h4, h5, h6, h7⟩, h⟩ := h
      exact gx_copy C hd hv h1 h2 h3 h4 h5 h6 h7 (Nat.le_of_ble_eq_true hq) (hk _ _ _ _ h)
  | _ => exact absurd hr (by simp [am_res])
theorem seg_sound (C : Ctx E y p s m args meth c) {K : KK} {pc' : Nat} : ∀ (is : List Instr) (pc : Nat) (lo st : List Value) (M : Mem) (L : LMem), ((∃ d, μ = nm d) ∨ is.all nosp = true) → segc (am_B y) (am_O y) is pc = some pc' → exs is lo st M L K →
    (∀ lo st M L, K lo st M L → GG E μ y Q p e s m args below meth c pc' lo st M L) → GG E μ y Q p e s m args below meth c pc lo st M L := by
  intro is
  induction is with
  | nil =>
    intro pc lo st M L _ hs h hk
    cases hs
    exact hk _ _ _ _ h
  | cons i is ih =>
    intro pc lo st M L hm hs h hk
    have hm1 : (∃ d, μ = nm d) ∨ nosp i = true := hm.imp id (fun h => by
      rw [List.all_cons, Bool.and_eq_true] at h
      exact h.1)
    have hm2 : (∃ d, μ = nm d) ∨ is.all nosp = true := hm.imp id (fun h => by
      rw [List.all_cons, Bool.and_eq_true] at h
      exact h.2)
    unfold segc at hs
    split at hs
    · rename_i off hd
      split at hs
      · rename_i hq
        obtain ⟨rfl, hge⟩ := hq
        have hG := ih _ lo st M L hm2 hs (show exs is lo st M L K from h) hk
        intro ls H locs hl hP hS
        exact lv_goto C.1 C.2.1 (off := off) hd (by omega) (hG ls H locs hl hP hS)
      · cases hs
    · rename_i j len hne hd
      split at hs
      · rename_i hq
        exact ex_sound C hd hq (show ex i lo st M L (fun lo st M L => exs is lo st M L K) from h) hm1 (fun lo st M L h1 => ih _ lo st M L hm2 hs h1 hk)
      · cases hs
    · cases hs
theorem wp_seg {d : Nat} (is : List Instr) {pc' : Nat} (hs : segc (am_B y) (am_O y) is pc = some pc') (h : exs is lo st M L (fun lo st M L => Wp E d y pc' lo st M L Q)) : Wp E d y pc lo st M L Q :=
  fun p e s m args below meth c C => seg_sound C is pc lo st M L (Or.inl ⟨d, rfl⟩) hs h (fun lo st M L h1 => h1 p e s m args below meth c C)
theorem wr_seg (is : List Instr) {pc' : Nat} (hs : segc (am_B LAW) (am_O LAW) is pc = some pc') (hn : is.all nosp = true) (h : exs is lo st M L (fun lo st M L => Wr E pc' lo st M L)) : Wr E pc lo st M L :=
  fun p e s m args below meth c C => seg_sound C is pc lo st M L (Or.inr hn) hs h (fun lo st M L h1 => h1 p e s m args below meth c C)
end SEG
end
section
/-! ===== branches, ends, calls ===== -/
section RULES
variable {E : VE} {μ : MD} {d y pc : Nat} {Q : QQ} {lo st : List Value} {M : Mem} {L : LMem}
theorem wp_ifeq {x : Int32} {off : Int} (tgt : Nat) (hd : decode (am_B y) pc = .ok (.ifCond .eq off, 3)) (ht : (pc : Int) + off = (tgt : Int)) (kt : x = 0 → Wm E μ y tgt lo st M L Q) (kf : ¬ x = 0 → Wm E μ y (pc + 3) lo st M L Q) : Wm E μ y pc lo (.int x :: st) M L Q :=
  fun p e s m args below meth c C ls H locs hl hP hS => lv_if_eq C.1 C.2.1 hd ht (fun h => kt h p e s m args below meth c C ls H locs hl hP hS) (fun h => kf h p e s m args below meth c C ls H locs hl hP hS)
theorem wp_ifne {x : Int32} {off : Int} (tgt : Nat) (hd : decode (am_B y) pc = .ok (.ifCond .ne off, 3)) (ht : (pc : Int) + off = (tgt : Int)) (kt : ¬ x = 0 → Wm E μ y tgt lo st M L Q) (kf : x = 0 → Wm E μ y (pc + 3) lo st M L Q) : Wm E μ y pc lo (.int x :: st) M L Q :=
  fun p e s m args below meth c C ls H locs hl hP hS => lv_if_ne C.1 C.2.1 hd ht (fun h => kt h p e s m args below meth c C ls H locs hl hP hS) (fun h => kf h p e s m args below meth c C ls H locs hl hP hS)
theorem wp_iflt {x : Int32} {off : Int} (tgt : Nat) (hd : decode (am_B y) pc = .ok (.ifCond .lt off, 3)) (ht : (pc : Int) + off = (tgt : Int)) (kt : x < 0 → Wm E μ y tgt lo st M L Q) (kf : ¬ x < 0 → Wm E μ y (pc + 3) lo st M L Q) : Wm E μ y pc lo (.int x :: st) M L Q :=
  fun p e s m args below meth c C ls H locs hl hP hS => lv_if_lt C.1 C.2.1 hd ht (fun h => kt h p e s m args below meth c C ls H locs hl hP hS) (fun h => kf h p e s m args below meth c C ls H locs hl hP hS)
theorem wp_ifge {x : Int32} {off : Int} (tgt : Nat) (hd : decode (am_B y) pc = .ok (.ifCond .ge off, 3)) (ht : (pc : Int) + off = (tgt : Int)) (kt : 0 ≤ x → Wm E μ y tgt lo st M L Q) (kf : ¬ 0 ≤ x → Wm E μ y (pc + 3) lo st M L Q) : Wm E μ y pc lo (.int x :: st) M L Q :=
  fun p e s m args below meth c C ls H locs hl hP hS => lv_if_ge C.1 C.2.1 hd ht (fun h => kt h p e s m args below meth c C ls H locs hl hP hS) (fun h => kf h p e s m args below meth c C ls H locs hl hP hS)
theorem wp_ifgt {x : Int32} {off : Int} (tgt : Nat) (hd : decode (am_B y) pc = .ok (.ifCond .gt off, 3)) (ht : (pc : Int) + off = (tgt : Int)) (kt : 0 < x → Wm E μ y tgt lo st M L Q) (kf : ¬ 0 < x → Wm E μ y (pc + 3) lo st M L Q) : Wm E μ y pc lo (.int x :: st) M L Q :=
  fun p e s m args below meth c C ls H locs hl hP hS => lv_if_gt C.1 C.2.1 hd ht (fun h => kt h p e s m args below meth c C ls H locs hl hP hS) (fun h => kf h p e s m args below meth c C ls H locs hl hP hS)
theorem wp_ifle {x : Int32} {off : Int} (tgt : Nat) (hd : decode (am_B y) pc = .ok (.ifCond .le off, 3)) (ht : (pc : Int) + off = (tgt : Int)) (kt : x ≤ 0 → Wm E μ y tgt lo st M L Q) (kf : ¬ x ≤ 0 → Wm E μ y (pc + 3) lo st M L Q) : Wm E μ y pc lo (.int x :: st) M L Q :=
  fun p e s m args below meth c C ls H locs hl hP hS => lv_if_le C.1 C.2.1 hd ht (fun h => kt h p e s m args below meth c C ls H locs hl hP hS) (fun h => kf h p e s m args below meth c C ls H locs hl hP hS)
theorem wp_icmpeq {x y2 : Int32} {off : Int} (tgt : Nat) (hd : decode (am_B y) pc = .ok (.if_icmp .eq off, 3)) (ht : (pc : Int) + off = (tgt : Int)) (kt : x = y2 → Wm E μ y tgt lo st M L Q) (kf : ¬ x = y2 → Wm E μ y (pc + 3) lo st M L Q) : Wm E μ y pc lo (.int y2 :: .int x :: st) M L Q :=
  fun p e s m args below meth c C ls H locs hl hP hS => lv_icmp_eq C.1 C.2.1 hd ht (fun h => kt h p e s m args below meth c C ls H locs hl hP hS) (fun h => kf h p e s m args below meth c C ls H locs hl hP hS)
theorem wp_icmpne {x y2 : Int32} {off : Int} (tgt : Nat) (hd : decode (am_B y) pc = .ok (.if_icmp .ne off, 3)) (ht : (pc : Int) + off = (tgt : Int)) (kt : ¬ x = y2 → Wm E μ y tgt lo st M L Q) (kf : x = y2 → Wm E μ y (pc + 3) lo st M L Q) : Wm E μ y pc lo (.int y2 :: .int x :: st) M L Q :=
  fun p e s m args below meth c C ls H locs hl hP hS => lv_icmp_ne C.1 C.2.1 hd ht (fun h => kt h p e s m args below meth c C ls H locs hl hP hS) (fun h => kf h p e s m args below meth c C ls H locs hl hP hS)
theorem wp_icmplt {x y2 : Int32} {off : Int} (tgt : Nat) (hd : decode (am_B y) pc = .ok (.if_icmp .lt off, 3)) (ht : (pc : Int) + off = (tgt : Int)) (kt : x < y2 → Wm E μ y tgt lo st M L Q) (kf : ¬ x < y2 → Wm E μ y (pc + 3) lo st M L Q) : Wm E μ y pc lo (.int y2 :: .int x :: st) M L Q :=
  fun p e s m args below meth c C ls H locs hl hP hS => lv_icmp_lt C.1 C.2.1 hd ht (fun h => kt h p e s m args below meth c C ls H locs hl hP hS) (fun h => kf h p e s m args below meth c C ls H locs hl hP hS)
theorem wp_icmpge {x y2 : Int32} {off : Int} (tgt : Nat) (hd : decode (am_B y) pc = .ok (.if_icmp .ge off, 3)) (ht : (pc : Int) + off = (tgt : Int)) (kt : y2 ≤ x → Wm E μ y tgt lo st M L Q) (kf : ¬ y2 ≤ x → Wm E μ y (pc + 3) lo st M L Q) : Wm E μ y pc lo (.int y2 :: .int x :: st) M L Q :=
  fun p e s m args below meth c C ls H locs hl hP hS => lv_icmp_ge C.1 C.2.1 hd ht (fun h => kt h p e s m args below meth c C ls H locs hl hP hS) (fun h => kf h p e s m args below meth c C ls H locs hl hP hS)
theorem wp_icmpgt {x y2 : Int32} {off : Int} (tgt : Nat) (hd : decode (am_B y) pc = .ok (.if_icmp .gt off, 3)) (ht : (pc : Int) + off = (tgt : Int)) (kt : y2 < x → Wm E μ y tgt lo st M L Q) (kf : ¬ y2 < x → Wm E μ y (pc + 3) lo st M L Q) : Wm E μ y pc lo (.int y2 :: .int x :: st) M L Q :=
  fun p e s m args below meth c C ls H locs hl hP hS => lv_icmp_gt C.1 C.2.1 hd ht (fun h => kt h p e s m args below meth c C ls H locs hl hP hS) (fun h => kf h p e s m args below meth c C ls H locs hl hP hS)
theorem wp_icmple {x y2 : Int32} {off : Int} (tgt : Nat) (hd : decode (am_B y) pc = .ok (.if_icmp .le off, 3)) (ht : (pc : Int) + off = (tgt : Int)) (kt : x ≤ y2 → Wm E μ y tgt lo st M L Q) (kf : ¬ x ≤ y2 → Wm E μ y (pc + 3) lo st M L Q) : Wm E μ y pc lo (.int y2 :: .int x :: st) M L Q :=
  fun p e s m args below meth c C ls H locs hl hP hS => lv_icmp_le C.1 C.2.1 hd ht (fun h => kt h p e s m args below meth c C ls H locs hl hP hS) (fun h => kf h p e s m args below meth c C ls H locs hl hP hS)
theorem wp_tabIn {dflt lo2 hi : Int} {offs : Array Int} {len : Nat} {x : Int32} {off : Int} (tgt : Nat) (hd : decode (am_B y) pc = .ok (.tableswitch dflt lo2 hi offs, len)) (h1 : ¬ x.toInt < lo2) (h2 : ¬ hi < x.toInt) (ho : offs[(x.toInt - lo2).toNat]? = some off) (ht : (pc : Int) + off = (tgt : Int)) (kt : Wm E μ y tgt lo st M L Q) : Wm E μ y pc lo (.int x :: st) M L Q :=
  fun p e s m args below meth c C ls H locs hl hP hS => lv_tableIn C.1 C.2.1 hd h1 h2 ho ht (kt p e s m args below meth c C ls H locs hl hP hS)
theorem wp_tabOut {dflt lo2 hi : Int} {offs : Array Int} {len : Nat} {x : Int32} (tgt : Nat) (hd : decode (am_B y) pc = .ok (.tableswitch dflt lo2 hi offs, len)) (h : x.toInt < lo2 ∨ hi < x.toInt) (ht : (pc : Int) + dflt = (tgt : Int)) (kt : Wm E μ y tgt lo st M L Q) : Wm E μ y pc lo (.int x :: st) M L Q :=
  fun p e s m args below meth c C ls H locs hl hP hS => lv_tableOut C.1 C.2.1 hd h ht (kt p e s m args below meth c C ls H locs hl hP hS)
theorem wp_iret {v : Int32} (hd : decode (am_B y) pc = .ok (.ireturn, 1)) (hr : am_R y = some .int) (h : Q (some (.int v)) M L) : Wp E d y pc lo [.int v] M L Q :=
  fun p e s m args below meth c C ls H locs hl hP hS => by
    have hlocks : meth.locks = false := C.2.2.2.2.2.2.2.2.1
    exact W.iret (v := v) C.1 C.2.1 (C.2.2.1.trans hr) (fun t ht _ => ⟨⟨some (.int v), M, L, rfl, h, by rw [ht]; exact hP⟩, hS.F ht⟩) hS.2.2 hd hlocks
theorem wp_zret {v : Int32} (hd : decode (am_B y) pc = .ok (.ireturn, 1)) (hr : am_R y = some .boolean) (h01 : v = 0 ∨ v = 1) (h : Q (some (.int v)) M L) : Wp E d y pc lo [.int v] M L Q :=
  fun p e s m args below meth c C ls H locs hl hP hS => by
    have hlocks : meth.locks = false := C.2.2.2.2.2.2.2.2.1
    exact W.zret (v := v) C.1 C.2.1 (C.2.2.1.trans hr) (by rcases h01 with rfl | rfl <;> decide) (fun t ht _ => ⟨⟨some (.int v), M, L, rfl, h, by rw [ht]; exact hP⟩, hS.F ht⟩) hS.2.2 hd hlocks
theorem wp_lret {v : Int64} (hd : decode (am_B y) pc = .ok (.lreturn, 1)) (hr : am_R y = some .long) (h : Q (some (.long v)) M L) : Wp E d y pc lo [.long v] M L Q :=
  fun p e s m args below meth c C ls H locs hl hP hS => by
    have hlocks : meth.locks = false := C.2.2.2.2.2.2.2.2.1
    exact W.lret (v := v) C.1 C.2.1 (C.2.2.1.trans hr) (fun t ht _ => ⟨⟨some (.long v), M, L, rfl, h, by rw [ht]; exact hP⟩, hS.F ht⟩) hS.2.2 hd hlocks
theorem wp_aret {k : Nat} (hd : decode (am_B y) pc = .ok (.areturn, 1)) {nm : String} (hr : am_R y = some (.object nm)) (h : Q (some (.ref k)) M L) : Wp E d y pc lo [.ref k] M L Q :=
  fun p e s m args below meth c C ls H locs hl hP hS => by
    have hlocks : meth.locks = false := C.2.2.2.2.2.2.2.2.1
    exact W.aret (v := .ref (E.2.2.1 k)) C.1 C.2.1 (C.2.2.1.trans hr) (Or.inl ⟨_, rfl⟩) (Or.inr ⟨_, rfl⟩) (fun t ht _ => ⟨⟨some (.ref k), M, L, rfl, h, by rw [ht]; exact hP⟩, hS.F ht⟩) hS.2.2 hd hlocks
theorem wp_vret (hd : decode (am_B y) pc = .ok (.return_, 1)) (hr : am_R y = none) (h : Q none M L) : Wp E d y pc lo [] M L Q :=
  fun p e s m args below meth c C ls H locs hl hP hS => by
    have hlocks : meth.locks = false := C.2.2.2.2.2.2.2.2.1
    exact W.vret C.1 C.2.1 (C.2.2.1.trans hr) (fun t ht _ => ⟨⟨none, M, L, rfl, h, by rw [ht]; exact hP⟩, hS.F ht⟩) hS.2.2 hd hlocks
theorem Wp.mono {Q' : QQ} (h : Wp E d y pc lo st M L Q') (hq : ∀ r M L, Q' r M L → Q r M L) : Wp E d y pc lo st M L Q := by
  intro p e s m args below meth c C ls H locs hl hP hS T hT X
  obtain ⟨t, a, o, b1, b2, ⟨⟨r, M1, L1, c1, c2, c3⟩, c4⟩, b4⟩ := h p e s m args below meth c C ls H locs hl hP hS T hT X
  exact ⟨t, a, o, b1, b2, ⟨⟨r, M1, L1, c1, hq _ _ _ c2, c3⟩, c4⟩, b4⟩
end RULES
/-! the methods' words -/
def am_mt (y : Nat) : Nat × Nat × Nat × Nat × Nat × Nat := am_MT.getD y (0, 0, 0, 0, 0, 0)
/-- what the tables say of a method -/
def am_mok (y : Nat) : Bool :=
  decide (tables_1[(am_mt y).2.2.2.2.2]? = some (.initialized (am_N y).cls)) &&
  (plainName (am_N y).cls && decide ((am_N y).cls ≠ "java/lang/invoke/MethodHandle" ∧ (am_N y).cls ≠ "java/lang/invoke/VarHandle") && decide ((parseMethodDescriptor (am_N y).desc).map (fun d => d.parameters.length) = some (am_P y)) && Nat.ble (am_X y) 45 && decide (am_C (am_O y) = (am_N y).cls))
def am_l0 : List Nat := [0, 1, 2, 3, 4, 5, 6, 7, 8, 9, 10, 11, 12, 13, 14, 15, 16, 17, 18, 19, 20, 21, 22, 23]
set_option maxRecDepth 100000 in
theorem am_c0 : ∀ y ∈ am_l0, Cond.code (am_N y) (am_B y) (am_X y) (am_R y) ∈ lw_tbl :=
  List.forall_mem_cons.mpr ⟨in_2 (List.mem_of_getElem? (i := 221) rfl), List.forall_mem_cons.mpr ⟨in_3 (List.mem_of_getElem? (i := 14) rfl), List.forall_mem_cons.mpr ⟨in_3 (List.mem_of_getElem? (i := 1) rfl), List.forall_mem_cons.mpr ⟨in_3 (List.mem_of_getElem? (i := 21) rfl), List.forall_mem_cons.mpr ⟨in_2 (List.mem_of_getElem? (i := 233) rfl), List.forall_mem_cons.mpr ⟨in_3 (List.mem_of_getElem? (i := 193) rfl), List.forall_mem_cons.mpr ⟨in_3 (List.mem_of_getElem? (i := 197) rfl), List.forall_mem_cons.mpr ⟨in_3 (List.mem_of_getElem? (i := 202) rfl), List.forall_mem_cons.mpr ⟨in_3 (List.mem_of_getElem? (i := 205) rfl), List.forall_mem_cons.mpr ⟨in_3 (List.mem_of_getElem? (i := 209) rfl), List.forall_mem_cons.mpr ⟨in_3 (List.mem_of_getElem? (i := 213) rfl), List.forall_mem_cons.mpr ⟨in_3 (List.mem_of_getElem? (i := 221) rfl), List.forall_mem_cons.mpr ⟨in_4 (List.mem_of_getElem? (i := 15) rfl), List.forall_mem_cons.mpr ⟨in_2 (List.mem_of_getElem? (i := 176) rfl), List.forall_mem_cons.mpr ⟨in_3 (List.mem_of_getElem? (i := 6) rfl), List.forall_mem_cons.mpr ⟨in_4 (List.mem_of_getElem? (i := 22) rfl), List.forall_mem_cons.mpr ⟨in_3 (List.mem_of_getElem? (i := 41) rfl), List.forall_mem_cons.mpr ⟨in_3 (List.mem_of_getElem? (i := 53) rfl), List.forall_mem_cons.mpr ⟨in_3 (List.mem_of_getElem? (i := 59) rfl), List.forall_mem_cons.mpr ⟨in_3 (List.mem_of_getElem? (i := 91) rfl), List.forall_mem_cons.mpr ⟨in_3 (List.mem_of_getElem? (i := 63) rfl), List.forall_mem_cons.mpr ⟨in_3 (List.mem_of_getElem? (i := 77) rfl), List.forall_mem_cons.mpr ⟨in_3 (List.mem_of_getElem? (i := 74) rfl), List.forall_mem_cons.mpr ⟨in_3 (List.mem_of_getElem? (i := 67) rfl), fun _ h => absurd h List.not_mem_nil⟩⟩⟩⟩⟩⟩⟩⟩⟩⟩⟩⟩⟩⟩⟩⟩⟩⟩⟩⟩⟩⟩⟩⟩
def am_l24 : List Nat := [24, 25, 26, 27, 28, 29, 30, 31, 32, 33, 34, 35, 36, 37, 38, 39, 40, 41, 42, 43, 44, 45, 46, 47]
set_option maxRecDepth 100000 in
theorem am_c24 : ∀ y ∈ am_l24, Cond.code (am_N y) (am_B y) (am_X y) (am_R y) ∈ lw_tbl :=
  List.forall_mem_cons.mpr ⟨in_3 (List.mem_of_getElem? (i := 71) rfl), List.forall_mem_cons.mpr ⟨in_3 (List.mem_of_getElem? (i := 83) rfl), List.forall_mem_cons.mpr ⟨in_3 (List.mem_of_getElem? (i := 87) rfl), List.forall_mem_cons.mpr ⟨in_2 (List.mem_of_getElem? (i := 123) rfl), List.forall_mem_cons.mpr ⟨in_2 (List.mem_of_getElem? (i := 131) rfl), List.forall_mem_cons.mpr ⟨in_2 (List.mem_of_getElem? (i := 204) rfl), List.forall_mem_cons.mpr ⟨in_2 (List.mem_of_getElem? (i := 208) rfl), List.forall_mem_cons.mpr ⟨in_2 (List.mem_of_getElem? (i := 213) rfl), List.forall_mem_cons.mpr ⟨in_2 (List.mem_of_getElem? (i := 217) rfl), List.forall_mem_cons.mpr ⟨in_4 (List.mem_of_getElem? (i := 7) rfl), List.forall_mem_cons.mpr ⟨in_2 (List.mem_of_getElem? (i := 237) rfl), List.forall_mem_cons.mpr ⟨in_2 (List.mem_of_getElem? (i := 229) rfl), List.forall_mem_cons.mpr ⟨in_4 (List.mem_of_getElem? (i := 3) rfl), List.forall_mem_cons.mpr ⟨in_2 (List.mem_of_getElem? (i := 200) rfl), List.forall_mem_cons.mpr ⟨in_2 (List.mem_of_getElem? (i := 152) rfl), List.forall_mem_cons.mpr ⟨in_2 (List.mem_of_getElem? (i := 156) rfl), List.forall_mem_cons.mpr ⟨in_2 (List.mem_of_getElem? (i := 161) rfl), List.forall_mem_cons.mpr ⟨in_2 (List.mem_of_getElem? (i := 164) rfl), List.forall_mem_cons.mpr ⟨in_2 (List.mem_of_getElem? (i := 168) rfl), List.forall_mem_cons.mpr ⟨in_2 (List.mem_of_getElem? (i := 172) rfl), List.forall_mem_cons.mpr ⟨in_2 (List.mem_of_getElem? (i := 184) rfl), List.forall_mem_cons.mpr ⟨in_2 (List.mem_of_getElem? (i := 192) rfl), List.forall_mem_cons.mpr ⟨in_3 (List.mem_of_getElem? (i := 103) rfl), List.forall_mem_cons.mpr ⟨in_3 (List.mem_of_getElem? (i := 109) rfl), fun _ h => absurd h List.not_mem_nil⟩⟩⟩⟩⟩⟩⟩⟩⟩⟩⟩⟩⟩⟩⟩⟩⟩⟩⟩⟩⟩⟩⟩⟩
def am_l48 : List Nat := [48, 49, 50, 51, 52, 53, 54, 55, 56, 57, 58, 59, 60, 61, 62, 63, 64, 65, 66, 67, 68, 69, 70, 71]
set_option maxRecDepth 100000 in
theorem am_c48 : ∀ y ∈ am_l48, Cond.code (am_N y) (am_B y) (am_X y) (am_R y) ∈ lw_tbl :=
  List.forall_mem_cons.mpr ⟨in_3 (List.mem_of_getElem? (i := 114) rfl), List.forall_mem_cons.mpr ⟨in_3 (List.mem_of_getElem? (i := 118) rfl), List.forall_mem_cons.mpr ⟨in_3 (List.mem_of_getElem? (i := 121) rfl), List.forall_mem_cons.mpr ⟨in_3 (List.mem_of_getElem? (i := 141) rfl), List.forall_mem_cons.mpr ⟨in_3 (List.mem_of_getElem? (i := 147) rfl), List.forall_mem_cons.mpr ⟨in_3 (List.mem_of_getElem? (i := 151) rfl), List.forall_mem_cons.mpr ⟨in_3 (List.mem_of_getElem? (i := 156) rfl), List.forall_mem_cons.mpr ⟨in_3 (List.mem_of_getElem? (i := 160) rfl), List.forall_mem_cons.mpr ⟨in_3 (List.mem_of_getElem? (i := 164) rfl), List.forall_mem_cons.mpr ⟨in_3 (List.mem_of_getElem? (i := 168) rfl), List.forall_mem_cons.mpr ⟨in_3 (List.mem_of_getElem? (i := 172) rfl), List.forall_mem_cons.mpr ⟨in_3 (List.mem_of_getElem? (i := 178) rfl), List.forall_mem_cons.mpr ⟨in_2 (List.mem_of_getElem? (i := 119) rfl), List.forall_mem_cons.mpr ⟨in_2 (List.mem_of_getElem? (i := 127) rfl), List.forall_mem_cons.mpr ⟨in_3 (List.mem_of_getElem? (i := 239) rfl), List.forall_mem_cons.mpr ⟨in_4 (List.mem_of_getElem? (i := 11) rfl), List.forall_mem_cons.mpr ⟨in_2 (List.mem_of_getElem? (i := 135) rfl), List.forall_mem_cons.mpr ⟨in_2 (List.mem_of_getElem? (i := 142) rfl), List.forall_mem_cons.mpr ⟨in_2 (List.mem_of_getElem? (i := 180) rfl), List.forall_mem_cons.mpr ⟨in_2 (List.mem_of_getElem? (i := 188) rfl), List.forall_mem_cons.mpr ⟨in_2 (List.mem_of_getElem? (i := 196) rfl), List.forall_mem_cons.mpr ⟨in_3 (List.mem_of_getElem? (i := 25) rfl), List.forall_mem_cons.mpr ⟨in_3 (List.mem_of_getElem? (i := 29) rfl), List.forall_mem_cons.mpr ⟨in_3 (List.mem_of_getElem? (i := 33) rfl), fun _ h => absurd h List.not_mem_nil⟩⟩⟩⟩⟩⟩⟩⟩⟩⟩⟩⟩⟩⟩⟩⟩⟩⟩⟩⟩⟩⟩⟩⟩
def am_l72 : List Nat := [72, 73, 74, 75, 76, 77, 78, 79, 80, 81, 82, 83, 84, 85, 86, 87, 88, 89, 90, 91, 92]
set_option maxRecDepth 100000 in
theorem am_c72 : ∀ y ∈ am_l72, Cond.code (am_N y) (am_B y) (am_X y) (am_R y) ∈ lw_tbl :=
  List.forall_mem_cons.mpr ⟨in_3 (List.mem_of_getElem? (i := 37) rfl), List.forall_mem_cons.mpr ⟨in_3 (List.mem_of_getElem? (i := 45) rfl), List.forall_mem_cons.mpr ⟨in_3 (List.mem_of_getElem? (i := 49) rfl), List.forall_mem_cons.mpr ⟨in_3 (List.mem_of_getElem? (i := 95) rfl), List.forall_mem_cons.mpr ⟨in_3 (List.mem_of_getElem? (i := 99) rfl), List.forall_mem_cons.mpr ⟨in_3 (List.mem_of_getElem? (i := 127) rfl), List.forall_mem_cons.mpr ⟨in_3 (List.mem_of_getElem? (i := 137) rfl), List.forall_mem_cons.mpr ⟨in_3 (List.mem_of_getElem? (i := 185) rfl), List.forall_mem_cons.mpr ⟨in_3 (List.mem_of_getElem? (i := 189) rfl), List.forall_mem_cons.mpr ⟨in_3 (List.mem_of_getElem? (i := 217) rfl), List.forall_mem_cons.mpr ⟨in_3 (List.mem_of_getElem? (i := 225) rfl), List.forall_mem_cons.mpr ⟨in_2 (List.mem_of_getElem? (i := 138) rfl), List.forall_mem_cons.mpr ⟨in_2 (List.mem_of_getElem? (i := 148) rfl), List.forall_mem_cons.mpr ⟨in_2 (List.mem_of_getElem? (i := 145) rfl), List.forall_mem_cons.mpr ⟨in_3 (List.mem_of_getElem? (i := 9) rfl), List.forall_mem_cons.mpr ⟨in_3 (List.mem_of_getElem? (i := 130) rfl), List.forall_mem_cons.mpr ⟨in_3 (List.mem_of_getElem? (i := 175) rfl), List.forall_mem_cons.mpr ⟨in_3 (List.mem_of_getElem? (i := 228) rfl), List.forall_mem_cons.mpr ⟨in_3 (List.mem_of_getElem? (i := 235) rfl), List.forall_mem_cons.mpr ⟨in_3 (List.mem_of_getElem? (i := 232) rfl), List.forall_mem_cons.mpr ⟨in_4 (List.mem_of_getElem? (i := 26) rfl), fun _ h => absurd h List.not_mem_nil⟩⟩⟩⟩⟩⟩⟩⟩⟩⟩⟩⟩⟩⟩⟩⟩⟩⟩⟩⟩⟩
theorem am_codes : ∀ y, y < 93 → Cond.code (am_N y) (am_B y) (am_X y) (am_R y) ∈ lw_tbl := by
  intro y hy
  by_cases h0 : y < 24
  · exact am_c0 y (by simp only [am_l0, List.mem_cons, List.not_mem_nil, or_false]; omega)
  by_cases h24 : y < 48
  · exact am_c24 y (by simp only [am_l24, List.mem_cons, List.not_mem_nil, or_false]; omega)
  by_cases h48 : y < 72
  · exact am_c48 y (by simp only [am_l48, List.mem_cons, List.not_mem_nil, or_false]; omega)
  by_cases h72 : y < 93
  · exact am_c72 y (by simp only [am_l72, List.mem_cons, List.not_mem_nil, or_false]; omega)
  omega
def am_sok (y : Nat) : Bool := decide (tables_1[(am_mt y).2.2.1]? = some (.static (am_N y)))
def am_iok (y : Nat) : Bool := decide (tables_1[(am_mt y).2.2.1]? = some (.instanceMethod (am_N y))) && (if (am_mt y).2.2.2.1 = 1 then decide (tables_1[(am_mt y).2.2.2.2.1]? = some (.selects (am_N y).cls (am_N y) (am_N y))) else decide ((k2_sels lw_privs)[(am_mt y).2.2.2.2.1]? = some (.selects (am_N y).cls (am_N y) (am_N y)))) && Nat.blt (am_O y) 10
set_option maxRecDepth 1000000 in
theorem am_mok_all : (List.range 93).all am_mok = true := by decide +kernel
set_option maxRecDepth 1000000 in
theorem am_CS_ok : am_CS.all (fun q => decide (tables_1[q.2.2.2]? = some (.methodLink (am_C q.1) q.2.1 (am_N q.2.2.1))) && Nat.blt q.2.2.1 93) = true := by decide +kernel
theorem am_mokW {y : Nat} (h : y < 93) : Cond.code (am_N y) (am_B y) (am_X y) (am_R y) ∈ am_WG ∧ Cond.initialized (am_N y).cls ∈ am_WG ∧ plainName (am_N y).cls = true ∧ ((am_N y).cls ≠ "java/lang/invoke/MethodHandle" ∧ (am_N y).cls ≠ "java/lang/invoke/VarHandle" ∧ (parseMethodDescriptor (am_N y).desc).map (fun d => d.parameters.length) = some (am_P y)) ∧ am_X y ≤ 45 ∧ am_C (am_O y) = (am_N y).cls := by
  have h1 := List.all_eq_true.mp am_mok_all y (List.mem_range.mpr h)
  unfold am_mok at h1
  simp only [Bool.and_eq_true, decide_eq_true_eq] at h1
  obtain ⟨a2, ⟨⟨⟨a3, a4⟩, a5⟩, a6⟩, a7⟩ := h1
  exact ⟨am_in (am_codes y h) rfl, am_in (am_t1 (List.mem_of_getElem? a2)) rfl, a3, ⟨a4.1, a4.2, a5⟩, Nat.le_of_ble_eq_true a6, a7⟩
/-- a call's site: the method that it calls -/
def am_cs (own i : Nat) : Option Nat := am_find3 am_CS own i
theorem am_cs_spec {own i y : Nat} (h : am_cs own i = some y) : Cond.methodLink (am_C own) i (am_N y) ∈ am_WG ∧ y < 93 := by
  unfold am_cs am_find3 at h
  obtain ⟨q, hq, he⟩ := Option.map_eq_some_iff.mp h
  obtain ⟨h1, h2⟩ := find_ok am_CS_ok hq
  cases he
  simp only [Bool.and_eq_true] at h2
  have e1 := Nat.eq_of_beq_eq_true h2.1
  have e2 := Nat.eq_of_beq_eq_true h2.2
  simp only [Bool.and_eq_true, decide_eq_true_eq] at h1
  rw [← e1, ← e2]
  exact ⟨am_in (am_t1 (List.mem_of_getElem? h1.1)) rfl, Nat.blt_eq.mp h1.2⟩
def am_wsy (y : Nat) : List Cond := Cond.code (am_N y) (am_B y) (am_X y) (am_R y) :: am_WG
theorem am_good {y : Nat} (h : y < 93) : GoodIn am_WG (am_wsy y) := by
  intro w hw
  have hm : w ∈ am_WG := by
    rcases List.mem_cons.mp hw with rfl | h2
    · exact (am_mokW h).1
    · exact h2
  exact ⟨hm, good_of_word (List.mem_filter.mp hm).2⟩
def PcOf (E : VE) (av : List Value) (M : Mem) (L : LMem) : Array Value → State → Prop := va_Pc (av.map (cvl E.2.2.1)) fun U => va_P E.2.1 vwCl (wd E.2.2.1 E.2.2.2.1 M L) U.heap ∧ va_K E.2.1 vwCl (am_tys E.2.2.2.1) U ∧ (∀ w ∈ am_nest, va_Nw w U) ∧ (∀ i j, i < am_NP → j < am_NP → E.2.2.1 i = E.2.2.1 j → i = j) ∧ SCU E U
theorem am_nestT : ∀ w ∈ am_nest, w.onTables = true := by decide
theorem PcOf.blind {E : VE} {av : List Value} {M : Mem} {L : LMem} : FrameBlind (PcOf E av M L) := by
  intro a U g mk h
  obtain ⟨h1, h2, h3, h4, h5, h6⟩ := h
  exact ⟨h1, h2, va_K.moved (u := U) (U := U.calling g mk a) (Vm.Alike.refl U.vm) h3, fun w hw => va_Nw.same (u := U) (U := U.calling g mk a) (am_nestT w hw) rfl (h4 w hw), h5, h6.1, h6.2.1, va_X.moved (u := U) (U := U.calling g mk a) (Vm.Alike.refl U.vm) h6.2.2⟩
theorem SCU.at {E : VE} {s U : State} {H : Heap} {locs : List Loc} (h : SCU E s) (hS : va_S (am_AD E.2.2.1) s.heap H locs) (hU : U.heap = H) (hW : s.WarmedH U.vm) : SCU E U := by
  obtain ⟨h1, h2, h3⟩ := h
  refine ⟨h1, by rw [hU]; exact Nat.lt_of_lt_of_le h2 hS.1, va_X.moved hW.alike (va_X.kept h3 (by rw [hU]; exact hS.2.1 _ h2 (fun ⟨k, hk, e⟩ => h1 k hk e.symm)))⟩
theorem PcOf.at {E : VE} {av : List Value} {M : Mem} {L : LMem} {s U : State} (hW : s.WarmedH U.vm) (hP : va_P E.2.1 vwCl (wd E.2.2.1 E.2.2.2.1 M L) U.heap) (hK : va_K E.2.1 vwCl (am_tys E.2.2.2.1) s) (hN : ∀ w ∈ am_nest, va_Nw w s) (hi : ∀ i j, i < am_NP → j < am_NP → E.2.2.1 i = E.2.2.1 j → i = j) (hsc : SCU E U) : PcOf E av M L (av.map (cvl E.2.2.1)).toArray U := by
  refine ⟨rfl, hP, va_K.moved hW.alike hK, fun w hw => ?_, hi, hsc⟩
  have h := hN w hw
  simp only [am_nest, List.mem_cons, List.not_mem_nil, or_false] at hw
  rcases hw with rfl | rfl | rfl <;> exact va_Nw.warmM hW h
theorem lpad_get : ∀ (n : Nat) (l : List Value) (i : Nat) (v : Value), (lpad n l)[i]? = some v → v ≠ Value.null → l[i]? = some v
  | 0, _, _, _, h, _ => by simp [lpad] at h
  | n + 1, [], 0, v, h, hn => by
    have h : some Value.null = some v := h
    cases h
    exact absurd rfl hn
  | n + 1, [], i + 1, v, h, hn => by
    have h2 := lpad_get n [] i v h hn
    simp at h2
  | n + 1, a :: r, 0, v, h, _ => h
  | n + 1, a :: r, i + 1, v, h, hn => lpad_get n r i v h hn
theorem lpad_len : ∀ (n : Nat) (l : List Value), (lpad n l).length = n
  | 0, _ => rfl
  | n + 1, [] => congrArg Nat.succ (lpad_len n [])
  | n + 1, _ :: r => congrArg Nat.succ (lpad_len n r)
/-- no doubles among the arguments -/
def lnd : List Value → Bool
  | [] => true
  | .double _ :: _ => false
  | _ :: r => lnd r
theorem lex_get (ad : Nat → Nat) : ∀ (av : List Value) (b i : Nat) (v : Value), lnd av = true → (lex av)[i]? = some v → v ≠ Value.null → (b + i, cvl ad v) ∈ lv_args b (av.map (cvl ad))
  | [], _, _, _, _, h, _ => by simp [lex] at h
  | a :: r, b, i, v, hd, h, hn => by
    have key : ∀ (h1 : a.category = 1), lnd r = true → (lex (a :: r) = a :: lex r) → (b + i, cvl ad v) ∈ lv_args b ((a :: r).map (cvl ad)) := by
      intro h1 hd' he
      rw [he] at h
      rw [List.map_cons]
      unfold lv_args
      cases i with
      | zero =>
        have h : some a = some v := h
        cases h
        exact List.mem_cons_self
      | succ i =>
        have h2 := lex_get ad r (b + 1) i v hd' h hn
        rw [if_neg (by rw [cvl_cat, h1]; decide)]
        have e : b + 1 + i = b + (i + 1) := by omega
        rw [e] at h2
        exact List.mem_cons_of_mem _ h2
    cases a with
    | long x =>
      rw [List.map_cons]
      unfold lv_args
      cases i with
      | zero =>
        have h : some (Value.long x) = some v := h
        cases h
        exact List.mem_cons_self
      | succ i =>
        cases i with
        | zero =>
          have h : some Value.null = some v := h
          cases h
          exact absurd rfl hn
        | succ i =>
          have h2 := lex_get ad r (b + 2) i v hd h hn
          rw [if_pos (by rfl)]
          have e : b + 2 + i = b + (i + 1 + 1) := by omega
          rw [e] at h2
          exact List.mem_cons_of_mem _ h2
    | double x => cases hd
    | int x => exact key rfl hd rfl
    | float x => exact key rfl hd rfl
    | null => exact key rfl hd rfl
    | ref x => exact key rfl hd rfl
    | retAddr x => exact key rfl hd rfl
theorem lg1 {v : Value} {vs : List Value} (h : v.category = 1) : lg_sl (v :: vs) = .val v :: lg_sl vs := by simp [lg_sl, h]
theorem lg2 {v : Value} {vs : List Value} (h : v.category = 2) : lg_sl (v :: vs) = .val v :: .second :: lg_sl vs := by simp [lg_sl, h]
theorem lex_len (ad : Nat → Nat) : ∀ (av : List Value), lnd av = true → (lg_sl (av.map (cvl ad))).length = (lex av).length
  | [], _ => rfl
  | .double x :: r, hd => by cases hd
  | .long x :: r, hd => by
    rw [List.map_cons, lg2 (by rfl)]
    show _ + 1 + 1 = _ + 1 + 1
    rw [lex_len ad r hd]
  | .int x :: r, hd => by
    rw [List.map_cons, lg1 (by rfl)]
    show _ + 1 = _ + 1
    rw [lex_len ad r hd]
  | .float x :: r, hd => by
    rw [List.map_cons, lg1 (by rfl)]
    show _ + 1 = _ + 1
    rw [lex_len ad r hd]
  | .null :: r, hd => by
    rw [List.map_cons, lg1 (by rfl)]
    show _ + 1 = _ + 1
    rw [lex_len ad r hd]
  | .ref x :: r, hd => by
    rw [List.map_cons, lg1 (by rfl)]
    show _ + 1 = _ + 1
    rw [lex_len ad r hd]
  | .retAddr x :: r, hd => by
    rw [List.map_cons, lg1 (by rfl)]
    show _ + 1 = _ + 1
    rw [lex_len ad r hd]
/-- THE CONTRACT OUT OF THE ABSTRACT WALK -/
theorem met_of_wp {E : VE} {d y : Nat} (hy : y < 93) {av : List Value} {M : Mem} {L : LMem} {Q : QQ} (hd : lnd av = true) (hl : Nat.ble (lex av).length (am_X y) = true) (hw : Wp E d y 0 (lpad (am_X y) (lex av)) [] M L Q) : Met E.1 (am_N y) (am_wsy y) (am_rm d) (PcOf E av M L) (QcOf E Q) 0 0 (am_AD E.2.2.1) := by
  obtain ⟨-, -, hpn, -, -, hcl⟩ := am_mokW hy
  refine Met.ofW (cc := am_B y) (maxL := am_X y) (ret := am_R y) hpn rfl ?_
  intro p e s m args below meth c s₁ B hml hv
  obtain ⟨rfl, hP, hK, hN, hi, hsc⟩ := hv
  have hts : ∀ w ∈ am_wsy y, w.before (av.map (cvl E.2.2.1)).toArray s = true := atoms_spec (ws := am_wsy y) B.pre
  have hown : s.vm.findClass (am_C (am_O y)) = some m.cls := by rw [hcl]; exact findClass_of_methodNamed B.named
  have hle : (lg_sl (av.map (cvl E.2.2.1))).length ≤ am_X y := by rw [lex_len _ _ hd]; exact Nat.le_of_ble_eq_true hl
  have hlv := lv_entry (av.map (cvl E.2.2.1)) hle
  rw [lg_entry_eq]
  generalize (lg_sl (av.map (cvl E.2.2.1)) ++ List.replicate (am_X y - (lg_sl (av.map (cvl E.2.2.1))).length) Slot.unset).toArray = ls at hlv ⊢
  exact hw p e s m _ below meth c ⟨B.exec, B.bytes, B.returns, hml, hown, fun w h => hts w (List.mem_cons_of_mem _ h), hN, hK, B.notSynchronized, hi, hsc, fun q => absurd hy (by rw [q]; decide)⟩ ls s.heap [] ⟨hlv.1, lpad_len _ _, hlv.2.1, fun i v h1 h2 => hlv.2.2 (i, cvl E.2.2.1 v) (by
    have h3 := lex_get E.2.2.1 av 0 i v hd (lpad_get _ _ _ _ h1 h2) h2
    rw [Nat.zero_add] at h3
    exact h3)⟩ hP va_S.rf
theorem am_clsN : ∀ ci, ci < 10 → ∃ r : vw_C, vwCl[ci]? = some r ∧ r.1 = am_C ci := by
  intro ci h
  match ci, h with
  | 0, _ => exact ⟨_, rfl, rfl⟩
  | 1, _ => exact ⟨_, rfl, rfl⟩
  | 2, _ => exact ⟨_, rfl, rfl⟩
  | 3, _ => exact ⟨_, rfl, rfl⟩
  | 4, _ => exact ⟨_, rfl, rfl⟩
  | 5, _ => exact ⟨_, rfl, rfl⟩
  | 6, _ => exact ⟨_, rfl, rfl⟩
  | 7, _ => exact ⟨_, rfl, rfl⟩
  | 8, _ => exact ⟨_, rfl, rfl⟩
  | 9, _ => exact ⟨_, rfl, rfl⟩
theorem am_recv {D : va_G} {ad : Nat → Nat} {cA : Nat → ClassId} {M : Mem} {L : LMem} {H : Heap} {s : State} {k ci : Nat} {fs : List (Option Nat)} {nm : String} (hcl : am_C ci = nm) (hci : ci < 10) (hK : va_K D vwCl (am_tys cA) s) (hP : va_P D vwCl (wd ad cA M L) H) (hkN : k < am_NP) (hsh : am_sh k = .inl (ci, fs)) : ∃ cell : Cell, H[ad k]? = some cell ∧ cell.vm.isStatics = false ∧ s.vm.findClass nm = some cell.cls := by
  obtain ⟨r, h1, h2⟩ := am_clsN ci hci
  have h := va_recv (q := r) hK hP h1 (q0 := k) (a := ad k) (by rw [wd_get hkN, cel_inl hsh])
  rw [← hcl, ← h2]
  exact h
section CALLS
variable {E : VE} {d y pc : Nat} {Q : QQ} {lo st : List Value} {M : Mem} {L : LMem}
theorem go_call {p : Program} {e : Env} {R : Room} {s : State} {m : MethodId} {args : Array Value} {below : List Frame} {meth : Method} {c : Code} {H : Heap} {locs : List Loc} {QF : State → Prop} {ls : Array Slot} {st0 rest : List Value} {a : Array Value} {Q' : QQ} {D : va_G} {ad : Nat → Nat} {cA : Nat → ClassId} {l : Launch} {sc : Nat × (Nat → Int32)} {cells slots : Nat}
    (hr : va_Run p l e R s m args below meth c H locs cells slots 0 0 (F0 m pc ls st0) rest (QcOf (l, D, ad, cA, sc) Q' a) (am_AD ad)) (hS : va_S (am_AD ad) s.heap H locs)
    (kk : ∀ (r : Option Value) (M : Mem) (L : LMem) (H1 : Heap) (locs1 : List Loc), Q' r M L → va_P D vwCl (wd ad cA M L) H1 → va_S (am_AD ad) s.heap H1 locs1 → W p l e R s m args below meth c H1 locs1 cells slots QF (F0 m (pc + 3) ls ((r.map (cvl ad)).toList ++ rest))) : W p l e R s m args below meth c H locs cells slots QF (F0 m pc ls st0) := by
  intro T hT X
  obtain ⟨v, st₀, t, T', L, h0, X', hL, e1, e2, ⟨⟨r, M1, L1, hv, hq, hp⟩, hz, hk⟩, st⟩ := hr T hT X
  cases hv
  rw [h0] at hz hk
  obtain ⟨t2, a1, b1⟩ := kk r M1 L1 T'.heap (locs ++ L) hq (by rw [e1]; exact hp)
    ⟨Nat.le_trans hS.1 (by rw [e1]; exact hz), fun q h1 h2 => by rw [e1, hk q (Nat.lt_of_lt_of_le h1 hS.1) h2]; exact hS.2.1 q h1 h2, fun q hq => by
      rcases List.mem_append.mp hq with h | h
      · exact hS.2.2 q h
      · exact hL q h⟩ T' rfl X'
  exact ⟨t2, st t2 a1, b1⟩
theorem cvl_rev (ad : Nat → Nat) (av st : List Value) : (av.reverse ++ st).map (cvl ad) = (av.map (cvl ad)).reverse ++ st.map (cvl ad) := by simp
theorem tol_map (ad : Nat → Nat) (r : Option Value) (st : List Value) : (r.toList ++ st).map (cvl ad) = (r.map (cvl ad)).toList ++ st.map (cvl ad) := by cases r <;> simp
/-- a method of depth d may be called from this mode -/
def Ovr (μ : MD) (d : Nat) : Prop := (d + 1 + 1 ≤ μ.1.frames ∧ 64 * (d + 1 + 1) ≤ μ.1.locals) ∧ μ.2.1 + 0 ≤ μ.1.cells ∧ μ.2.2.1 + 0 ≤ μ.1.slots
theorem Ovr.nm {d : Nat} : Ovr (nm (d + 1)) d := ⟨⟨Nat.le_refl _, Nat.le_refl _⟩, Nat.le_refl _, Nat.le_refl _⟩
theorem Ovr.rt {d : Nat} (h : Nat.ble d 60 = true) : Ovr rt d := by
  have h := Nat.le_of_ble_eq_true h
  exact ⟨⟨show d + 1 + 1 ≤ 2048 by omega, show 64 * (d + 1 + 1) ≤ 84000 by omega⟩, Nat.le_refl _, Nat.le_refl _⟩
theorem am_site {y i y' : Nat} {μ : MD} (ho : Ovr μ d) (hs : am_cs (am_O y) i = some y') {s : State} {args : Array Value} (hts : ∀ w ∈ am_WG, w.before args s = true) : CallB μ.1 s args (am_C (am_O y)) i (am_N y') (am_B y') (am_X y') (am_R y') (am_wsy y') (am_rm d) 0 0 (am_P y') := by
  obtain ⟨hl, hy⟩ := am_cs_spec hs
  obtain ⟨-, hini, -, hdd, hX, -⟩ := am_mokW hy
  exact callB_of (am_P y') hts (am_good hy) rfl rfl rfl (hts _ hini) (hts _ hl) hdd ⟨ho.1.1, by have := ho.1.2; show 8 + (am_X y' + 11) + 64 * (d + 1) ≤ μ.1.locals; omega⟩
theorem wm_callS {μ : MD} (hov : Ovr μ d) (y' : Nat) (av : List Value) {i : Nat} (hd : decode (am_B y) pc = .ok (.invokestatic i, 3)) (hs : am_cs (am_O y) i = some y') (hso : am_sok y' = true) (hn : Nat.beq av.length (am_P y') = true) (hd2 : lnd av = true) (hlx : Nat.ble (lex av).length (am_X y') = true) {rest : List Value} (hst : st = av.reverse ++ rest) (hc8 : Nat.ble (csum rest) 8 = true)
    (h : Wp E d y' 0 (lpad (am_X y') (lex av)) [] M L (fun r M L => Wm E μ y (pc + 3) lo (r.toList ++ rest) M L Q)) : Wm E μ y pc lo st M L Q := by
  subst hst
  intro p e s m args below meth c C ls H locs hl hP hS
  obtain ⟨hx, hb, hret, hml, hown, hts, hN, hK, hlk, hi, hsc, -⟩ := id C
  have hy := (am_cs_spec hs).2
  have hsm : Cond.static (am_N y') ∈ am_WG := am_in (am_t1 (List.mem_of_getElem? (of_decide_eq_true hso))) rfl
  rw [cvl_rev]
  refine go_call (D := E.2.1) (cA := E.2.2.2.1) (sc := E.2.2.2.2) (va_runS (As := av.map (cvl E.2.2.1)) (rest := rest.map (cvl E.2.2.1)) (Ts := am_WG) ⟨hx, hb, hml, hown, hts⟩ (met_of_wp hy hd2 hlx h) ⟨am_site hov hs hts, hts _ hsm⟩ ⟨PcOf.blind, fun U hU hW => PcOf.at hW (by rw [hU]; exact hP) hK hN hi (hsc.at hS hU hW)⟩ rfl (by rw [List.length_map]; exact Nat.eq_of_beq_eq_true hn) hl.1 rfl ?_ hd hov.2) hS (fun r M1 L1 H1 locs1 hq hP1 hS1 => ?_)
  · exact lv_room (by rw [csum_eq]; exact Nat.le_of_ble_eq_true hc8)
  · rw [← tol_map]
    exact hq p e s m args below meth c C ls H1 locs1 hl hP1 hS1
theorem wm_callV {μ : MD} (hov : Ovr μ d) (y' : Nat) (k : Nat) (av : List Value) {i : Nat} (hd : decode (am_B y) pc = .ok (.invokevirtual i, 3)) (hs : am_cs (am_O y) i = some y') (hso : am_iok y' = true) (hk : Nat.beq (oci k) (am_O y') = true) (hn : Nat.beq av.length (am_P y') = true) (hd2 : lnd (.ref k :: av) = true) (hlx : Nat.ble (lex (.ref k :: av)).length (am_X y') = true) {rest : List Value} (hst : st = av.reverse ++ .ref k :: rest) (hc8 : Nat.ble (csum rest) 8 = true)
    (h : Wp E d y' 0 (lpad (am_X y') (lex (.ref k :: av))) [] M L (fun r M L => Wm E μ y (pc + 3) lo (r.toList ++ rest) M L Q)) : Wm E μ y pc lo st M L Q := by
  subst hst
  intro p e s m args below meth c C ls H locs hl hP hS
  obtain ⟨hx, hb, hret, hml, hown, hts, hN, hK, hlk, hi, hsc, -⟩ := id C
  have hy := (am_cs_spec hs).2
  unfold am_iok at hso
  simp only [Bool.and_eq_true, decide_eq_true_eq] at hso
  obtain ⟨⟨hi1, hi2⟩, hi3⟩ := hso
  have him : Cond.instanceMethod (am_N y') ∈ am_WG := am_in (am_t1 (List.mem_of_getElem? hi1)) rfl
  have hsel : Cond.selects (am_N y').cls (am_N y') (am_N y') ∈ am_WG := by
    split at hi2
    · exact am_in (am_t1 (List.mem_of_getElem? (of_decide_eq_true hi2))) rfl
    · exact am_in (List.mem_append_left _ (List.mem_of_getElem? (of_decide_eq_true hi2))) rfl
  have ho := Nat.eq_of_beq_eq_true hk
  have ho10 : am_O y' < 10 := Nat.blt_eq.mp hi3
  obtain ⟨hsh, hkN⟩ := oci_spec ho (by omega)
  have hcell := am_recv (hcl := (am_mokW hy).2.2.2.2.2) ho10 hK hP hkN hsh
  rw [cvl_rev]
  refine go_call (D := E.2.1) (cA := E.2.2.2.1) (sc := E.2.2.2.2) (va_runV (b := E.2.2.1 k) (C := (am_N y').cls) (As := av.map (cvl E.2.2.1)) (rest := rest.map (cvl E.2.2.1)) (Ts := am_WG) ⟨hx, hb, hml, hown, hts⟩ (met_of_wp hy hd2 hlx h) ⟨am_site hov hs hts, hts _ him, hts _ hsel⟩ ⟨PcOf.blind, hcell, fun U hU hW => PcOf.at (av := .ref k :: av) hW (by rw [hU]; exact hP) hK hN hi (hsc.at hS hU hW)⟩ rfl (by rw [List.length_map]; exact Nat.eq_of_beq_eq_true hn) hl.1 rfl ?_ hd hov.2) hS (fun r M1 L1 H1 locs1 hq hP1 hS1 => ?_)
  · exact lv_room (by rw [csum_eq]; exact Nat.le_of_ble_eq_true hc8)
  · rw [← tol_map]
    exact hq p e s m args below meth c C ls H1 locs1 hl hP1 hS1
theorem wp_callS (y' : Nat) (av : List Value) {i : Nat} (hd : decode (am_B y) pc = .ok (.invokestatic i, 3)) (hs : am_cs (am_O y) i = some y') (hso : am_sok y' = true) (hn : Nat.beq av.length (am_P y') = true) (hd2 : lnd av = true) (hlx : Nat.ble (lex av).length (am_X y') = true) {rest : List Value} (hst : st = av.reverse ++ rest) (hc8 : Nat.ble (csum rest) 8 = true)
    (h : Wp E d y' 0 (lpad (am_X y') (lex av)) [] M L (fun r M L => Wp E (d + 1) y (pc + 3) lo (r.toList ++ rest) M L Q)) : Wp E (d + 1) y pc lo st M L Q :=
  wm_callS Ovr.nm y' av hd hs hso hn hd2 hlx hst hc8 h
theorem wp_callV (y' : Nat) (k : Nat) (av : List Value) {i : Nat} (hd : decode (am_B y) pc = .ok (.invokevirtual i, 3)) (hs : am_cs (am_O y) i = some y') (hso : am_iok y' = true) (hk : Nat.beq (oci k) (am_O y') = true) (hn : Nat.beq av.length (am_P y') = true) (hd2 : lnd (.ref k :: av) = true) (hlx : Nat.ble (lex (.ref k :: av)).length (am_X y') = true) {rest : List Value} (hst : st = av.reverse ++ .ref k :: rest) (hc8 : Nat.ble (csum rest) 8 = true)
    (h : Wp E d y' 0 (lpad (am_X y') (lex (.ref k :: av))) [] M L (fun r M L => Wp E (d + 1) y (pc + 3) lo (r.toList ++ rest) M L Q)) : Wp E (d + 1) y pc lo st M L Q :=
  wm_callV Ovr.nm y' k av hd hs hso hk hn hd2 hlx hst hc8 h
theorem wr_callS {pc : Nat} (y' : Nat) (av : List Value) {i : Nat} (hd : decode (am_B LAW) pc = .ok (.invokestatic i, 3)) (hs : am_cs (am_O LAW) i = some y') (hso : am_sok y' = true) (hn : Nat.beq av.length (am_P y') = true) (hd2 : lnd av = true) (hlx : Nat.ble (lex av).length (am_X y') = true) {rest : List Value} (hst : st = av.reverse ++ rest) (hc8 : Nat.ble (csum rest) 8 = true)
    (h : Wp E 60 y' 0 (lpad (am_X y') (lex av)) [] M L (fun r M L => Wr E (pc + 3) lo (r.toList ++ rest) M L)) : Wr E pc lo st M L :=
  wm_callS (Ovr.rt (d := 60) rfl) y' av hd hs hso hn hd2 hlx hst hc8 h
theorem wr_callV {pc : Nat} (y' : Nat) (k : Nat) (av : List Value) {i : Nat} (hd : decode (am_B LAW) pc = .ok (.invokevirtual i, 3)) (hs : am_cs (am_O LAW) i = some y') (hso : am_iok y' = true) (hk : Nat.beq (oci k) (am_O y') = true) (hn : Nat.beq av.length (am_P y') = true) (hd2 : lnd (.ref k :: av) = true) (hlx : Nat.ble (lex (.ref k :: av)).length (am_X y') = true) {rest : List Value} (hst : st = av.reverse ++ .ref k :: rest) (hc8 : Nat.ble (csum rest) 8 = true)
    (h : Wp E 60 y' 0 (lpad (am_X y') (lex (.ref k :: av))) [] M L (fun r M L => Wr E (pc + 3) lo (r.toList ++ rest) M L)) : Wr E pc lo st M L :=
  wm_callV (Ovr.rt (d := 60) rfl) y' k av hd hs hso hk hn hd2 hlx hst hc8 h
/-- a static method of the nest's host -/
theorem wp_callN (y' : Nat) (av : List Value) {i : Nat} (hd : decode (am_B y) pc = .ok (.invokestatic i, 3)) (hs : decide (Cond.methodLinkNest (am_C (am_O y)) i (am_N y') "SpeakTubes" ∈ am_nest) = true) (hy : Nat.blt y' 93 = true) (hso : am_sok y' = true) (hn : Nat.beq av.length (am_P y') = true) (hd2 : lnd av = true) (hlx : Nat.ble (lex av).length (am_X y') = true) {rest : List Value} (hst : st = av.reverse ++ rest) (hc8 : Nat.ble (csum rest) 8 = true)
    (h : Wp E d y' 0 (lpad (am_X y') (lex av)) [] M L (fun r M L => Wp E (d + 1) y (pc + 3) lo (r.toList ++ rest) M L Q)) : Wp E (d + 1) y pc lo st M L Q := by
  subst hst
  intro p e s m args below meth c C ls H locs hl hP hS
  obtain ⟨hx, hb, hret, hml, hown, hts, hN, hK, hlk, hi, hsc, -⟩ := id C
  have hy := Nat.blt_eq.mp hy
  have hsm : Cond.static (am_N y') ∈ am_WG := am_in (am_t1 (List.mem_of_getElem? (of_decide_eq_true hso))) rfl
  obtain ⟨-, hini, -, hdd, hX, -⟩ := am_mokW hy
  rw [cvl_rev]
  refine go_call (D := E.2.1) (cA := E.2.2.2.1) (sc := E.2.2.2.2) (va_runSN (As := av.map (cvl E.2.2.1)) (rest := rest.map (cvl E.2.2.1)) (Ts := am_WG) ⟨hx, hb, hml, hown, hts⟩ (met_of_wp hy hd2 hlx h) ⟨va_cnB (am_P y') hts (am_good hy) rfl rfl rfl (hN _ (of_decide_eq_true hs)) (hts _ hini) hdd ⟨Nat.le_refl _, by show 8 + (am_X y' + 11) + 64 * (d + 1) ≤ 64 * (d + 1 + 1); omega⟩, hts _ hsm, trivial⟩ ⟨PcOf.blind, fun U hU hW => PcOf.at hW (by rw [hU]; exact hP) hK hN hi (hsc.at hS hU hW)⟩ rfl (by rw [List.length_map]; exact Nat.eq_of_beq_eq_true hn) hl.1 rfl ?_ hd ⟨Nat.le_refl _, Nat.le_refl _⟩) hS (fun r M1 L1 H1 locs1 hq hP1 hS1 => ?_)
  · exact lv_room (by rw [csum_eq]; exact Nat.le_of_ble_eq_true hc8)
  · rw [← tol_map]
    exact hq p e s m args below meth c C ls H1 locs1 hl hP1 hS1
end CALLS
/-! ===== the script; the law's end ===== -/
section SCRIPT
variable {E : VE} {μ : MD} {y pc : Nat} {Q : QQ} {lo st : List Value} {M : Mem} {L : LMem}
theorem sc_not {E : VE} (h : ∀ i, i < am_NP → E.2.2.1 i ≠ E.2.2.1 75) : ¬ am_AD E.2.2.1 (E.2.2.1 75) := fun ⟨k, hk, e⟩ => h k hk e.symm
theorem wm_slen (hd : decode (am_B y) pc = .ok (.arraylength, 1)) (h : Wm E μ y (pc + 1) lo (.int (nI E.2.2.2.2.1) :: st) M L Q) : Wm E μ y pc lo (.ref 75 :: st) M L Q := by
  intro p e s m args below meth c C ls H locs hl hP hS
  obtain ⟨hx, hb, -, -, -, -, -, -, -, -, hsc, -⟩ := id C
  exact va_slen hx hb hsc.2.2 hsc.2.1 (sc_not hsc.1) hS hd (h p e s m args below meth c C ls H locs hl hP hS)
theorem wm_sld {i : Int32} (hi : vp_in i E.2.2.2.2.1) (hd : decode (am_B y) pc = .ok (.iaload, 1)) (h : Wm E μ y (pc + 1) lo (.int (E.2.2.2.2.2 i.toNatClampNeg) :: st) M L Q) : Wm E μ y pc lo (.int i :: .ref 75 :: st) M L Q := by
  intro p e s m args below meth c C ls H locs hl hP hS
  obtain ⟨hx, hb, -, -, -, -, -, -, -, -, hsc, -⟩ := id C
  exact va_sld hx hb hsc.2.2 hsc.2.1 (sc_not hsc.1) hS hi hd (h p e s m args below meth c C ls H locs hl hP hS)
theorem wr_ret {pc : Nat} (hd : decode code pc = .ok (.ireturn, 1)) : Wr E pc lo [.int 1] M L := by
  intro p e s m args below meth c C ls H locs hl hP hS
  obtain ⟨hx, hb, hr, -, -, -, -, -, hlk, -, -, hr2⟩ := id C
  obtain ⟨rfl, had⟩ := hr2 rfl
  refine va_forget (fun q hq => ?_) (lw_ret hx hb hr hlk hd)
  obtain ⟨k, hk, e⟩ := hS.2.2 q hq
  rw [e]
  exact had k hk
end SCRIPT
end
