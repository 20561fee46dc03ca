/-! ===== branches, ends, calls ===== -/
section RULES
variable {E : VE} {μ : MD} {d y pc : Nat} {Q : QQ} {lo st : List Value} {M : Mem} {L : LMem}
theorem wp_ifeq {x : Int32} {off : Int} (tgt : Nat) (hd : decode (am_B y) pc = .ok (.ifCond .eq off, 3)) (ht : (pc : Int) + off = (tgt : Int)) (kt : x = 0 → Wm E μ y tgt lo st M L Q) (kf : ¬ x = 0 → Wm E μ y (pc + 3) lo st M L Q) : Wm E μ y pc lo (.int x :: st) M L Q :=
  fun p e s m args below meth c C ls H locs hl hP hS => lv_if_eq C.1 C.2.1 hd ht (fun h => kt h p e s m args below meth c C ls H locs hl hP hS) (fun h => kf h p e s m args below meth c C ls H locs hl hP hS)
theorem wp_ifne {x : Int32} {off : Int} (tgt : Nat) (hd : decode (am_B y) pc = .ok (.ifCond .ne off, 3)) (ht : (pc : Int) + off = (tgt : Int)) (kt : ¬ x = 0 → Wm E μ y tgt lo st M L Q) (kf : x = 0 → Wm E μ y (pc + 3) lo st M L Q) : Wm E μ y pc lo (.int x :: st) M L Q :=
  fun p e s m args below meth c C ls H locs hl hP hS => lv_if_ne C.1 C.2.1 hd ht (fun h => kt h p e s m args below meth c C ls H locs hl hP hS) (fun h => kf h p e s m args below meth c C ls H locs hl hP hS)
theorem wp_iflt {x : Int32} {off : Int} (tgt : Nat) (hd : decode (am_B y) pc = .ok (.ifCond .lt off, 3)) (ht : (pc : Int) + off = (tgt : Int)) (kt : x < 0 → Wm E μ y tgt lo st M L Q) (kf : ¬ x < 0 → Wm E μ y (pc + 3) lo st M L Q) : Wm E μ y pc lo (.int x :: st) M L Q :=
  fun p e s m args below meth c C ls H locs hl hP hS => lv_if_lt C.1 C.2.1 hd ht (fun h => kt h p e s m args below meth c C ls H locs hl hP hS) (fun h => kf h p e s m args below meth c C ls H locs hl hP hS)
theorem wp_ifge {x : Int32} {off : Int} (tgt : Nat) (hd : decode (am_B y) pc = .ok (.ifCond .ge off, 3)) (ht : (pc : Int) + off = (tgt : Int)) (kt : 0 ≤ x → Wm E μ y tgt lo st M L Q) (kf : ¬ 0 ≤ x → Wm E μ y (pc + 3) lo st M L Q) : Wm E μ y pc lo (.int x :: st) M L Q :=
  fun p e s m args below meth c C ls H locs hl hP hS => lv_if_ge C.1 C.2.1 hd ht (fun h => kt h p e s m args below meth c C ls H locs hl hP hS) (fun h => kf h p e s m args below meth c C ls H locs hl hP hS)
theorem wp_ifgt {x : Int32} {off : Int} (tgt : Nat) (hd : decode (am_B y) pc = .ok (.ifCond .gt off, 3)) (ht : (pc : Int) + off = (tgt : Int)) (kt : 0 < x → Wm E μ y tgt lo st M L Q) (kf : ¬ 0 < x → Wm E μ y (pc + 3) lo st M L Q) : Wm E μ y pc lo (.int x :: st) M L Q :=
  fun p e s m args below meth c C ls H locs hl hP hS => lv_if_gt C.1 C.2.1 hd ht (fun h => kt h p e s m args below meth c C ls H locs hl hP hS) (fun h => kf h p e s m args below meth c C ls H locs hl hP hS)
theorem wp_ifle {x : Int32} {off : Int} (tgt : Nat) (hd : decode (am_B y) pc = .ok (.ifCond .le off, 3)) (ht : (pc : Int) + off = (tgt : Int)) (kt : x ≤ 0 → Wm E μ y tgt lo st M L Q) (kf : ¬ x ≤ 0 → Wm E μ y (pc + 3) lo st M L Q) : Wm E μ y pc lo (.int x :: st) M L Q :=
  fun p e s m args below meth c C ls H locs hl hP hS => lv_if_le C.1 C.2.1 hd ht (fun h => kt h p e s m args below meth c C ls H locs hl hP hS) (fun h => kf h p e s m args below meth c C ls H locs hl hP hS)
theorem wp_icmpeq {x y2 : Int32} {off : Int} (tgt : Nat) (hd : decode (am_B y) pc = .ok (.if_icmp .eq off, 3)) (ht : (pc : Int) + off = (tgt : Int)) (kt : x = y2 → Wm E μ y tgt lo st M L Q) (kf : ¬ x = y2 → Wm E μ y (pc + 3) lo st M L Q) : Wm E μ y pc lo (.int y2 :: .int x :: st) M L Q :=
  fun p e s m args below meth c C ls H locs hl hP hS => lv_icmp_eq C.1 C.2.1 hd ht (fun h => kt h p e s m args below meth c C ls H locs hl hP hS) (fun h => kf h p e s m args below meth c C ls H locs hl hP hS)
theorem wp_icmpne {x y2 : Int32} {off : Int} (tgt : Nat) (hd : decode (am_B y) pc = .ok (.if_icmp .ne off, 3)) (ht : (pc : Int) + off = (tgt : Int)) (kt : ¬ x = y2 → Wm E μ y tgt lo st M L Q) (kf : x = y2 → Wm E μ y (pc + 3) lo st M L Q) : Wm E μ y pc lo (.int y2 :: .int x :: st) M L Q :=
  fun p e s m args below meth c C ls H locs hl hP hS => lv_icmp_ne C.1 C.2.1 hd ht (fun h => kt h p e s m args below meth c C ls H locs hl hP hS) (fun h => kf h p e s m args below meth c C ls H locs hl hP hS)
theorem wp_icmplt {x y2 : Int32} {off : Int} (tgt : Nat) (hd : decode (am_B y) pc = .ok (.if_icmp .lt off, 3)) (ht : (pc : Int) + off = (tgt : Int)) (kt : x < y2 → Wm E μ y tgt lo st M L Q) (kf : ¬ x < y2 → Wm E μ y (pc + 3) lo st M L Q) : Wm E μ y pc lo (.int y2 :: .int x :: st) M L Q :=
  fun p e s m args below meth c C ls H locs hl hP hS => lv_icmp_lt C.1 C.2.1 hd ht (fun h => kt h p e s m args below meth c C ls H locs hl hP hS) (fun h => kf h p e s m args below meth c C ls H locs hl hP hS)
theorem wp_icmpge {x y2 : Int32} {off : Int} (tgt : Nat) (hd : decode (am_B y) pc = .ok (.if_icmp .ge off, 3)) (ht : (pc : Int) + off = (tgt : Int)) (kt : y2 ≤ x → Wm E μ y tgt lo st M L Q) (kf : ¬ y2 ≤ x → Wm E μ y (pc + 3) lo st M L Q) : Wm E μ y pc lo (.int y2 :: .int x :: st) M L Q :=
  fun p e s m args below meth c C ls H locs hl hP hS => lv_icmp_ge C.1 C.2.1 hd ht (fun h => kt h p e s m args below meth c C ls H locs hl hP hS) (fun h => kf h p e s m args below meth c C ls H locs hl hP hS)
theorem wp_icmpgt {x y2 : Int32} {off : Int} (tgt : Nat) (hd : decode (am_B y) pc = .ok (.if_icmp .gt off, 3)) (ht : (pc : Int) + off = (tgt : Int)) (kt : y2 < x → Wm E μ y tgt lo st M L Q) (kf : ¬ y2 < x → Wm E μ y (pc + 3) lo st M L Q) : Wm E μ y pc lo (.int y2 :: .int x :: st) M L Q :=
  fun p e s m args below meth c C ls H locs hl hP hS => lv_icmp_gt C.1 C.2.1 hd ht (fun h => kt h p e s m args below meth c C ls H locs hl hP hS) (fun h => kf h p e s m args below meth c C ls H locs hl hP hS)
theorem wp_icmple {x y2 : Int32} {off : Int} (tgt : Nat) (hd : decode (am_B y) pc = .ok (.if_icmp .le off, 3)) (ht : (pc : Int) + off = (tgt : Int)) (kt : x ≤ y2 → Wm E μ y tgt lo st M L Q) (kf : ¬ x ≤ y2 → Wm E μ y (pc + 3) lo st M L Q) : Wm E μ y pc lo (.int y2 :: .int x :: st) M L Q :=
  fun p e s m args below meth c C ls H locs hl hP hS => lv_icmp_le C.1 C.2.1 hd ht (fun h => kt h p e s m args below meth c C ls H locs hl hP hS) (fun h => kf h p e s m args below meth c C ls H locs hl hP hS)
theorem wp_tabIn {dflt lo2 hi : Int} {offs : Array Int} {len : Nat} {x : Int32} {off : Int} (tgt : Nat) (hd : decode (am_B y) pc = .ok (.tableswitch dflt lo2 hi offs, len)) (h1 : ¬ x.toInt < lo2) (h2 : ¬ hi < x.toInt) (ho : offs[(x.toInt - lo2).toNat]? = some off) (ht : (pc : Int) + off = (tgt : Int)) (kt : Wm E μ y tgt lo st M L Q) : Wm E μ y pc lo (.int x :: st) M L Q :=
  fun p e s m args below meth c C ls H locs hl hP hS => lv_tableIn C.1 C.2.1 hd h1 h2 ho ht (kt p e s m args below meth c C ls H locs hl hP hS)
theorem wp_tabOut {dflt lo2 hi : Int} {offs : Array Int} {len : Nat} {x : Int32} (tgt : Nat) (hd : decode (am_B y) pc = .ok (.tableswitch dflt lo2 hi offs, len)) (h : x.toInt < lo2 ∨ hi < x.toInt) (ht : (pc : Int) + dflt = (tgt : Int)) (kt : Wm E μ y tgt lo st M L Q) : Wm E μ y pc lo (.int x :: st) M L Q :=
  fun p e s m args below meth c C ls H locs hl hP hS => lv_tableOut C.1 C.2.1 hd h ht (kt p e s m args below meth c C ls H locs hl hP hS)
theorem wp_iret {v : Int32} (hd : decode (am_B y) pc = .ok (.ireturn, 1)) (hr : am_R y = some .int) (h : Q (some (.int v)) M L) : Wp E d y pc lo [.int v] M L Q :=
  fun p e s m args below meth c C ls H locs hl hP hS => by
    have hlocks : meth.locks = false := C.2.2.2.2.2.2.2.2.1
    exact W.iret (v := v) C.1 C.2.1 (C.2.2.1.trans hr) (fun t ht _ => ⟨⟨some (.int v), M, L, rfl, h, by rw [ht]; exact hP⟩, hS.F ht⟩) hS.2.2 hd hlocks
theorem wp_zret {v : Int32} (hd : decode (am_B y) pc = .ok (.ireturn, 1)) (hr : am_R y = some .boolean) (h01 : v = 0 ∨ v = 1) (h : Q (some (.int v)) M L) : Wp E d y pc lo [.int v] M L Q :=
  fun p e s m args below meth c C ls H locs hl hP hS => by
    have hlocks : meth.locks = false := C.2.2.2.2.2.2.2.2.1
    exact W.zret (v := v) C.1 C.2.1 (C.2.2.1.trans hr) (by rcases h01 with rfl | rfl <;> decide) (fun t ht _ => ⟨⟨some (.int v), M, L, rfl, h, by rw [ht]; exact hP⟩, hS.F ht⟩) hS.2.2 hd hlocks
theorem wp_lret {v : Int64} (hd : decode (am_B y) pc = .ok (.lreturn, 1)) (hr : am_R y = some .long) (h : Q (some (.long v)) M L) : Wp E d y pc lo [.long v] M L Q :=
  fun p e s m args below meth c C ls H locs hl hP hS => by
    have hlocks : meth.locks = false := C.2.2.2.2.2.2.2.2.1
    exact W.lret (v := v) C.1 C.2.1 (C.2.2.1.trans hr) (fun t ht _ => ⟨⟨some (.long v), M, L, rfl, h, by rw [ht]; exact hP⟩, hS.F ht⟩) hS.2.2 hd hlocks
theorem wp_aret {k : Nat} (hd : decode (am_B y) pc = .ok (.areturn, 1)) {nm : String} (hr : am_R y = some (.object nm)) (h : Q (some (.ref k)) M L) : Wp E d y pc lo [.ref k] M L Q :=
  fun p e s m args below meth c C ls H locs hl hP hS => by
    have hlocks : meth.locks = false := C.2.2.2.2.2.2.2.2.1
    exact W.aret (v := .ref (E.2.2.1 k)) C.1 C.2.1 (C.2.2.1.trans hr) (Or.inl ⟨_, rfl⟩) (Or.inr ⟨_, rfl⟩) (fun t ht _ => ⟨⟨some (.ref k), M, L, rfl, h, by rw [ht]; exact hP⟩, hS.F ht⟩) hS.2.2 hd hlocks
theorem wp_vret (hd : decode (am_B y) pc = .ok (.return_, 1)) (hr : am_R y = none) (h : Q none M L) : Wp E d y pc lo [] M L Q :=
  fun p e s m args below meth c C ls H locs hl hP hS => by
    have hlocks : meth.locks = false := C.2.2.2.2.2.2.2.2.1
    exact W.vret C.1 C.2.1 (C.2.2.1.trans hr) (fun t ht _ => ⟨⟨none, M, L, rfl, h, by rw [ht]; exact hP⟩, hS.F ht⟩) hS.2.2 hd hlocks
theorem Wp.mono {Q' : QQ} (h : Wp E d y pc lo st M L Q') (hq : ∀ r M L, Q' r M L → Q r M L) : Wp E d y pc lo st M L Q := by
  intro p e s m args below meth c C ls H locs hl hP hS T hT X
  obtain ⟨t, a, o, b1, b2, ⟨⟨r, M1, L1, c1, c2, c3⟩, c4⟩, b4⟩ := h p e s m args below meth c C ls H locs hl hP hS T hT X
  exact ⟨t, a, o, b1, b2, ⟨⟨r, M1, L1, c1, hq _ _ _ c2, c3⟩, c4⟩, b4⟩
end RULES
/-! the methods' words -/
def am_mt (y : Nat) : Nat × Nat × Nat × Nat × Nat × Nat := am_MT.getD y (0, 0, 0, 0, 0, 0)
/-- what the tables say of a method -/
def am_mok (y : Nat) : Bool :=
  decide (tables_1[(am_mt y).2.2.2.2.2]? = some (.initialized (am_N y).cls)) &&
  (plainName (am_N y).cls && decide ((am_N y).cls ≠ "java/lang/invoke/MethodHandle" ∧ (am_N y).cls ≠ "java/lang/invoke/VarHandle") && decide ((parseMethodDescriptor (am_N y).desc).map (fun d => d.parameters.length) = some (am_P y)) && Nat.ble (am_X y) 45 && decide (am_C (am_O y) = (am_N y).cls))
def am_l0 : List Nat := [0, 1, 2, 3, 4, 5, 6, 7, 8, 9, 10, 11, 12, 13, 14, 15, 16, 17, 18, 19, 20, 21, 22, 23]
set_option maxRecDepth 100000 in
theorem am_c0 : ∀ y ∈ am_l0, Cond.code (am_N y) (am_B y) (am_X y) (am_R y) ∈ lw_tbl :=
  List.forall_mem_cons.mpr ⟨in_2 (List.mem_of_getElem? (i := 221) rfl), List.forall_mem_cons.mpr ⟨in_3 (List.mem_of_getElem? (i := 14) rfl), List.forall_mem_cons.mpr ⟨in_3 (List.mem_of_getElem? (i := 1) rfl), List.forall_mem_cons.mpr ⟨in_3 (List.mem_of_getElem? (i := 21) rfl), List.forall_mem_cons.mpr ⟨in_2 (List.mem_of_getElem? (i := 233) rfl), List.forall_mem_cons.mpr ⟨in_3 (List.mem_of_getElem? (i := 193) rfl), List.forall_mem_cons.mpr ⟨in_3 (List.mem_of_getElem? (i := 197) rfl), List.forall_mem_cons.mpr ⟨in_3 (List.mem_of_getElem? (i := 202) rfl), List.forall_mem_cons.mpr ⟨in_3 (List.mem_of_getElem? (i := 205) rfl), List.forall_mem_cons.mpr ⟨in_3 (List.mem_of_getElem? (i := 209) rfl), List.forall_mem_cons.mpr ⟨in_3 (List.mem_of_getElem? (i := 213) rfl), List.forall_mem_cons.mpr ⟨in_3 (List.mem_of_getElem? (i := 221) rfl), List.forall_mem_cons.mpr ⟨in_4 (List.mem_of_getElem? (i := 15) rfl), List.forall_mem_cons.mpr ⟨in_2 (List.mem_of_getElem? (i := 176) rfl), List.forall_mem_cons.mpr ⟨in_3 (List.mem_of_getElem? (i := 6) rfl), List.forall_mem_cons.mpr ⟨in_4 (List.mem_of_getElem? (i := 22) rfl), List.forall_mem_cons.mpr ⟨in_3 (List.mem_of_getElem? (i := 41) rfl), List.forall_mem_cons.mpr ⟨in_3 (List.mem_of_getElem? (i := 53) rfl), List.forall_mem_cons.mpr ⟨in_3 (List.mem_of_getElem? (i := 59) rfl), List.forall_mem_cons.mpr ⟨in_3 (List.mem_of_getElem? (i := 91) rfl), List.forall_mem_cons.mpr ⟨in_3 (List.mem_of_getElem? (i := 63) rfl), List.forall_mem_cons.mpr ⟨in_3 (List.mem_of_getElem? (i := 77) rfl), List.forall_mem_cons.mpr ⟨in_3 (List.mem_of_getElem? (i := 74) rfl), List.forall_mem_cons.mpr ⟨in_3 (List.mem_of_getElem? (i := 67) rfl), fun _ h => absurd h List.not_mem_nil⟩⟩⟩⟩⟩⟩⟩⟩⟩⟩⟩⟩⟩⟩⟩⟩⟩⟩⟩⟩⟩⟩⟩⟩
def am_l24 : List Nat := [24, 25, 26, 27, 28, 29, 30, 31, 32, 33, 34, 35, 36, 37, 38, 39, 40, 41, 42, 43, 44, 45, 46, 47]
set_option maxRecDepth 100000 in
theorem am_c24 : ∀ y ∈ am_l24, Cond.code (am_N y) (am_B y) (am_X y) (am_R y) ∈ lw_tbl :=
  List.forall_mem_cons.mpr ⟨in_3 (List.mem_of_getElem? (i := 71) rfl), List.forall_mem_cons.mpr ⟨in_3 (List.mem_of_getElem? (i := 83) rfl), List.forall_mem_cons.mpr ⟨in_3 (List.mem_of_getElem? (i := 87) rfl), List.forall_mem_cons.mpr ⟨in_2 (List.mem_of_getElem? (i := 123) rfl), List.forall_mem_cons.mpr ⟨in_2 (List.mem_of_getElem? (i := 131) rfl), List.forall_mem_cons.mpr ⟨in_2 (List.mem_of_getElem? (i := 204) rfl), List.forall_mem_cons.mpr ⟨in_2 (List.mem_of_getElem? (i := 208) rfl), List.forall_mem_cons.mpr ⟨in_2 (List.mem_of_getElem? (i := 213) rfl), List.forall_mem_cons.mpr ⟨in_2 (List.mem_of_getElem? (i := 217) rfl), List.forall_mem_cons.mpr ⟨in_4 (List.mem_of_getElem? (i := 7) rfl), List.forall_mem_cons.mpr ⟨in_2 (List.mem_of_getElem? (i := 237) rfl), List.forall_mem_cons.mpr ⟨in_2 (List.mem_of_getElem? (i := 229) rfl), List.forall_mem_cons.mpr ⟨in_4 (List.mem_of_getElem? (i := 3) rfl), List.forall_mem_cons.mpr ⟨in_2 (List.mem_of_getElem? (i := 200) rfl), List.forall_mem_cons.mpr ⟨in_2 (List.mem_of_getElem? (i := 152) rfl), List.forall_mem_cons.mpr ⟨in_2 (List.mem_of_getElem? (i := 156) rfl), List.forall_mem_cons.mpr ⟨in_2 (List.mem_of_getElem? (i := 161) rfl), List.forall_mem_cons.mpr ⟨in_2 (List.mem_of_getElem? (i := 164) rfl), List.forall_mem_cons.mpr ⟨in_2 (List.mem_of_getElem? (i := 168) rfl), List.forall_mem_cons.mpr ⟨in_2 (List.mem_of_getElem? (i := 172) rfl), List.forall_mem_cons.mpr ⟨in_2 (List.mem_of_getElem? (i := 184) rfl), List.forall_mem_cons.mpr ⟨in_2 (List.mem_of_getElem? (i := 192) rfl), List.forall_mem_cons.mpr ⟨in_3 (List.mem_of_getElem? (i := 103) rfl), List.forall_mem_cons.mpr ⟨in_3 (List.mem_of_getElem? (i := 109) rfl), fun _ h => absurd h List.not_mem_nil⟩⟩⟩⟩⟩⟩⟩⟩⟩⟩⟩⟩⟩⟩⟩⟩⟩⟩⟩⟩⟩⟩⟩⟩
def am_l48 : List Nat := [48, 49, 50, 51, 52, 53, 54, 55, 56, 57, 58, 59, 60, 61, 62, 63, 64, 65, 66, 67, 68, 69, 70, 71]
set_option maxRecDepth 100000 in
theorem am_c48 : ∀ y ∈ am_l48, Cond.code (am_N y) (am_B y) (am_X y) (am_R y) ∈ lw_tbl :=
  List.forall_mem_cons.mpr ⟨in_3 (List.mem_of_getElem? (i := 114) rfl), List.forall_mem_cons.mpr ⟨in_3 (List.mem_of_getElem? (i := 118) rfl), List.forall_mem_cons.mpr ⟨in_3 (List.mem_of_getElem? (i := 121) rfl), List.forall_mem_cons.mpr ⟨in_3 (List.mem_of_getElem? (i := 141) rfl), List.forall_mem_cons.mpr ⟨in_3 (List.mem_of_getElem? (i := 147) rfl), List.forall_mem_cons.mpr ⟨in_3 (List.mem_of_getElem? (i := 151) rfl), List.forall_mem_cons.mpr ⟨in_3 (List.mem_of_getElem? (i := 156) rfl), List.forall_mem_cons.mpr ⟨in_3 (List.mem_of_getElem? (i := 160) rfl), List.forall_mem_cons.mpr ⟨in_3 (List.mem_of_getElem? (i := 164) rfl), List.forall_mem_cons.mpr ⟨in_3 (List.mem_of_getElem? (i := 168) rfl), List.forall_mem_cons.mpr ⟨in_3 (List.mem_of_getElem? (i := 172) rfl), List.forall_mem_cons.mpr ⟨in_3 (List.mem_of_getElem? (i := 178) rfl), List.forall_mem_cons.mpr ⟨in_2 (List.mem_of_getElem? (i := 119) rfl), List.forall_mem_cons.mpr ⟨in_2 (List.mem_of_getElem? (i := 127) rfl), List.forall_mem_cons.mpr ⟨in_3 (List.mem_of_getElem? (i := 239) rfl), List.forall_mem_cons.mpr ⟨in_4 (List.mem_of_getElem? (i := 11) rfl), List.forall_mem_cons.mpr ⟨in_2 (List.mem_of_getElem? (i := 135) rfl), List.forall_mem_cons.mpr ⟨in_2 (List.mem_of_getElem? (i := 142) rfl), List.forall_mem_cons.mpr ⟨in_2 (List.mem_of_getElem? (i := 180) rfl), List.forall_mem_cons.mpr ⟨in_2 (List.mem_of_getElem? (i := 188) rfl), List.forall_mem_cons.mpr ⟨in_2 (List.mem_of_getElem? (i := 196) rfl), List.forall_mem_cons.mpr ⟨in_3 (List.mem_of_getElem? (i := 25) rfl), List.forall_mem_cons.mpr ⟨in_3 (List.mem_of_getElem? (i := 29) rfl), List.forall_mem_cons.mpr ⟨in_3 (List.mem_of_getElem? (i := 33) rfl), fun _ h => absurd h List.not_mem_nil⟩⟩⟩⟩⟩⟩⟩⟩⟩⟩⟩⟩⟩⟩⟩⟩⟩⟩⟩⟩⟩⟩⟩⟩
def am_l72 : List Nat := [72, 73, 74, 75, 76, 77, 78, 79, 80, 81, 82, 83, 84, 85, 86, 87, 88, 89, 90, 91, 92]
set_option maxRecDepth 100000 in
theorem am_c72 : ∀ y ∈ am_l72, Cond.code (am_N y) (am_B y) (am_X y) (am_R y) ∈ lw_tbl :=
  List.forall_mem_cons.mpr ⟨in_3 (List.mem_of_getElem? (i := 37) rfl), List.forall_mem_cons.mpr ⟨in_3 (List.mem_of_getElem? (i := 45) rfl), List.forall_mem_cons.mpr ⟨in_3 (List.mem_of_getElem? (i := 49) rfl), List.forall_mem_cons.mpr ⟨in_3 (List.mem_of_getElem? (i := 95) rfl), List.forall_mem_cons.mpr ⟨in_3 (List.mem_of_getElem? (i := 99) rfl), List.forall_mem_cons.mpr ⟨in_3 (List.mem_of_getElem? (i := 127) rfl), List.forall_mem_cons.mpr ⟨in_3 (List.mem_of_getElem? (i := 137) rfl), List.forall_mem_cons.mpr ⟨in_3 (List.mem_of_getElem? (i := 185) rfl), List.forall_mem_cons.mpr ⟨in_3 (List.mem_of_getElem? (i := 189) rfl), List.forall_mem_cons.mpr ⟨in_3 (List.mem_of_getElem? (i := 217) rfl), List.forall_mem_cons.mpr ⟨in_3 (List.mem_of_getElem? (i := 225) rfl), List.forall_mem_cons.mpr ⟨in_2 (List.mem_of_getElem? (i := 138) rfl), List.forall_mem_cons.mpr ⟨in_2 (List.mem_of_getElem? (i := 148) rfl), List.forall_mem_cons.mpr ⟨in_2 (List.mem_of_getElem? (i := 145) rfl), List.forall_mem_cons.mpr ⟨in_3 (List.mem_of_getElem? (i := 9) rfl), List.forall_mem_cons.mpr ⟨in_3 (List.mem_of_getElem? (i := 130) rfl), List.forall_mem_cons.mpr ⟨in_3 (List.mem_of_getElem? (i := 175) rfl), List.forall_mem_cons.mpr ⟨in_3 (List.mem_of_getElem? (i := 228) rfl), List.forall_mem_cons.mpr ⟨in_3 (List.mem_of_getElem? (i := 235) rfl), List.forall_mem_cons.mpr ⟨in_3 (List.mem_of_getElem? (i := 232) rfl), List.forall_mem_cons.mpr ⟨in_4 (List.mem_of_getElem? (i := 26) rfl), fun _ h => absurd h List.not_mem_nil⟩⟩⟩⟩⟩⟩⟩⟩⟩⟩⟩⟩⟩⟩⟩⟩⟩⟩⟩⟩⟩
theorem am_codes : ∀ y, y < 93 → Cond.code (am_N y) (am_B y) (am_X y) (am_R y) ∈ lw_tbl := by
  intro y hy
  by_cases h0 : y < 24
  · exact am_c0 y (by simp only [am_l0, List.mem_cons, List.not_mem_nil, or_false]; omega)
  by_cases h24 : y < 48
  · exact am_c24 y (by simp only [am_l24, List.mem_cons, List.not_mem_nil, or_false]; omega)
  by_cases h48 : y < 72
  · exact am_c48 y (by simp only [am_l48, List.mem_cons, List.not_mem_nil, or_false]; omega)
  by_cases h72 : y < 93
  · exact am_c72 y (by simp only [am_l72, List.mem_cons, List.not_mem_nil, or_false]; omega)
  omega
def am_sok (y : Nat) : Bool := decide (tables_1[(am_mt y).2.2.1]? = some (.static (am_N y)))
def am_iok (y : Nat) : Bool := decide (tables_1[(am_mt y).2.2.1]? = some (.instanceMethod (am_N y))) && (if (am_mt y).2.2.2.1 = 1 then decide (tables_1[(am_mt y).2.2.2.2.1]? = some (.selects (am_N y).cls (am_N y) (am_N y))) else decide ((k2_sels lw_privs)[(am_mt y).2.2.2.2.1]? = some (.selects (am_N y).cls (am_N y) (am_N y)))) && Nat.blt (am_O y) 10
set_option maxRecDepth 1000000 in
theorem am_mok_all : (List.range 93).all am_mok = true := by decide +kernel
set_option maxRecDepth 1000000 in
theorem am_CS_ok : am_CS.all (fun q => decide (tables_1[q.2.2.2]? = some (.methodLink (am_C q.1) q.2.1 (am_N q.2.2.1))) && Nat.blt q.2.2.1 93) = true := by decide +kernel
theorem am_mokW {y : Nat} (h : y < 93) : Cond.code (am_N y) (am_B y) (am_X y) (am_R y) ∈ am_WG ∧ Cond.initialized (am_N y).cls ∈ am_WG ∧ plainName (am_N y).cls = true ∧ ((am_N y).cls ≠ "java/lang/invoke/MethodHandle" ∧ (am_N y).cls ≠ "java/lang/invoke/VarHandle" ∧ (parseMethodDescriptor (am_N y).desc).map (fun d => d.parameters.length) = some (am_P y)) ∧ am_X y ≤ 45 ∧ am_C (am_O y) = (am_N y).cls := by
  have h1 := List.all_eq_true.mp am_mok_all y (List.mem_range.mpr h)
  unfold am_mok at h1
  simp only [Bool.and_eq_true, decide_eq_true_eq] at h1
  obtain ⟨a2, ⟨⟨⟨a3, a4⟩, a5⟩, a6⟩, a7⟩ := h1
  exact ⟨am_in (am_codes y h) rfl, am_in (am_t1 (List.mem_of_getElem? a2)) rfl, a3, ⟨a4.1, a4.2, a5⟩, Nat.le_of_ble_eq_true a6, a7⟩
/-- a call's site: the method that it calls -/
def am_cs (own i : Nat) : Option Nat := am_find3 am_CS own i
theorem am_cs_spec {own i y : Nat} (h : am_cs own i = some y) : Cond.methodLink (am_C own) i (am_N y) ∈ am_WG ∧ y < 93 := by
  unfold am_cs am_find3 at h
  obtain ⟨q, hq, he⟩ := Option.map_eq_some_iff.mp h
  obtain ⟨h1, h2⟩ := find_ok am_CS_ok hq
  cases he
  simp only [Bool.and_eq_true] at h2
  have e1 := Nat.eq_of_beq_eq_true h2.1
  have e2 := Nat.eq_of_beq_eq_true h2.2
  simp only [Bool.and_eq_true, decide_eq_true_eq] at h1
  rw [← e1, ← e2]
  exact ⟨am_in (am_t1 (List.mem_of_getElem? h1.1)) rfl, Nat.blt_eq.mp h1.2⟩
def am_wsy (y : Nat) : List Cond := Cond.code (am_N y) (am_B y) (am_X y) (am_R y) :: am_WG
theorem am_good {y : Nat} (h : y < 93) : GoodIn am_WG (am_wsy y) := by
  intro w hw
  have hm : w ∈ am_WG := by
    rcases List.mem_cons.mp hw with rfl | h2
    · exact (am_mokW h).1
    · exact h2
  exact ⟨hm, good_of_word (List.mem_filter.mp hm).2⟩
def PcOf (E : VE) (av : List Value) (M : Mem) (L : LMem) : Array Value → State → Prop := va_Pc (av.map (cvl E.2.2.1)) fun U => va_P E.2.1 vwCl (wd E.2.2.1 E.2.2.2.1 M L) U.heap ∧ va_K E.2.1 vwCl (am_tys E.2.2.2.1) U ∧ (∀ w ∈ am_nest, va_Nw w U) ∧ (∀ i j, i < am_NP → j < am_NP → E.2.2.1 i = E.2.2.1 j → i = j) ∧ SCU E U
theorem am_nestT : ∀ w ∈ am_nest, w.onTables = true := by decide
theorem PcOf.blind {E : VE} {av : List Value} {M : Mem} {L : LMem} : FrameBlind (PcOf E av M L) := by
  intro a U g mk h
  obtain ⟨h1, h2, h3, h4, h5, h6⟩ := h
  exact ⟨h1, h2, va_K.moved (u := U) (U := U.calling g mk a) (Vm.Alike.refl U.vm) h3, fun w hw => va_Nw.same (u := U) (U := U.calling g mk a) (am_nestT w hw) rfl (h4 w hw), h5, h6.1, h6.2.1, va_X.moved (u := U) (U := U.calling g mk a) (Vm.Alike.refl U.vm) h6.2.2⟩
theorem SCU.at {E : VE} {s U : State} {H : Heap} {locs : List Loc} (h : SCU E s) (hS : va_S (am_AD E.2.2.1) s.heap H locs) (hU : U.heap = H) (hW : s.WarmedH U.vm) : SCU E U := by
  obtain ⟨h1, h2, h3⟩ := h
  refine ⟨h1, by rw [hU]; exact Nat.lt_of_lt_of_le h2 hS.1, va_X.moved hW.alike (va_X.kept h3 (by rw [hU]; exact hS.2.1 _ h2 (fun ⟨k, hk, e⟩ => h1 k hk e.symm)))⟩
theorem PcOf.at {E : VE} {av : List Value} {M : Mem} {L : LMem} {s U : State} (hW : s.WarmedH U.vm) (hP : va_P E.2.1 vwCl (wd E.2.2.1 E.2.2.2.1 M L) U.heap) (hK : va_K E.2.1 vwCl (am_tys E.2.2.2.1) s) (hN : ∀ w ∈ am_nest, va_Nw w s) (hi : ∀ i j, i < am_NP → j < am_NP → E.2.2.1 i = E.2.2.1 j → i = j) (hsc : SCU E U) : PcOf E av M L (av.map (cvl E.2.2.1)).toArray U := by
  refine ⟨rfl, hP, va_K.moved hW.alike hK, fun w hw => ?_, hi, hsc⟩
  have h := hN w hw
  simp only [am_nest, List.mem_cons, List.not_mem_nil, or_false] at hw
  rcases hw with rfl | rfl | rfl <;> exact va_Nw.warmM hW h
theorem lpad_get : ∀ (n : Nat) (l : List Value) (i : Nat) (v : Value), (lpad n l)[i]? = some v → v ≠ Value.null → l[i]? = some v
  | 0, _, _, _, h, _ => by simp [lpad] at h
  | n + 1, [], 0, v, h, hn => by
    have h : some Value.null = some v := h
    cases h
    exact absurd rfl hn
  | n + 1, [], i + 1, v, h, hn => by
    have h2 := lpad_get n [] i v h hn
    simp at h2
  | n + 1, a :: r, 0, v, h, _ => h
  | n + 1, a :: r, i + 1, v, h, hn => lpad_get n r i v h hn
theorem lpad_len : ∀ (n : Nat) (l : List Value), (lpad n l).length = n
  | 0, _ => rfl
  | n + 1, [] => congrArg Nat.succ (lpad_len n [])
  | n + 1, _ :: r => congrArg Nat.succ (lpad_len n r)
/-- no doubles among the arguments -/
def lnd : List Value → Bool
  | [] => true
  | .double _ :: _ => false
  | _ :: r => lnd r
theorem lex_get (ad : Nat → Nat) : ∀ (av : List Value) (b i : Nat) (v : Value), lnd av = true → (lex av)[i]? = some v → v ≠ Value.null → (b + i, cvl ad v) ∈ lv_args b (av.map (cvl ad))
  | [], _, _, _, _, h, _ => by simp [lex] at h
  | a :: r, b, i, v, hd, h, hn => by
    have key : ∀ (h1 : a.category = 1), lnd r = true → (lex (a :: r) = a :: lex r) → (b + i, cvl ad v) ∈ lv_args b ((a :: r).map (cvl ad)) := by
      intro h1 hd' he
      rw [he] at h
      rw [List.map_cons]
      unfold lv_args
      cases i with
      | zero =>
        have h : some a = some v := h
        cases h
        exact List.mem_cons_self
      | succ i =>
        have h2 := lex_get ad r (b + 1) i v hd' h hn
        rw [if_neg (by rw [cvl_cat, h1]; decide)]
        have e : b + 1 + i = b + (i + 1) := by omega
        rw [e] at h2
        exact List.mem_cons_of_mem _ h2
    cases a with
    | long x =>
      rw [List.map_cons]
      unfold lv_args
      cases i with
      | zero =>
        have h : some (Value.long x) = some v := h
        cases h
        exact List.mem_cons_self
      | succ i =>
        cases i with
        | zero =>
          have h : some Value.null = some v := h
          cases h
          exact absurd rfl hn
        | succ i =>
          have h2 := lex_get ad r (b + 2) i v hd h hn
          rw [if_pos (by rfl)]
          have e : b + 2 + i = b + (i + 1 + 1) := by omega
          rw [e] at h2
          exact List.mem_cons_of_mem _ h2
    | double x => cases hd
    | int x => exact key rfl hd rfl
    | float x => exact key rfl hd rfl
    | null => exact key rfl hd rfl
    | ref x => exact key rfl hd rfl
    | retAddr x => exact key rfl hd rfl
theorem lg1 {v : Value} {vs : List Value} (h : v.category = 1) : lg_sl (v :: vs) = .val v :: lg_sl vs := by simp [lg_sl, h]
theorem lg2 {v : Value} {vs : List Value} (h : v.category = 2) : lg_sl (v :: vs) = .val v :: .second :: lg_sl vs := by simp [lg_sl, h]
theorem lex_len (ad : Nat → Nat) : ∀ (av : List Value), lnd av = true → (lg_sl (av.map (cvl ad))).length = (lex av).length
  | [], _ => rfl
  | .double x :: r, hd => by cases hd
  | .long x :: r, hd => by
    rw [List.map_cons, lg2 (by rfl)]
    show _ + 1 + 1 = _ + 1 + 1
    rw [lex_len ad r hd]
  | .int x :: r, hd => by
    rw [List.map_cons, lg1 (by rfl)]
    show _ + 1 = _ + 1
    rw [lex_len ad r hd]
  | .float x :: r, hd => by
    rw [List.map_cons, lg1 (by rfl)]
    show _ + 1 = _ + 1
    rw [lex_len ad r hd]
  | .null :: r, hd => by
    rw [List.map_cons, lg1 (by rfl)]
    show _ + 1 = _ + 1
    rw [lex_len ad r hd]
  | .ref x :: r, hd => by
    rw [List.map_cons, lg1 (by rfl)]
    show _ + 1 = _ + 1
    rw [lex_len ad r hd]
  | .retAddr x :: r, hd => by
    rw [List.map_cons, lg1 (by rfl)]
    show _ + 1 = _ + 1
    rw [lex_len ad r hd]
/-- THE CONTRACT OUT OF THE ABSTRACT WALK -/
theorem met_of_wp {E : VE} {d y : Nat} (hy : y < 93) {av : List Value} {M : Mem} {L : LMem} {Q : QQ} (hd : lnd av = true) (hl : Nat.ble (lex av).length (am_X y) = true) (hw : Wp E d y 0 (lpad (am_X y) (lex av)) [] M L Q) : Met E.1 (am_N y) (am_wsy y) (am_rm d) (PcOf E av M L) (QcOf E Q) 0 0 (am_AD E.2.2.1) := by
  obtain ⟨-, -, hpn, -, -, hcl⟩ := am_mokW hy
  refine Met.ofW (cc := am_B y) (maxL := am_X y) (ret := am_R y) hpn rfl ?_
  intro p e s m args below meth c s₁ B hml hv
  obtain ⟨rfl, hP, hK, hN, hi, hsc⟩ := hv
  have hts : ∀ w ∈ am_wsy y, w.before (av.map (cvl E.2.2.1)).toArray s = true := atoms_spec (ws := am_wsy y) B.pre
  have hown : s.vm.findClass (am_C (am_O y)) = some m.cls := by rw [hcl]; exact findClass_of_methodNamed B.named
  have hle : (lg_sl (av.map (cvl E.2.2.1))).length ≤ am_X y := by rw [lex_len _ _ hd]; exact Nat.le_of_ble_eq_true hl
  have hlv := lv_entry (av.map (cvl E.2.2.1)) hle
  rw [lg_entry_eq]
  generalize (lg_sl (av.map (cvl E.2.2.1)) ++ List.replicate (am_X y - (lg_sl (av.map (cvl E.2.2.1))).length) Slot.unset).toArray = ls at hlv ⊢
  exact hw p e s m _ below meth c ⟨B.exec, B.bytes, B.returns, hml, hown, fun w h => hts w (List.mem_cons_of_mem _ h), hN, hK, B.notSynchronized, hi, hsc, fun q => absurd hy (by rw [q]; decide)⟩ ls s.heap [] ⟨hlv.1, lpad_len _ _, hlv.2.1, fun i v h1 h2 => hlv.2.2 (i, cvl E.2.2.1 v) (by
    have h3 := lex_get E.2.2.1 av 0 i v hd (lpad_get _ _ _ _ h1 h2) h2
    rw [Nat.zero_add] at h3
    exact h3)⟩ hP va_S.rf
theorem am_clsN : ∀ ci, ci < 10 → ∃ r : vw_C, vwCl[ci]? = some r ∧ r.1 = am_C ci := by
  intro ci h
  match ci, h with
  | 0, _ => exact ⟨_, rfl, rfl⟩
  | 1, _ => exact ⟨_, rfl, rfl⟩
  | 2, _ => exact ⟨_, rfl, rfl⟩
  | 3, _ => exact ⟨_, rfl, rfl⟩
  | 4, _ => exact ⟨_, rfl, rfl⟩
  | 5, _ => exact ⟨_, rfl, rfl⟩
  | 6, _ => exact ⟨_, rfl, rfl⟩
  | 7, _ => exact ⟨_, rfl, rfl⟩
  | 8, _ => exact ⟨_, rfl, rfl⟩
  | 9, _ => exact ⟨_, rfl, rfl⟩
theorem am_recv {D : va_G} {ad : Nat → Nat} {cA : Nat → ClassId} {M : Mem} {L : LMem} {H : Heap} {s : State} {k ci : Nat} {fs : List (Option Nat)} {nm : String} (hcl : am_C ci = nm) (hci : ci < 10) (hK : va_K D vwCl (am_tys cA) s) (hP : va_P D vwCl (wd ad cA M L) H) (hkN : k < am_NP) (hsh : am_sh k = .inl (ci, fs)) : ∃ cell : Cell, H[ad k]? = some cell ∧ cell.vm.isStatics = false ∧ s.vm.findClass nm = some cell.cls := by
  obtain ⟨r, h1, h2⟩ := am_clsN ci hci
  have h := va_recv (q := r) hK hP h1 (q0 := k) (a := ad k) (by rw [wd_get hkN, cel_inl hsh])
  rw [← hcl, ← h2]
  exact h
section CALLS
variable {E : VE} {d y pc : Nat} {Q : QQ} {lo st : List Value} {M : Mem} {L : LMem}
theorem go_call {p : Program} {e : Env} {R : Room} {s : State} {m : MethodId} {args : Array Value} {below : List Frame} {meth : Method} {c : Code} {H : Heap} {locs : List Loc} {QF : State → Prop} {ls : Array Slot} {st0 rest : List Value} {a : Array Value} {Q' : QQ} {D : va_G} {ad : Nat → Nat} {cA : Nat → ClassId} {l : Launch} {sc : Nat × (Nat → Int32)} {cells slots : Nat}
    (hr : va_Run p l e R s m args below meth c H locs cells slots 0 0 (F0 m pc ls st0) rest (QcOf (l, D, ad, cA, sc) Q' a) (am_AD ad)) (hS : va_S (am_AD ad) s.heap H locs)
    (kk : ∀ (r : Option Value) (M : Mem) (L : LMem) (H1 : Heap) (locs1 : List Loc), Q' r M L → va_P D vwCl (wd ad cA M L) H1 → va_S (am_AD ad) s.heap H1 locs1 → W p l e R s m args below meth c H1 locs1 cells slots QF (F0 m (pc + 3) ls ((r.map (cvl ad)).toList ++ rest))) : W p l e R s m args below meth c H locs cells slots QF (F0 m pc ls st0) := by
  intro T hT X
  obtain ⟨v, st₀, t, T', L, h0, X', hL, e1, e2, ⟨⟨r, M1, L1, hv, hq, hp⟩, hz, hk⟩, st⟩ := hr T hT X
  cases hv
  rw [h0] at hz hk
  obtain ⟨t2, a1, b1⟩ := kk r M1 L1 T'.heap (locs ++ L) hq (by rw [e1]; exact hp)
    ⟨Nat.le_trans hS.1 (by rw [e1]; exact hz), fun q h1 h2 => by rw [e1, hk q (Nat.lt_of_lt_of_le h1 hS.1) h2]; exact hS.2.1 q h1 h2, fun q hq => by
      rcases List.mem_append.mp hq with h | h
      · exact hS.2.2 q h
      · exact hL q h⟩ T' rfl X'
  exact ⟨t2, st t2 a1, b1⟩
theorem cvl_rev (ad : Nat → Nat) (av st : List Value) : (av.reverse ++ st).map (cvl ad) = (av.map (cvl ad)).reverse ++ st.map (cvl ad) := by simp
theorem tol_map (ad : Nat → Nat) (r : Option Value) (st : List Value) : (r.toList ++ st).map (cvl ad) = (r.map (cvl ad)).toList ++ st.map (cvl ad) := by cases r <;> simp
/-- a method of depth d may be called from this mode -/
def Ovr (μ : MD) (d : Nat) : Prop := (d + 1 + 1 ≤ μ.1.frames ∧ 64 * (d + 1 + 1) ≤ μ.1.locals) ∧ μ.2.1 + 0 ≤ μ.1.cells ∧ μ.2.2.1 + 0 ≤ μ.1.slots
theorem Ovr.nm {d : Nat} : Ovr (nm (d + 1)) d := ⟨⟨Nat.le_refl _, Nat.le_refl _⟩, Nat.le_refl _, Nat.le_refl _⟩
theorem Ovr.rt {d : Nat} (h : Nat.ble d 60 = true) : Ovr rt d := by
  have h := Nat.le_of_ble_eq_true h
  exact ⟨⟨show d + 1 + 1 ≤ 2048 by omega, show 64 * (d + 1 + 1) ≤ 84000 by omega⟩, Nat.le_refl _, Nat.le_refl _⟩
theorem am_site {y i y' : Nat} {μ : MD} (ho : Ovr μ d) (hs : am_cs (am_O y) i = some y') {s : State} {args : Array Value} (hts : ∀ w ∈ am_WG, w.before args s = true) : CallB μ.1 s args (am_C (am_O y)) i (am_N y') (am_B y') (am_X y') (am_R y') (am_wsy y') (am_rm d) 0 0 (am_P y') := by
  obtain ⟨hl, hy⟩ := am_cs_spec hs
  obtain ⟨-, hini, -, hdd, hX, -⟩ := am_mokW hy
  exact callB_of (am_P y') hts (am_good hy) rfl rfl rfl (hts _ hini) (hts _ hl) hdd ⟨ho.1.1, by have := ho.1.2; show 8 + (am_X y' + 11) + 64 * (d + 1) ≤ μ.1.locals; omega⟩
theorem wm_callS {μ : MD} (hov : Ovr μ d) (y' : Nat) (av : List Value) {i : Nat} (hd : decode (am_B y) pc = .ok (.invokestatic i, 3)) (hs : am_cs (am_O y) i = some y') (hso : am_sok y' = true) (hn : Nat.beq av.length (am_P y') = true) (hd2 : lnd av = true) (hlx : Nat.ble (lex av).length (am_X y') = true) {rest : List Value} (hst : st = av.reverse ++ rest) (hc8 : Nat.ble (csum rest) 8 = true)
    (h : Wp E d y' 0 (lpad (am_X y') (lex av)) [] M L (fun r M L => Wm E μ y (pc + 3) lo (r.toList ++ rest) M L Q)) : Wm E μ y pc lo st M L Q := by
  subst hst
  intro p e s m args below meth c C ls H locs hl hP hS
  obtain ⟨hx, hb, hret, hml, hown, hts, hN, hK, hlk, hi, hsc, -⟩ := id C
  have hy := (am_cs_spec hs).2
  have hsm : Cond.static (am_N y') ∈ am_WG := am_in (am_t1 (List.mem_of_getElem? (of_decide_eq_true hso))) rfl
  rw [cvl_rev]
  refine go_call (D := E.2.1) (cA := E.2.2.2.1) (sc := E.2.2.2.2) (va_runS (As := av.map (cvl E.2.2.1)) (rest := rest.map (cvl E.2.2.1)) (Ts := am_WG) ⟨hx, hb, hml, hown, hts⟩ (met_of_wp hy hd2 hlx h) ⟨am_site hov hs hts, hts _ hsm⟩ ⟨PcOf.blind, fun U hU hW => PcOf.at hW (by rw [hU]; exact hP) hK hN hi (hsc.at hS hU hW)⟩ rfl (by rw [List.length_map]; exact Nat.eq_of_beq_eq_true hn) hl.1 rfl ?_ hd hov.2) hS (fun r M1 L1 H1 locs1 hq hP1 hS1 => ?_)
  · exact lv_room (by rw [csum_eq]; exact Nat.le_of_ble_eq_true hc8)
  · rw [← tol_map]
    exact hq p e s m args below meth c C ls H1 locs1 hl hP1 hS1
theorem wm_callV {μ : MD} (hov : Ovr μ d) (y' : Nat) (k : Nat) (av : List Value) {i : Nat} (hd : decode (am_B y) pc = .ok (.invokevirtual i, 3)) (hs : am_cs (am_O y) i = some y') (hso : am_iok y' = true) (hk : Nat.beq (oci k) (am_O y') = true) (hn : Nat.beq av.length (am_P y') = true) (hd2 : lnd (.ref k :: av) = true) (hlx : Nat.ble (lex (.ref k :: av)).length (am_X y') = true) {rest : List Value} (hst : st = av.reverse ++ .ref k :: rest) (hc8 : Nat.ble (csum rest) 8 = true)
    (h : Wp E d y' 0 (lpad (am_X y') (lex (.ref k :: av))) [] M L (fun r M L => Wm E μ y (pc + 3) lo (r.toList ++ rest) M L Q)) : Wm E μ y pc lo st M L Q := by
  subst hst
  intro p e s m args below meth c C ls H locs hl hP hS
  obtain ⟨hx, hb, hret, hml, hown, hts, hN, hK, hlk, hi, hsc, -⟩ := id C
  have hy := (am_cs_spec hs).2
  unfold am_iok at hso
  simp only [Bool.and_eq_true, decide_eq_true_eq] at hso
  obtain ⟨⟨hi1, hi2⟩, hi3⟩ := hso
  have him : Cond.instanceMethod (am_N y') ∈ am_WG := am_in (am_t1 (List.mem_of_getElem? hi1)) rfl
  have hsel : Cond.selects (am_N y').cls (am_N y') (am_N y') ∈ am_WG := by
    split at hi2
    · exact am_in (am_t1 (List.mem_of_getElem? (of_decide_eq_true hi2))) rfl
    · exact am_in (List.mem_append_left _ (List.mem_of_getElem? (of_decide_eq_true hi2))) rfl
  have ho := Nat.eq_of_beq_eq_true hk
  have ho10 : am_O y' < 10 := Nat.blt_eq.mp hi3
  obtain ⟨hsh, hkN⟩ := oci_spec ho (by omega)
  have hcell := am_recv (hcl := (am_mokW hy).2.2.2.2.2) ho10 hK hP hkN hsh
  rw [cvl_rev]
  refine go_call (D := E.2.1) (cA := E.2.2.2.1) (sc := E.2.2.2.2) (va_runV (b := E.2.2.1 k) (C := (am_N y').cls) (As := av.map (cvl E.2.2.1)) (rest := rest.map (cvl E.2.2.1)) (Ts := am_WG) ⟨hx, hb, hml, hown, hts⟩ (met_of_wp hy hd2 hlx h) ⟨am_site hov hs hts, hts _ him, hts _ hsel⟩ ⟨PcOf.blind, hcell, fun U hU hW => PcOf.at (av := .ref k :: av) hW (by rw [hU]; exact hP) hK hN hi (hsc.at hS hU hW)⟩ rfl (by rw [List.length_map]; exact Nat.eq_of_beq_eq_true hn) hl.1 rfl ?_ hd hov.2) hS (fun r M1 L1 H1 locs1 hq hP1 hS1 => ?_)
  · exact lv_room (by rw [csum_eq]; exact Nat.le_of_ble_eq_true hc8)
  · rw [← tol_map]
    exact hq p e s m args below meth c C ls H1 locs1 hl hP1 hS1
theorem wp_callS (y' : Nat) (av : List Value) {i : Nat} (hd : decode (am_B y) pc = .ok (.invokestatic i, 3)) (hs : am_cs (am_O y) i = some y') (hso : am_sok y' = true) (hn : Nat.beq av.length (am_P y') = true) (hd2 : lnd av = true) (hlx : Nat.ble (lex av).length (am_X y') = true) {rest : List Value} (hst : st = av.reverse ++ rest) (hc8 : Nat.ble (csum rest) 8 = true)
    (h : Wp E d y' 0 (lpad (am_X y') (lex av)) [] M L (fun r M L => Wp E (d + 1) y (pc + 3) lo (r.toList ++ rest) M L Q)) : Wp E (d + 1) y pc lo st M L Q :=
  wm_callS Ovr.nm y' av hd hs hso hn hd2 hlx hst hc8 h
theorem wp_callV (y' : Nat) (k : Nat) (av : List Value) {i : Nat} (hd : decode (am_B y) pc = .ok (.invokevirtual i, 3)) (hs : am_cs (am_O y) i = some y') (hso : am_iok y' = true) (hk : Nat.beq (oci k) (am_O y') = true) (hn : Nat.beq av.length (am_P y') = true) (hd2 : lnd (.ref k :: av) = true) (hlx : Nat.ble (lex (.ref k :: av)).length (am_X y') = true) {rest : List Value} (hst : st = av.reverse ++ .ref k :: rest) (hc8 : Nat.ble (csum rest) 8 = true)
    (h : Wp E d y' 0 (lpad (am_X y') (lex (.ref k :: av))) [] M L (fun r M L => Wp E (d + 1) y (pc + 3) lo (r.toList ++ rest) M L Q)) : Wp E (d + 1) y pc lo st M L Q :=
  wm_callV Ovr.nm y' k av hd hs hso hk hn hd2 hlx hst hc8 h
theorem wr_callS {pc : Nat} (y' : Nat) (av : List Value) {i : Nat} (hd : decode (am_B LAW) pc = .ok (.invokestatic i, 3)) (hs : am_cs (am_O LAW) i = some y') (hso : am_sok y' = true) (hn : Nat.beq av.length (am_P y') = true) (hd2 : lnd av = true) (hlx : Nat.ble (lex av).length (am_X y') = true) {rest : List Value} (hst : st = av.reverse ++ rest) (hc8 : Nat.ble (csum rest) 8 = true)
    (h : Wp E 60 y' 0 (lpad (am_X y') (lex av)) [] M L (fun r M L => Wr E (pc + 3) lo (r.toList ++ rest) M L)) : Wr E pc lo st M L :=
  wm_callS (Ovr.rt (d := 60) rfl) y' av hd hs hso hn hd2 hlx hst hc8 h
theorem wr_callV {pc : Nat} (y' : Nat) (k : Nat) (av : List Value) {i : Nat} (hd : decode (am_B LAW) pc = .ok (.invokevirtual i, 3)) (hs : am_cs (am_O LAW) i = some y') (hso : am_iok y' = true) (hk : Nat.beq (oci k) (am_O y') = true) (hn : Nat.beq av.length (am_P y') = true) (hd2 : lnd (.ref k :: av) = true) (hlx : Nat.ble (lex (.ref k :: av)).length (am_X y') = true) {rest : List Value} (hst : st = av.reverse ++ .ref k :: rest) (hc8 : Nat.ble (csum rest) 8 = true)
    (h : Wp E 60 y' 0 (lpad (am_X y') (lex (.ref k :: av))) [] M L (fun r M L => Wr E (pc + 3) lo (r.toList ++ rest) M L)) : Wr E pc lo st M L :=
  wm_callV (Ovr.rt (d := 60) rfl) y' k av hd hs hso hk hn hd2 hlx hst hc8 h
/-- a static method of the nest's host -/
theorem wp_callN (y' : Nat) (av : List Value) {i : Nat} (hd : decode (am_B y) pc = .ok (.invokestatic i, 3)) (hs : decide (Cond.methodLinkNest (am_C (am_O y)) i (am_N y') "SpeakTubes" ∈ am_nest) = true) (hy : Nat.blt y' 93 = true) (hso : am_sok y' = true) (hn : Nat.beq av.length (am_P y') = true) (hd2 : lnd av = true) (hlx : Nat.ble (lex av).length (am_X y') = true) {rest : List Value} (hst : st = av.reverse ++ rest) (hc8 : Nat.ble (csum rest) 8 = true)
    (h : Wp E d y' 0 (lpad (am_X y') (lex av)) [] M L (fun r M L => Wp E (d + 1) y (pc + 3) lo (r.toList ++ rest) M L Q)) : Wp E (d + 1) y pc lo st M L Q := by
  subst hst
  intro p e s m args below meth c C ls H locs hl hP hS
  obtain ⟨hx, hb, hret, hml, hown, hts, hN, hK, hlk, hi, hsc, -⟩ := id C
  have hy := Nat.blt_eq.mp hy
  have hsm : Cond.static (am_N y') ∈ am_WG := am_in (am_t1 (List.mem_of_getElem? (of_decide_eq_true hso))) rfl
  obtain ⟨-, hini, -, hdd, hX, -⟩ := am_mokW hy
  rw [cvl_rev]
  refine go_call (D := E.2.1) (cA := E.2.2.2.1) (sc := E.2.2.2.2) (va_runSN (As := av.map (cvl E.2.2.1)) (rest := rest.map (cvl E.2.2.1)) (Ts := am_WG) ⟨hx, hb, hml, hown, hts⟩ (met_of_wp hy hd2 hlx h) ⟨va_cnB (am_P y') hts (am_good hy) rfl rfl rfl (hN _ (of_decide_eq_true hs)) (hts _ hini) hdd ⟨Nat.le_refl _, by show 8 + (am_X y' + 11) + 64 * (d + 1) ≤ 64 * (d + 1 + 1); omega⟩, hts _ hsm, trivial⟩ ⟨PcOf.blind, fun U hU hW => PcOf.at hW (by rw [hU]; exact hP) hK hN hi (hsc.at hS hU hW)⟩ rfl (by rw [List.length_map]; exact Nat.eq_of_beq_eq_true hn) hl.1 rfl ?_ hd ⟨Nat.le_refl _, Nat.le_refl _⟩) hS (fun r M1 L1 H1 locs1 hq hP1 hS1 => ?_)
  · exact lv_room (by rw [csum_eq]; exact Nat.le_of_ble_eq_true hc8)
  · rw [← tol_map]
    exact hq p e s m args below meth c C ls H1 locs1 hl hP1 hS1
end CALLS
/-! ===== the script; the law's end ===== -/
section SCRIPT
variable {E : VE} {μ : MD} {y pc : Nat} {Q : QQ} {lo st : List Value} {M : Mem} {L : LMem}
theorem sc_not {E : VE} (h : ∀ i, i < am_NP → E.2.2.1 i ≠ E.2.2.1 75) : ¬ am_AD E.2.2.1 (E.2.2.1 75) := fun ⟨k, hk, e⟩ => h k hk e.symm
theorem wm_slen (hd : decode (am_B y) pc = .ok (.arraylength, 1)) (h : Wm E μ y (pc + 1) lo (.int (nI E.2.2.2.2.1) :: st) M L Q) : Wm E μ y pc lo (.ref 75 :: st) M L Q := by
  intro p e s m args below meth c C ls H locs hl hP hS
  obtain ⟨hx, hb, -, -, -, -, -, -, -, -, hsc, -⟩ := id C
  exact va_slen hx hb hsc.2.2 hsc.2.1 (sc_not hsc.1) hS hd (h p e s m args below meth c C ls H locs hl hP hS)
theorem wm_sld {i : Int32} (hi : vp_in i E.2.2.2.2.1) (hd : decode (am_B y) pc = .ok (.iaload, 1)) (h : Wm E μ y (pc + 1) lo (.int (E.2.2.2.2.2 i.toNatClampNeg) :: st) M L Q) : Wm E μ y pc lo (.int i :: .ref 75 :: st) M L Q := by
  intro p e s m args below meth c C ls H locs hl hP hS
  obtain ⟨hx, hb, -, -, -, -, -, -, -, -, hsc, -⟩ := id C
  exact va_sld hx hb hsc.2.2 hsc.2.1 (sc_not hsc.1) hS hi hd (h p e s m args below meth c C ls H locs hl hP hS)
theorem wr_ret {pc : Nat} (hd : decode code pc = .ok (.ireturn, 1)) : Wr E pc lo [.int 1] M L := by
  intro p e s m args below meth c C ls H locs hl hP hS
  obtain ⟨hx, hb, hr, -, -, -, -, -, hlk, -, -, hr2⟩ := id C
  obtain ⟨rfl, had⟩ := hr2 rfl
  refine va_forget (fun q hq => ?_) (lw_ret hx hb hr hlk hd)
  obtain ⟨k, hk, e⟩ := hS.2.2 q hq
  rw [e]
  exact had k hk
end SCRIPT
