def R_law : String := "SpeakTubesLaw"
def lw_P (b : Addr) (xs : List Int32) (args : Array Value) (s : State) : Prop := args = #[.ref b] ∧ s.IntsAt b xs ∧ xs.length ≤ 2560 ∧ (Jvm.Cond.and given_1 narrow_1).before args s = true
def lw_Q (_ : Array Value) (s : State) (o : Outcome) (t : State) : Prop := o = .returned (some (.int 1)) ∧ Framed s o t [] 600000 7302250
def lw_Z (below : List Frame) (a : Array Value) (s : State) : State → Prop := fun t => ∃ o, t.status = .running ∧ Ended t below o ∧ lw_Q a s o t
/-- the law's own end, with 1 on the stack, nothing written that was there before, its room as the claim has it -/
theorem lw_ret {p : Program} {l : Launch} {e : Env} {s : State} {m : MethodId} {below : List Frame} {meth : Method} {c : Code} {b : Nat} (hx : p.tables.exec = Jvm.exec) (hb : c.code = code) (hr : meth.sig.returnType = ret) (hlocks : meth.locks = false) {pc : Nat} {H : Heap} {ls : Array Slot} (hdg : decode code pc = .ok (.ireturn, 1)) : W p l e room_1 s m #[Value.ref b] below meth c H [] 600000 7302250 (lw_Z below #[Value.ref b] s) (F0 m pc ls [.int 1]) := by
  intro T hT X
  obtain ⟨fs, hret, hrun, hended, hW, hframe⟩ := X.leave (v := some (.int 1)) (hlocks := hlocks) (fun h => by rw [hr] at h; cases h)
  have hmeth' : T.vm.method? m = some meth := X.method'
  refine ⟨T.setFrames fs, ?_, .returned (some (.int 1)), hrun, hended, rfl, ⟨_, rfl⟩, hW, hframe⟩
  jvm_step X.here [X.here.top, hx, hb, hdg, hmeth', hr, ret, narrow_b1]
  (try refine ⟨rfl, ?_⟩); (try refine ⟨rfl, ?_⟩)
  first | (intro acts; rw [hret _ acts rfl rfl rfl]) | rw [hret _ _ rfl rfl rfl]
  exact Steps.refl _
/-- what holds at the law's entry: the machine, the code, the tables' words (any of lw_tbl by 'hts w (by decide +kernel)'), the script of L ints xs at the cell b, what the Statement gives of the start (any of its parts by flat_of_before) -/
def lw_At (p : Program) (s : State) (m : MethodId) (meth : Method) (c : Code) (b L : Nat) (xs : Nat → Int32) : Prop :=
  p.tables.exec = Jvm.exec ∧ c.code = code ∧ meth.sig.returnType = ret ∧ c.maxLocals = 4 ∧ s.vm.findClass R_law = some m.cls ∧ (∀ w ∈ lw_tbl, w.before #[Value.ref b] s = true) ∧ va_X b L xs s s.heap ∧ b < s.heap.size ∧ meth.locks = false ∧ (Jvm.Cond.and given_1 narrow_1).before #[Value.ref b] s = true
/-! ===== the law's loop ===== -/
/-- class and model answer alike, and the states agree behind it -/
def Agree (INV : Mem → LMem → Prop) (M : Mem) (L : LMem) (A B : Mem → LMem → (Int32 → Mem → LMem → Prop) → Prop) : Prop := A M L (fun r M1 L1 => B M1 L1 (fun r' M2 L2 => r' = r ∧ INV M2 L2))

def Op_say (INV : Mem → LMem → Prop) : Prop := ∀ (M : Mem) (L : LMem) (x1 : Int32), INV M L → Agree INV M L (P_X9_say x1) (P_X10_say x1)

def Op_wipe (INV : Mem → LMem → Prop) : Prop := ∀ (M : Mem) (L : LMem) , INV M L → Agree INV M L (P_X9_wipe ) (P_X10_wipe )

def Op_fault (INV : Mem → LMem → Prop) : Prop := ∀ (M : Mem) (L : LMem) (x1 : Int32), INV M L → Agree INV M L (P_X9_fault x1) (P_X10_fault x1)

def Op_house (INV : Mem → LMem → Prop) : Prop := ∀ (M : Mem) (L : LMem) , INV M L → Agree INV M L (P_X9_house ) (P_X10_house )

def Op_tube (INV : Mem → LMem → Prop) : Prop := ∀ (M : Mem) (L : LMem) (x1 x2 : Int32), INV M L → Agree INV M L (P_X9_tube x1 x2) (P_X10_tube x1 x2)

def Op_set (INV : Mem → LMem → Prop) : Prop := ∀ (M : Mem) (L : LMem) (x1 x2 : Int32), INV M L → Agree INV M L (P_X9_set x1 x2) (P_X10_set x1 x2)

def Op_way (INV : Mem → LMem → Prop) : Prop := ∀ (M : Mem) (L : LMem) (x1 x2 x3 : Int32), INV M L → Agree INV M L (P_X9_way x1 x2 x3) (P_X10_way x1 x2 x3)

def Op_loud (INV : Mem → LMem → Prop) : Prop := ∀ (M : Mem) (L : LMem) (x1 x2 x3 : Int32), INV M L → Agree INV M L (P_X9_loud x1 x2 x3) (P_X10_loud x1 x2 x3)

def Op_heard (INV : Mem → LMem → Prop) : Prop := ∀ (M : Mem) (L : LMem) (x1 x2 : Int32), INV M L → Agree INV M L (P_X9_heard x1 x2) (P_X10_heard x1 x2)

def Op_judge (INV : Mem → LMem → Prop) : Prop := ∀ (M : Mem) (L : LMem) (x1 : Int32), INV M L → Agree INV M L (P_X9_judge x1) (P_X10_judge x1)

def Op_day (INV : Mem → LMem → Prop) : Prop := ∀ (M : Mem) (L : LMem) (x1 : Int32), INV M L → Agree INV M L (P_X9_day x1) (P_X10_day x1)

def Op_know (INV : Mem → LMem → Prop) : Prop := ∀ (M : Mem) (L : LMem) (x1 x2 : Int32), INV M L → Agree INV M L (P_X9_know x1 x2) (P_X10_know x1 x2)

def Op_knows (INV : Mem → LMem → Prop) : Prop := ∀ (M : Mem) (L : LMem) (x1 x2 : Int32), INV M L → Agree INV M L (P_X9_knows x1 x2) (P_X10_knows x1 x2)

def Op_call (INV : Mem → LMem → Prop) : Prop := ∀ (M : Mem) (L : LMem) (x1 x2 x3 x4 : Int32), INV M L → Agree INV M L (P_X9_call x1 x2 x3 x4) (P_X10_call x1 x2 x3 x4)

def Op_clear (INV : Mem → LMem → Prop) : Prop := ∀ (M : Mem) (L : LMem) , INV M L → Agree INV M L (P_X9_clear ) (P_X10_clear )

def Op_soonest (INV : Mem → LMem → Prop) : Prop := ∀ (M : Mem) (L : LMem) (x1 : Int32), INV M L → Agree INV M L (P_X9_soonest x1) (P_X10_soonest x1)

def Op_byDue (INV : Mem → LMem → Prop) : Prop := ∀ (M : Mem) (L : LMem) (x1 : Int32), INV M L → Agree INV M L (P_X9_byDue x1) (P_X10_byDue x1)

def Op_locked (INV : Mem → LMem → Prop) : Prop := ∀ (M : Mem) (L : LMem) (x1 x2 : Int32), INV M L → Agree INV M L (P_X9_locked x1 x2) (P_X10_locked x1 x2)

def Op_tried (INV : Mem → LMem → Prop) : Prop := ∀ (M : Mem) (L : LMem) (x1 x2 x3 : Int32), INV M L → (x3 = 0 ∨ x3 = 1) → Agree INV M L (P_X9_tried x1 x2 x3) (P_X10_tried x1 x2 x3)

def Op_forget (INV : Mem → LMem → Prop) : Prop := ∀ (M : Mem) (L : LMem) , INV M L → Agree INV M L (P_X9_forget ) (P_X10_forget )

def Op_stopped (INV : Mem → LMem → Prop) : Prop := ∀ (M : Mem) (L : LMem) (x1 : Int32), INV M L → Agree INV M L (P_X9_stopped x1) (P_X10_stopped x1)

def Op_far (INV : Mem → LMem → Prop) : Prop := ∀ (M : Mem) (L : LMem) (x1 x2 : Int32), INV M L → Agree INV M L (P_X9_far x1 x2) (P_X10_far x1 x2)

def Op_further (INV : Mem → LMem → Prop) : Prop := ∀ (M : Mem) (L : LMem) (x1 x2 : Int32), INV M L → Agree INV M L (P_X9_further x1 x2) (P_X10_further x1 x2)

def Op_bridges (INV : Mem → LMem → Prop) : Prop := ∀ (M : Mem) (L : LMem) , INV M L → Agree INV M L (P_X9_bridges ) (P_X10_bridges )

def Op_image (INV : Mem → LMem → Prop) : Prop := ∀ (M : Mem) (L : LMem) (x1 : Int32), INV M L → Agree INV M L (P_X9_image x1) (P_X10_image x1)

def Op_restore (INV : Mem → LMem → Prop) : Prop := ∀ (M : Mem) (L : LMem) (x1 : Int32), INV M L → Agree INV M L (P_X9_restore x1) (P_X10_restore x1)

def Op_told (INV : Mem → LMem → Prop) : Prop := ∀ (M : Mem) (L : LMem) (x1 : Int32), INV M L → Agree INV M L (P_X9_told x1) (P_X10_told x1)

def OpsOK (INV : Mem → LMem → Prop) : Prop := Op_say INV ∧ Op_wipe INV ∧ Op_fault INV ∧ Op_house INV ∧ Op_tube INV ∧ Op_set INV ∧ Op_way INV ∧ Op_loud INV ∧ Op_heard INV ∧ Op_judge INV ∧ Op_day INV ∧ Op_know INV ∧ Op_knows INV ∧ Op_call INV ∧ Op_clear INV ∧ Op_soonest INV ∧ Op_byDue INV ∧ Op_locked INV ∧ Op_tried INV ∧ Op_forget INV ∧ Op_stopped INV ∧ Op_far INV ∧ Op_further INV ∧ Op_bridges INV ∧ Op_image INV ∧ Op_restore INV ∧ Op_told INV

def LCtx (E : VE) (p : Program) (s : State) (m : MethodId) (meth : Method) (c : Code) (b Lx : Nat) (xs : Nat → Int32) : Prop :=
  p.tables.exec = Jvm.exec ∧ c.code = code ∧ c.maxLocals = 4 ∧ s.vm.findClass R_law = some m.cls ∧ (∀ w ∈ lw_tbl, w.before #[Value.ref b] s = true) ∧ va_X b Lx xs s s.heap ∧ b < s.heap.size ∧ meth.locks = false ∧ meth.sig.returnType = ret ∧ (∀ w ∈ am_nest, va_Nw w s) ∧ va_K E.2.1 vwCl (am_tys E.2.2.2) s ∧ (∀ i j, i < am_NP → j < am_NP → E.2.2.1 i = E.2.2.1 j → i = j) ∧ ∀ k, k < am_NP → s.heap.size ≤ E.2.2.1 k
abbrev lwA (s : State) : Nat → Prop := fun q : Nat => s.heap.size ≤ q
def LG (E : VE) (p : Program) (e : Env) (s : State) (m : MethodId) (below : List Frame) (meth : Method) (c : Code) (b : Nat) (pc : Nat) (i : Int32) (st : List Value) (M : Mem) (L : LMem) : Prop :=
  ∀ (ls : Array Slot) (H : Heap) (locs : List Loc), lv_has ls 4 [(0, .ref b), (1, .ref (E.2.2.1 0)), (2, .ref (E.2.2.1 74)), (3, .int i)] → va_P E.2.1 vwCl (wd E.2.2.1 E.2.2.2 M L) H → va_S (lwA s) s.heap H locs →
    W p E.1 e room_1 s m #[Value.ref b] below meth c H locs 600000 7302250 (lw_Z below #[Value.ref b] s) (F0 m pc ls (st.map (cvl E.2.2.1)))
theorem go_call2 {p : Program} {e : Env} {R : Room} {s : State} {m : MethodId} {args : Array Value} {below : List Frame} {meth : Method} {c : Code} {H : Heap} {locs : List Loc} {QF : State → Prop} {pc : Nat} {ls : Array Slot} {st0 rest : List Value} {a : Array Value} {Q' : QQ} {D : va_G} {ad : Nat → Nat} {cA : Nat → ClassId} {l : Launch} {cells slots : Nat} {A0 : Nat → Prop}
    (hr : va_Run p l e R s m args below meth c H locs cells slots 0 0 (F0 m pc ls st0) rest (QcOf (l, D, ad, cA) Q' a) (am_AD ad)) (hS : va_S A0 s.heap H locs) (hA : ∀ q, am_AD ad q → A0 q)
    (kk : ∀ (r : Option Value) (M : Mem) (L : LMem) (H1 : Heap) (locs1 : List Loc), Q' r M L → va_P D vwCl (wd ad cA M L) H1 → va_S A0 s.heap H1 locs1 → W p l e R s m args below meth c H1 locs1 cells slots QF (F0 m (pc + 3) ls ((r.map (cvl ad)).toList ++ rest))) : W p l e R s m args below meth c H locs cells slots QF (F0 m pc ls st0) := by
  intro T hT X
  obtain ⟨v, st₀, t, T', L, h0, X', hL, e1, e2, ⟨⟨r, M1, L1, hv, hq, hp⟩, hz, hk⟩, st⟩ := hr T hT X
  cases hv
  rw [h0] at hz hk
  obtain ⟨t2, a1, b1⟩ := kk r M1 L1 T'.heap (locs ++ L) hq (by rw [e1]; exact hp)
    ⟨Nat.le_trans hS.1 (by rw [e1]; exact hz), fun q h1 h2 => by rw [e1, hk q (Nat.lt_of_lt_of_le h1 hS.1) (fun z => h2 (hA q z))]; exact hS.2.1 q h1 h2, fun q hq => by
      rcases List.mem_append.mp hq with h | h
      · exact hS.2.2 q h
      · exact hA _ (hL q h)⟩ T' rfl X'
  exact ⟨t2, st t2 a1, b1⟩
section LAW
variable {E : VE} {p : Program} {e : Env} {s : State} {m : MethodId} {below : List Frame} {meth : Method} {c : Code} {b Lx : Nat} {xs : Nat → Int32} {pc : Nat} {i : Int32} {st : List Value} {M : Mem} {L : LMem}
theorem lg_ref1 (C : LCtx E p s m meth c b Lx xs) (hd : decode code pc = .ok (.aload_n 1, 1)) (k : LG E p e s m below meth c b (pc + 1) i (.ref 0 :: st) M L) : LG E p e s m below meth c b pc i st M L :=
  fun ls H locs hl hP hS => lv_aload_n C.1 C.2.1 hd rfl (lv_at hl 1 rfl) (k ls H locs hl hP hS)
theorem lg_ref2 (C : LCtx E p s m meth c b Lx xs) (hd : decode code pc = .ok (.aload_n 2, 1)) (k : LG E p e s m below meth c b (pc + 1) i (.ref 74 :: st) M L) : LG E p e s m below meth c b pc i st M L :=
  fun ls H locs hl hP hS => lv_aload_n C.1 C.2.1 hd rfl (lv_at hl 2 rfl) (k ls H locs hl hP hS)
theorem lg_con (C : LCtx E p s m meth c b Lx xs) {n : Int} (hd : decode code pc = .ok (.iconst n, 1)) (k : LG E p e s m below meth c b (pc + 1) i (.int (Int32.ofInt n) :: st) M L) : LG E p e s m below meth c b pc i st M L :=
  fun ls H locs hl hP hS => lv_iconst C.1 C.2.1 hd rfl (k ls H locs hl hP hS)
theorem lg_goto (C : LCtx E p s m meth c b Lx xs) {off : Int} (tgt : Nat) (hd : decode code pc = .ok (.goto off, 3)) (ht : (pc : Int) + off = (tgt : Int)) (k : LG E p e s m below meth c b tgt i st M L) : LG E p e s m below meth c b pc i st M L :=
  fun ls H locs hl hP hS => lv_goto C.1 C.2.1 hd ht (k ls H locs hl hP hS)
theorem lg_ifeq (C : LCtx E p s m meth c b Lx xs) {x : Int32} {off : Int} (tgt : Nat) (hd : decode code pc = .ok (.ifCond .eq off, 3)) (ht : (pc : Int) + off = (tgt : Int)) (kt : x = 0 → LG E p e s m below meth c b tgt i st M L) (kf : ¬ x = 0 → LG E p e s m below meth c b (pc + 3) i st M L) : LG E p e s m below meth c b pc i (.int x :: st) M L :=
  fun ls H locs hl hP hS => lv_if_eq C.1 C.2.1 hd ht (fun h => kt h ls H locs hl hP hS) (fun h => kf h ls H locs hl hP hS)
theorem lg_arg (C : LCtx E p s m meth c b Lx xs) {j : Nat} (k : Nat) (hi : i = nI j) (hk : j + k < Lx) (hL : Lx ≤ 2560) (h1 : decode code pc = .ok (.aload_n 0, 1)) (h2 : decode code (pc + 1) = .ok (.iload_n 3, 1)) (h3 : decode code (pc + 2) = .ok (.iconst (k : Int), 1)) (h4 : decode code (pc + 3) = .ok (.iadd, 1)) (h5 : decode code (pc + 4) = .ok (.iaload, 1))
    (kk : LG E p e s m below meth c b (pc + 5) i (.int (xs (j + k)) :: st) M L) : LG E p e s m below meth c b pc i st M L := by
  intro ls H locs hl hP hS
  obtain ⟨hx, hb, -, -, -, hX, hbl, -⟩ := C
  refine lv_aload_n hx hb h1 rfl (lv_at hl 0 rfl) ?_
  refine lv_iload_n hx hb h2 rfl (lv_at hl 3 rfl) ?_
  refine lv_iconst (v := nI k) hx hb h3 ?_ ?_
  · apply Int32.toInt_inj.mp
    rw [Int32.toInt_ofInt_of_le (by omega) (by omega), nI_toInt (by omega)]
  refine lv_iadd hx hb h4 ?_
  refine va_sld hx hb hX hbl (Nat.not_le.mpr hbl) hS ?_ h5 ?_
  · rw [hi, nI_add]; exact vp_in_nI hk (by omega)
  · have e : (i + nI k).toNatClampNeg = j + k := by rw [hi, nI_add, nI_clamp (by omega)]
    rw [e]
    exact kk ls H locs hl hP hS
theorem lg_op (C : LCtx E p s m meth c b Lx xs) {j : Nat} (hi : i = nI j) (hk : j < Lx) (hL : Lx ≤ 2560) (h1 : decode code pc = .ok (.aload_n 0, 1)) (h2 : decode code (pc + 1) = .ok (.iload_n 3, 1)) (h5 : decode code (pc + 2) = .ok (.iaload, 1))
    (kk : LG E p e s m below meth c b (pc + 3) i (.int (xs j) :: st) M L) : LG E p e s m below meth c b pc i st M L := by
  intro ls H locs hl hP hS
  obtain ⟨hx, hb, -, -, -, hX, hbl, -⟩ := C
  refine lv_aload_n hx hb h1 rfl (lv_at hl 0 rfl) ?_
  refine lv_iload_n hx hb h2 rfl (lv_at hl 3 rfl) ?_
  refine va_sld hx hb hX hbl (Nat.not_le.mpr hbl) hS (by rw [hi]; exact vp_in_nI hk (by omega)) h5 ?_
  have e : i.toNatClampNeg = j := by rw [hi, nI_clamp (by omega)]
  rw [e]
  exact kk ls H locs hl hP hS
theorem lg_eq (C : LCtx E p s m meth c b Lx xs) {x : Int32} {off : Int} (tgt : Nat) (hd : decode code pc = .ok (.if_icmp .eq off, 3)) (ht : (pc : Int) + off = (tgt : Int)) (k : LG E p e s m below meth c b tgt i st M L) : LG E p e s m below meth c b pc i (.int x :: .int x :: st) M L :=
  fun ls H locs hl hP hS => lv_icmp_eq C.1 C.2.1 hd ht (fun _ => k ls H locs hl hP hS) (fun h => absurd rfl h)
theorem lg_call (C : LCtx E p s m meth c b Lx xs) (y' : Nat) (k : Nat) (av : List Value) {idx : Nat} (hy : y' < 167) (hd : decode code pc = .ok (.invokevirtual idx, 3)) (hl0 : Cond.methodLink R_law idx (am_N y') ∈ lw_tbl) (hso : am_iok y' = true) (hk : Nat.beq (oci k) (am_O y') = true) (hn : Nat.beq av.length (am_P y') = true) (hd2 : lnd (.ref k :: av) = true) (hlx : Nat.ble (lex (.ref k :: av)).length (am_X y') = true) {rest : List Value} (hst : st = av.reverse ++ .ref k :: rest) (hc8 : Nat.ble (csum rest) 8 = true)
    (h : Wp E 60 y' 0 (lpad (am_X y') (lex (.ref k :: av))) [] M L (fun r M L => LG E p e s m below meth c b (pc + 3) i (r.toList ++ rest) M L)) : LG E p e s m below meth c b pc i st M L := by
  subst hst
  intro ls H locs hl hP hS
  obtain ⟨hx, hb, hml, hown, hts, hX, hbl, hlk, hret, hN, hK, hi, had⟩ := id C
  unfold am_iok at hso
  simp only [Bool.and_eq_true, decide_eq_true_eq] at hso
  obtain ⟨⟨hi1, hi2⟩, hi3⟩ := hso
  have him : Cond.instanceMethod (am_N y') ∈ lw_tbl := am_t1 (List.mem_of_getElem? hi1)
  have hsel : Cond.selects (am_N y').cls (am_N y') (am_N y') ∈ lw_tbl := by
    split at hi2
    · exact am_t1 (List.mem_of_getElem? (of_decide_eq_true hi2))
    · exact List.mem_append_left _ (List.mem_of_getElem? (of_decide_eq_true hi2))
  have ho := Nat.eq_of_beq_eq_true hk
  have ho11 : am_O y' < 11 := Nat.blt_eq.mp hi3
  obtain ⟨hsh, hkN⟩ := oci_spec ho (by omega)
  obtain ⟨-, hini, -, hdd, hX45, hcl⟩ := am_mokW hy
  have hcell := am_recv (hcl := hcl) ho11 hK hP hkN hsh
  have hG : GoodIn lw_tbl (am_wsy y') := fun w hw => by
    have h2 := am_good hy w hw
    exact ⟨(List.mem_filter.mp h2.1).1, h2.2⟩
  rw [cvl_rev]
  refine go_call2 (D := E.2.1) (cA := E.2.2.2) (va_runV (b := E.2.2.1 k) (C := (am_N y').cls) (As := av.map (cvl E.2.2.1)) (rest := rest.map (cvl E.2.2.1)) (Ts := lw_tbl) ⟨hx, hb, hml, hown, hts⟩ (met_of_wp hy hd2 hlx h)
    ⟨callB_of (am_P y') hts hG rfl rfl rfl (hts _ (List.mem_filter.mp hini).1) (hts _ hl0) hdd ⟨by decide, by show 8 + (am_X y' + 11) + 64 * (60 + 1) ≤ 84000; omega⟩, hts _ him, hts _ hsel⟩ ⟨PcOf.blind, hcell, fun U hU hW => PcOf.at (av := .ref k :: av) hW (by rw [hU]; exact hP) hK hN hi⟩ rfl (by rw [List.length_map]; exact Nat.eq_of_beq_eq_true hn) hl.1 rfl ?_ hd ⟨Nat.le_refl _, Nat.le_refl _⟩) hS (fun q hq => by obtain ⟨k2, hk2, rfl⟩ := hq; exact had k2 hk2) (fun r M1 L1 H1 locs1 hq hP1 hS1 => ?_)
  · exact lv_room (by rw [csum_eq]; exact Nat.le_of_ble_eq_true hc8)
  · rw [← tol_map]
    exact hq ls H1 locs1 hl hP1 hS1

theorem lc_say (C : LCtx E p s m meth c b Lx xs) {INV : Mem → LMem → Prop} (HO : Op_say INV) {j : Nat} (hi : i = nI j) (hj : j + 5 ≤ Lx) (hL : Lx ≤ 2560) (hI : INV M L) (kk : ∀ (M : Mem) (L : LMem), INV M L → LG E p e s m below meth c b 913 i [] M L) : LG E p e s m below meth c b 156 i [] M L := by
  have hA : P_X9_say (xs (j + 1)) M L (fun r M1 L1 => P_X10_say (xs (j + 1)) M1 L1 (fun r2 M2 L2 => r2 = r ∧ INV M2 L2)) := HO M L (xs (j + 1)) hI
  refine lg_ref1 C (by decide +kernel) ?_
  refine lg_arg C 1 hi (by omega) hL (by decide +kernel) (by decide +kernel) (by decide +kernel) (by decide +kernel) (by decide +kernel) ?_
  refine lg_call C 62 0 [.int (xs (j + 1))] (idx := 13) (by decide) (by decide +kernel) (in_2 (List.mem_of_getElem? (i := 121) rfl)) (by decide +kernel) (by decide +kernel) rfl rfl rfl (rest := []) rfl rfl ?_
  refine t_X9_say hA (fun r M1 L1 hB => ?_)
  show LG E p e s m below meth c b 165 i [.int r] M1 L1
  refine lg_ref2 C (by decide +kernel) ?_
  refine lg_arg C 1 hi (by omega) hL (by decide +kernel) (by decide +kernel) (by decide +kernel) (by decide +kernel) (by decide +kernel) ?_
  refine lg_call C 98 74 [.int (xs (j + 1))] (idx := 17) (by decide) (by decide +kernel) (in_4 (List.mem_of_getElem? (i := 207) rfl)) (by decide +kernel) (by decide +kernel) rfl rfl rfl (rest := [.int r]) rfl rfl ?_
  refine t_X10_say hB (fun r2 M2 L2 hq => ?_)
  obtain ⟨hq1, hI2⟩ := hq
  rw [hq1]
  show LG E p e s m below meth c b 174 i [.int r, .int r] M2 L2
  exact lg_eq C (off := 739) 913 (by decide +kernel) (by decide) (kk M2 L2 hI2)
theorem lc_wipe (C : LCtx E p s m meth c b Lx xs) {INV : Mem → LMem → Prop} (HO : Op_wipe INV) {j : Nat} (hi : i = nI j) (hj : j + 5 ≤ Lx) (hL : Lx ≤ 2560) (hI : INV M L) (kk : ∀ (M : Mem) (L : LMem), INV M L → LG E p e s m below meth c b 913 i [] M L) : LG E p e s m below meth c b 179 i [] M L := by
  have hA : P_X9_wipe  M L (fun r M1 L1 => P_X10_wipe  M1 L1 (fun r2 M2 L2 => r2 = r ∧ INV M2 L2)) := HO M L  hI
  refine lg_ref1 C (by decide +kernel) ?_
  refine lg_call C 63 0 [] (idx := 18) (by decide) (by decide +kernel) (in_2 (List.mem_of_getElem? (i := 129) rfl)) (by decide +kernel) (by decide +kernel) rfl rfl rfl (rest := []) rfl rfl ?_
  refine t_X9_wipe hA (fun r M1 L1 hB => ?_)
  show LG E p e s m below meth c b 183 i [.int r] M1 L1
  refine lg_ref2 C (by decide +kernel) ?_
  refine lg_call C 99 74 [] (idx := 22) (by decide) (by decide +kernel) (in_4 (List.mem_of_getElem? (i := 216) rfl)) (by decide +kernel) (by decide +kernel) rfl rfl rfl (rest := [.int r]) rfl rfl ?_
  refine t_X10_wipe hB (fun r2 M2 L2 hq => ?_)
  obtain ⟨hq1, hI2⟩ := hq
  rw [hq1]
  show LG E p e s m below meth c b 187 i [.int r, .int r] M2 L2
  exact lg_eq C (off := 726) 913 (by decide +kernel) (by decide) (kk M2 L2 hI2)
theorem lc_fault (C : LCtx E p s m meth c b Lx xs) {INV : Mem → LMem → Prop} (HO : Op_fault INV) {j : Nat} (hi : i = nI j) (hj : j + 5 ≤ Lx) (hL : Lx ≤ 2560) (hI : INV M L) (kk : ∀ (M : Mem) (L : LMem), INV M L → LG E p e s m below meth c b 913 i [] M L) : LG E p e s m below meth c b 192 i [] M L := by
  have hA : P_X9_fault (xs (j + 1)) M L (fun r M1 L1 => P_X10_fault (xs (j + 1)) M1 L1 (fun r2 M2 L2 => r2 = r ∧ INV M2 L2)) := HO M L (xs (j + 1)) hI
  refine lg_ref1 C (by decide +kernel) ?_
  refine lg_arg C 1 hi (by omega) hL (by decide +kernel) (by decide +kernel) (by decide +kernel) (by decide +kernel) (by decide +kernel) ?_
  refine lg_call C 64 0 [.int (xs (j + 1))] (idx := 23) (by decide) (by decide +kernel) (in_2 (List.mem_of_getElem? (i := 137) rfl)) (by decide +kernel) (by decide +kernel) rfl rfl rfl (rest := []) rfl rfl ?_
  refine t_X9_fault hA (fun r M1 L1 hB => ?_)
  show LG E p e s m below meth c b 201 i [.int r] M1 L1
  refine lg_ref2 C (by decide +kernel) ?_
  refine lg_arg C 1 hi (by omega) hL (by decide +kernel) (by decide +kernel) (by decide +kernel) (by decide +kernel) (by decide +kernel) ?_
  refine lg_call C 104 74 [.int (xs (j + 1))] (idx := 26) (by decide) (by decide +kernel) (in_4 (List.mem_of_getElem? (i := 220) rfl)) (by decide +kernel) (by decide +kernel) rfl rfl rfl (rest := [.int r]) rfl rfl ?_
  refine t_X10_fault hB (fun r2 M2 L2 hq => ?_)
  obtain ⟨hq1, hI2⟩ := hq
  rw [hq1]
  show LG E p e s m below meth c b 210 i [.int r, .int r] M2 L2
  exact lg_eq C (off := 703) 913 (by decide +kernel) (by decide) (kk M2 L2 hI2)
theorem lc_house (C : LCtx E p s m meth c b Lx xs) {INV : Mem → LMem → Prop} (HO : Op_house INV) {j : Nat} (hi : i = nI j) (hj : j + 5 ≤ Lx) (hL : Lx ≤ 2560) (hI : INV M L) (kk : ∀ (M : Mem) (L : LMem), INV M L → LG E p e s m below meth c b 913 i [] M L) : LG E p e s m below meth c b 215 i [] M L := by
  have hA : P_X9_house  M L (fun r M1 L1 => P_X10_house  M1 L1 (fun r2 M2 L2 => r2 = r ∧ INV M2 L2)) := HO M L  hI
  refine lg_ref1 C (by decide +kernel) ?_
  refine lg_call C 65 0 [] (idx := 27) (by decide) (by decide +kernel) (in_2 (List.mem_of_getElem? (i := 172) rfl)) (by decide +kernel) (by decide +kernel) rfl rfl rfl (rest := []) rfl rfl ?_
  refine t_X9_house hA (fun r M1 L1 hB => ?_)
  show LG E p e s m below meth c b 219 i [.int r] M1 L1
  refine lg_ref2 C (by decide +kernel) ?_
  refine lg_call C 106 74 [] (idx := 30) (by decide) (by decide +kernel) (in_5 (List.mem_of_getElem? (i := 2) rfl)) (by decide +kernel) (by decide +kernel) rfl rfl rfl (rest := [.int r]) rfl rfl ?_
  refine t_X10_house hB (fun r2 M2 L2 hq => ?_)
  obtain ⟨hq1, hI2⟩ := hq
  rw [hq1]
  show LG E p e s m below meth c b 223 i [.int r, .int r] M2 L2
  exact lg_eq C (off := 690) 913 (by decide +kernel) (by decide) (kk M2 L2 hI2)
theorem lc_tube (C : LCtx E p s m meth c b Lx xs) {INV : Mem → LMem → Prop} (HO : Op_tube INV) {j : Nat} (hi : i = nI j) (hj : j + 5 ≤ Lx) (hL : Lx ≤ 2560) (hI : INV M L) (kk : ∀ (M : Mem) (L : LMem), INV M L → LG E p e s m below meth c b 913 i [] M L) : LG E p e s m below meth c b 228 i [] M L := by
  have hA : P_X9_tube (xs (j + 1)) (xs (j + 2)) M L (fun r M1 L1 => P_X10_tube (xs (j + 1)) (xs (j + 2)) M1 L1 (fun r2 M2 L2 => r2 = r ∧ INV M2 L2)) := HO M L (xs (j + 1)) (xs (j + 2)) hI
  refine lg_ref1 C (by decide +kernel) ?_
  refine lg_arg C 1 hi (by omega) hL (by decide +kernel) (by decide +kernel) (by decide +kernel) (by decide +kernel) (by decide +kernel) ?_
  refine lg_arg C 2 hi (by omega) hL (by decide +kernel) (by decide +kernel) (by decide +kernel) (by decide +kernel) (by decide +kernel) ?_
  refine lg_call C 66 0 [.int (xs (j + 1)), .int (xs (j + 2))] (idx := 31) (by decide) (by decide +kernel) (in_2 (List.mem_of_getElem? (i := 197) rfl)) (by decide +kernel) (by decide +kernel) rfl rfl rfl (rest := []) rfl rfl ?_
  refine t_X9_tube hA (fun r M1 L1 hB => ?_)
  show LG E p e s m below meth c b 242 i [.int r] M1 L1
  refine lg_ref2 C (by decide +kernel) ?_
  refine lg_arg C 1 hi (by omega) hL (by decide +kernel) (by decide +kernel) (by decide +kernel) (by decide +kernel) (by decide +kernel) ?_
  refine lg_arg C 2 hi (by omega) hL (by decide +kernel) (by decide +kernel) (by decide +kernel) (by decide +kernel) (by decide +kernel) ?_
  refine lg_call C 107 74 [.int (xs (j + 1)), .int (xs (j + 2))] (idx := 35) (by decide) (by decide +kernel) (in_5 (List.mem_of_getElem? (i := 10) rfl)) (by decide +kernel) (by decide +kernel) rfl rfl rfl (rest := [.int r]) rfl rfl ?_
  refine t_X10_tube hB (fun r2 M2 L2 hq => ?_)
  obtain ⟨hq1, hI2⟩ := hq
  rw [hq1]
  show LG E p e s m below meth c b 256 i [.int r, .int r] M2 L2
  exact lg_eq C (off := 657) 913 (by decide +kernel) (by decide) (kk M2 L2 hI2)
theorem lc_set (C : LCtx E p s m meth c b Lx xs) {INV : Mem → LMem → Prop} (HO : Op_set INV) {j : Nat} (hi : i = nI j) (hj : j + 5 ≤ Lx) (hL : Lx ≤ 2560) (hI : INV M L) (kk : ∀ (M : Mem) (L : LMem), INV M L → LG E p e s m below meth c b 913 i [] M L) : LG E p e s m below meth c b 261 i [] M L := by
  have hA : P_X9_set (xs (j + 1)) (xs (j + 2)) M L (fun r M1 L1 => P_X10_set (xs (j + 1)) (xs (j + 2)) M1 L1 (fun r2 M2 L2 => r2 = r ∧ INV M2 L2)) := HO M L (xs (j + 1)) (xs (j + 2)) hI
  refine lg_ref1 C (by decide +kernel) ?_
  refine lg_arg C 1 hi (by omega) hL (by decide +kernel) (by decide +kernel) (by decide +kernel) (by decide +kernel) (by decide +kernel) ?_
  refine lg_arg C 2 hi (by omega) hL (by decide +kernel) (by decide +kernel) (by decide +kernel) (by decide +kernel) (by decide +kernel) ?_
  refine lg_call C 67 0 [.int (xs (j + 1)), .int (xs (j + 2))] (idx := 36) (by decide) (by decide +kernel) (in_2 (List.mem_of_getElem? (i := 201) rfl)) (by decide +kernel) (by decide +kernel) rfl rfl rfl (rest := []) rfl rfl ?_
  refine t_X9_set hA (fun r M1 L1 hB => ?_)
  show LG E p e s m below meth c b 275 i [.int r] M1 L1
  refine lg_ref2 C (by decide +kernel) ?_
  refine lg_arg C 1 hi (by omega) hL (by decide +kernel) (by decide +kernel) (by decide +kernel) (by decide +kernel) (by decide +kernel) ?_
  refine lg_arg C 2 hi (by omega) hL (by decide +kernel) (by decide +kernel) (by decide +kernel) (by decide +kernel) (by decide +kernel) ?_
  refine lg_call C 108 74 [.int (xs (j + 1)), .int (xs (j + 2))] (idx := 39) (by decide) (by decide +kernel) (in_5 (List.mem_of_getElem? (i := 14) rfl)) (by decide +kernel) (by decide +kernel) rfl rfl rfl (rest := [.int r]) rfl rfl ?_
  refine t_X10_set hB (fun r2 M2 L2 hq => ?_)
  obtain ⟨hq1, hI2⟩ := hq
  rw [hq1]
  show LG E p e s m below meth c b 289 i [.int r, .int r] M2 L2
  exact lg_eq C (off := 624) 913 (by decide +kernel) (by decide) (kk M2 L2 hI2)
theorem lc_way (C : LCtx E p s m meth c b Lx xs) {INV : Mem → LMem → Prop} (HO : Op_way INV) {j : Nat} (hi : i = nI j) (hj : j + 5 ≤ Lx) (hL : Lx ≤ 2560) (hI : INV M L) (kk : ∀ (M : Mem) (L : LMem), INV M L → LG E p e s m below meth c b 913 i [] M L) : LG E p e s m below meth c b 294 i [] M L := by
  have hA : P_X9_way (xs (j + 1)) (xs (j + 2)) (xs (j + 3)) M L (fun r M1 L1 => P_X10_way (xs (j + 1)) (xs (j + 2)) (xs (j + 3)) M1 L1 (fun r2 M2 L2 => r2 = r ∧ INV M2 L2)) := HO M L (xs (j + 1)) (xs (j + 2)) (xs (j + 3)) hI
  refine lg_ref1 C (by decide +kernel) ?_
  refine lg_arg C 1 hi (by omega) hL (by decide +kernel) (by decide +kernel) (by decide +kernel) (by decide +kernel) (by decide +kernel) ?_
  refine lg_arg C 2 hi (by omega) hL (by decide +kernel) (by decide +kernel) (by decide +kernel) (by decide +kernel) (by decide +kernel) ?_
  refine lg_arg C 3 hi (by omega) hL (by decide +kernel) (by decide +kernel) (by decide +kernel) (by decide +kernel) (by decide +kernel) ?_
  refine lg_call C 68 0 [.int (xs (j + 1)), .int (xs (j + 2)), .int (xs (j + 3))] (idx := 40) (by decide) (by decide +kernel) (in_2 (List.mem_of_getElem? (i := 206) rfl)) (by decide +kernel) (by decide +kernel) rfl rfl rfl (rest := []) rfl rfl ?_
  refine t_X9_way hA (fun r M1 L1 hB => ?_)
  show LG E p e s m below meth c b 313 i [.int r] M1 L1
  refine lg_ref2 C (by decide +kernel) ?_
  refine lg_arg C 1 hi (by omega) hL (by decide +kernel) (by decide +kernel) (by decide +kernel) (by decide +kernel) (by decide +kernel) ?_
  refine lg_arg C 2 hi (by omega) hL (by decide +kernel) (by decide +kernel) (by decide +kernel) (by decide +kernel) (by decide +kernel) ?_
  refine lg_arg C 3 hi (by omega) hL (by decide +kernel) (by decide +kernel) (by decide +kernel) (by decide +kernel) (by decide +kernel) ?_
  refine lg_call C 115 74 [.int (xs (j + 1)), .int (xs (j + 2)), .int (xs (j + 3))] (idx := 44) (by decide) (by decide +kernel) (in_5 (List.mem_of_getElem? (i := 20) rfl)) (by decide +kernel) (by decide +kernel) rfl rfl rfl (rest := [.int r]) rfl rfl ?_
  refine t_X10_way hB (fun r2 M2 L2 hq => ?_)
  obtain ⟨hq1, hI2⟩ := hq
  rw [hq1]
  show LG E p e s m below meth c b 332 i [.int r, .int r] M2 L2
  exact lg_eq C (off := 581) 913 (by decide +kernel) (by decide) (kk M2 L2 hI2)
theorem lc_loud (C : LCtx E p s m meth c b Lx xs) {INV : Mem → LMem → Prop} (HO : Op_loud INV) {j : Nat} (hi : i = nI j) (hj : j + 5 ≤ Lx) (hL : Lx ≤ 2560) (hI : INV M L) (kk : ∀ (M : Mem) (L : LMem), INV M L → LG E p e s m below meth c b 913 i [] M L) : LG E p e s m below meth c b 337 i [] M L := by
  have hA : P_X9_loud (xs (j + 1)) (xs (j + 2)) (xs (j + 3)) M L (fun r M1 L1 => P_X10_loud (xs (j + 1)) (xs (j + 2)) (xs (j + 3)) M1 L1 (fun r2 M2 L2 => r2 = r ∧ INV M2 L2)) := HO M L (xs (j + 1)) (xs (j + 2)) (xs (j + 3)) hI
  refine lg_ref1 C (by decide +kernel) ?_
  refine lg_arg C 1 hi (by omega) hL (by decide +kernel) (by decide +kernel) (by decide +kernel) (by decide +kernel) (by decide +kernel) ?_
  refine lg_arg C 2 hi (by omega) hL (by decide +kernel) (by decide +kernel) (by decide +kernel) (by decide +kernel) (by decide +kernel) ?_
  refine lg_arg C 3 hi (by omega) hL (by decide +kernel) (by decide +kernel) (by decide +kernel) (by decide +kernel) (by decide +kernel) ?_
  refine lg_call C 69 0 [.int (xs (j + 1)), .int (xs (j + 2)), .int (xs (j + 3))] (idx := 45) (by decide) (by decide +kernel) (in_3 (List.mem_of_getElem? (i := 4) rfl)) (by decide +kernel) (by decide +kernel) rfl rfl rfl (rest := []) rfl rfl ?_
  refine t_X9_loud hA (fun r M1 L1 hB => ?_)
  show LG E p e s m below meth c b 356 i [.int r] M1 L1
  refine lg_ref2 C (by decide +kernel) ?_
  refine lg_arg C 1 hi (by omega) hL (by decide +kernel) (by decide +kernel) (by decide +kernel) (by decide +kernel) (by decide +kernel) ?_
  refine lg_arg C 2 hi (by omega) hL (by decide +kernel) (by decide +kernel) (by decide +kernel) (by decide +kernel) (by decide +kernel) ?_
  refine lg_arg C 3 hi (by omega) hL (by decide +kernel) (by decide +kernel) (by decide +kernel) (by decide +kernel) (by decide +kernel) ?_
  refine lg_call C 116 74 [.int (xs (j + 1)), .int (xs (j + 2)), .int (xs (j + 3))] (idx := 48) (by decide) (by decide +kernel) (in_5 (List.mem_of_getElem? (i := 51) rfl)) (by decide +kernel) (by decide +kernel) rfl rfl rfl (rest := [.int r]) rfl rfl ?_
  refine t_X10_loud hB (fun r2 M2 L2 hq => ?_)
  obtain ⟨hq1, hI2⟩ := hq
  rw [hq1]
  show LG E p e s m below meth c b 375 i [.int r, .int r] M2 L2
  exact lg_eq C (off := 538) 913 (by decide +kernel) (by decide) (kk M2 L2 hI2)
theorem lc_heard (C : LCtx E p s m meth c b Lx xs) {INV : Mem → LMem → Prop} (HO : Op_heard INV) {j : Nat} (hi : i = nI j) (hj : j + 5 ≤ Lx) (hL : Lx ≤ 2560) (hI : INV M L) (kk : ∀ (M : Mem) (L : LMem), INV M L → LG E p e s m below meth c b 913 i [] M L) : LG E p e s m below meth c b 380 i [] M L := by
  have hA : P_X9_heard (xs (j + 1)) (xs (j + 2)) M L (fun r M1 L1 => P_X10_heard (xs (j + 1)) (xs (j + 2)) M1 L1 (fun r2 M2 L2 => r2 = r ∧ INV M2 L2)) := HO M L (xs (j + 1)) (xs (j + 2)) hI
  refine lg_ref1 C (by decide +kernel) ?_
  refine lg_arg C 1 hi (by omega) hL (by decide +kernel) (by decide +kernel) (by decide +kernel) (by decide +kernel) (by decide +kernel) ?_
  refine lg_arg C 2 hi (by omega) hL (by decide +kernel) (by decide +kernel) (by decide +kernel) (by decide +kernel) (by decide +kernel) ?_
  refine lg_call C 70 0 [.int (xs (j + 1)), .int (xs (j + 2))] (idx := 49) (by decide) (by decide +kernel) (in_3 (List.mem_of_getElem? (i := 12) rfl)) (by decide +kernel) (by decide +kernel) rfl rfl rfl (rest := []) rfl rfl ?_
  refine t_X9_heard hA (fun r M1 L1 hB => ?_)
  show LG E p e s m below meth c b 394 i [.int r] M1 L1
  refine lg_ref2 C (by decide +kernel) ?_
  refine lg_arg C 1 hi (by omega) hL (by decide +kernel) (by decide +kernel) (by decide +kernel) (by decide +kernel) (by decide +kernel) ?_
  refine lg_arg C 2 hi (by omega) hL (by decide +kernel) (by decide +kernel) (by decide +kernel) (by decide +kernel) (by decide +kernel) ?_
  refine lg_call C 118 74 [.int (xs (j + 1)), .int (xs (j + 2))] (idx := 52) (by decide) (by decide +kernel) (in_5 (List.mem_of_getElem? (i := 55) rfl)) (by decide +kernel) (by decide +kernel) rfl rfl rfl (rest := [.int r]) rfl rfl ?_
  refine t_X10_heard hB (fun r2 M2 L2 hq => ?_)
  obtain ⟨hq1, hI2⟩ := hq
  rw [hq1]
  show LG E p e s m below meth c b 408 i [.int r, .int r] M2 L2
  exact lg_eq C (off := 505) 913 (by decide +kernel) (by decide) (kk M2 L2 hI2)
theorem lc_judge (C : LCtx E p s m meth c b Lx xs) {INV : Mem → LMem → Prop} (HO : Op_judge INV) {j : Nat} (hi : i = nI j) (hj : j + 5 ≤ Lx) (hL : Lx ≤ 2560) (hI : INV M L) (kk : ∀ (M : Mem) (L : LMem), INV M L → LG E p e s m below meth c b 913 i [] M L) : LG E p e s m below meth c b 413 i [] M L := by
  have hA : P_X9_judge (xs (j + 1)) M L (fun r M1 L1 => P_X10_judge (xs (j + 1)) M1 L1 (fun r2 M2 L2 => r2 = r ∧ INV M2 L2)) := HO M L (xs (j + 1)) hI
  refine lg_ref1 C (by decide +kernel) ?_
  refine lg_arg C 1 hi (by omega) hL (by decide +kernel) (by decide +kernel) (by decide +kernel) (by decide +kernel) (by decide +kernel) ?_
  refine lg_call C 71 0 [.int (xs (j + 1))] (idx := 53) (by decide) (by decide +kernel) (in_3 (List.mem_of_getElem? (i := 20) rfl)) (by decide +kernel) (by decide +kernel) rfl rfl rfl (rest := []) rfl rfl ?_
  refine t_X9_judge hA (fun r M1 L1 hB => ?_)
  show LG E p e s m below meth c b 422 i [.int r] M1 L1
  refine lg_ref2 C (by decide +kernel) ?_
  refine lg_arg C 1 hi (by omega) hL (by decide +kernel) (by decide +kernel) (by decide +kernel) (by decide +kernel) (by decide +kernel) ?_
  refine lg_call C 126 74 [.int (xs (j + 1))] (idx := 56) (by decide) (by decide +kernel) (in_5 (List.mem_of_getElem? (i := 63) rfl)) (by decide +kernel) (by decide +kernel) rfl rfl rfl (rest := [.int r]) rfl rfl ?_
  refine t_X10_judge hB (fun r2 M2 L2 hq => ?_)
  obtain ⟨hq1, hI2⟩ := hq
  rw [hq1]
  show LG E p e s m below meth c b 431 i [.int r, .int r] M2 L2
  exact lg_eq C (off := 482) 913 (by decide +kernel) (by decide) (kk M2 L2 hI2)
theorem lc_day (C : LCtx E p s m meth c b Lx xs) {INV : Mem → LMem → Prop} (HO : Op_day INV) {j : Nat} (hi : i = nI j) (hj : j + 5 ≤ Lx) (hL : Lx ≤ 2560) (hI : INV M L) (kk : ∀ (M : Mem) (L : LMem), INV M L → LG E p e s m below meth c b 913 i [] M L) : LG E p e s m below meth c b 436 i [] M L := by
  have hA : P_X9_day (xs (j + 1)) M L (fun r M1 L1 => P_X10_day (xs (j + 1)) M1 L1 (fun r2 M2 L2 => r2 = r ∧ INV M2 L2)) := HO M L (xs (j + 1)) hI
  refine lg_ref1 C (by decide +kernel) ?_
  refine lg_arg C 1 hi (by omega) hL (by decide +kernel) (by decide +kernel) (by decide +kernel) (by decide +kernel) (by decide +kernel) ?_
  refine lg_call C 72 0 [.int (xs (j + 1))] (idx := 57) (by decide) (by decide +kernel) (in_3 (List.mem_of_getElem? (i := 59) rfl)) (by decide +kernel) (by decide +kernel) rfl rfl rfl (rest := []) rfl rfl ?_
  refine t_X9_day hA (fun r M1 L1 hB => ?_)
  show LG E p e s m below meth c b 445 i [.int r] M1 L1
  refine lg_ref2 C (by decide +kernel) ?_
  refine lg_arg C 1 hi (by omega) hL (by decide +kernel) (by decide +kernel) (by decide +kernel) (by decide +kernel) (by decide +kernel) ?_
  refine lg_call C 127 74 [.int (xs (j + 1))] (idx := 60) (by decide) (by decide +kernel) (in_5 (List.mem_of_getElem? (i := 98) rfl)) (by decide +kernel) (by decide +kernel) rfl rfl rfl (rest := [.int r]) rfl rfl ?_
  refine t_X10_day hB (fun r2 M2 L2 hq => ?_)
  obtain ⟨hq1, hI2⟩ := hq
  rw [hq1]
  show LG E p e s m below meth c b 454 i [.int r, .int r] M2 L2
  exact lg_eq C (off := 459) 913 (by decide +kernel) (by decide) (kk M2 L2 hI2)
theorem lc_know (C : LCtx E p s m meth c b Lx xs) {INV : Mem → LMem → Prop} (HO : Op_know INV) {j : Nat} (hi : i = nI j) (hj : j + 5 ≤ Lx) (hL : Lx ≤ 2560) (hI : INV M L) (kk : ∀ (M : Mem) (L : LMem), INV M L → LG E p e s m below meth c b 913 i [] M L) : LG E p e s m below meth c b 459 i [] M L := by
  have hA : P_X9_know (xs (j + 1)) (xs (j + 2)) M L (fun r M1 L1 => P_X10_know (xs (j + 1)) (xs (j + 2)) M1 L1 (fun r2 M2 L2 => r2 = r ∧ INV M2 L2)) := HO M L (xs (j + 1)) (xs (j + 2)) hI
  refine lg_ref1 C (by decide +kernel) ?_
  refine lg_arg C 1 hi (by omega) hL (by decide +kernel) (by decide +kernel) (by decide +kernel) (by decide +kernel) (by decide +kernel) ?_
  refine lg_arg C 2 hi (by omega) hL (by decide +kernel) (by decide +kernel) (by decide +kernel) (by decide +kernel) (by decide +kernel) ?_
  refine lg_call C 73 0 [.int (xs (j + 1)), .int (xs (j + 2))] (idx := 61) (by decide) (by decide +kernel) (in_3 (List.mem_of_getElem? (i := 63) rfl)) (by decide +kernel) (by decide +kernel) rfl rfl rfl (rest := []) rfl rfl ?_
  refine t_X9_know hA (fun r M1 L1 hB => ?_)
  show LG E p e s m below meth c b 473 i [.int r] M1 L1
  refine lg_ref2 C (by decide +kernel) ?_
  refine lg_arg C 1 hi (by omega) hL (by decide +kernel) (by decide +kernel) (by decide +kernel) (by decide +kernel) (by decide +kernel) ?_
  refine lg_arg C 2 hi (by omega) hL (by decide +kernel) (by decide +kernel) (by decide +kernel) (by decide +kernel) (by decide +kernel) ?_
  refine lg_call C 128 74 [.int (xs (j + 1)), .int (xs (j + 2))] (idx := 64) (by decide) (by decide +kernel) (in_5 (List.mem_of_getElem? (i := 103) rfl)) (by decide +kernel) (by decide +kernel) rfl rfl rfl (rest := [.int r]) rfl rfl ?_
  refine t_X10_know hB (fun r2 M2 L2 hq => ?_)
  obtain ⟨hq1, hI2⟩ := hq
  rw [hq1]
  show LG E p e s m below meth c b 487 i [.int r, .int r] M2 L2
  exact lg_eq C (off := 426) 913 (by decide +kernel) (by decide) (kk M2 L2 hI2)
theorem lc_knows (C : LCtx E p s m meth c b Lx xs) {INV : Mem → LMem → Prop} (HO : Op_knows INV) {j : Nat} (hi : i = nI j) (hj : j + 5 ≤ Lx) (hL : Lx ≤ 2560) (hI : INV M L) (kk : ∀ (M : Mem) (L : LMem), INV M L → LG E p e s m below meth c b 913 i [] M L) : LG E p e s m below meth c b 492 i [] M L := by
  have hA : P_X9_knows (xs (j + 1)) (xs (j + 2)) M L (fun r M1 L1 => P_X10_knows (xs (j + 1)) (xs (j + 2)) M1 L1 (fun r2 M2 L2 => r2 = r ∧ INV M2 L2)) := HO M L (xs (j + 1)) (xs (j + 2)) hI
  refine lg_ref1 C (by decide +kernel) ?_
  refine lg_arg C 1 hi (by omega) hL (by decide +kernel) (by decide +kernel) (by decide +kernel) (by decide +kernel) (by decide +kernel) ?_
  refine lg_arg C 2 hi (by omega) hL (by decide +kernel) (by decide +kernel) (by decide +kernel) (by decide +kernel) (by decide +kernel) ?_
  refine lg_call C 74 0 [.int (xs (j + 1)), .int (xs (j + 2))] (idx := 65) (by decide) (by decide +kernel) (in_3 (List.mem_of_getElem? (i := 67) rfl)) (by decide +kernel) (by decide +kernel) rfl rfl rfl (rest := []) rfl rfl ?_
  refine t_X9_knows hA (fun r M1 L1 hB => ?_)
  show LG E p e s m below meth c b 506 i [.int r] M1 L1
  refine lg_ref2 C (by decide +kernel) ?_
  refine lg_arg C 1 hi (by omega) hL (by decide +kernel) (by decide +kernel) (by decide +kernel) (by decide +kernel) (by decide +kernel) ?_
  refine lg_arg C 2 hi (by omega) hL (by decide +kernel) (by decide +kernel) (by decide +kernel) (by decide +kernel) (by decide +kernel) ?_
  refine lg_call C 129 74 [.int (xs (j + 1)), .int (xs (j + 2))] (idx := 68) (by decide) (by decide +kernel) (in_5 (List.mem_of_getElem? (i := 107) rfl)) (by decide +kernel) (by decide +kernel) rfl rfl rfl (rest := [.int r]) rfl rfl ?_
  refine t_X10_knows hB (fun r2 M2 L2 hq => ?_)
  obtain ⟨hq1, hI2⟩ := hq
  rw [hq1]
  show LG E p e s m below meth c b 520 i [.int r, .int r] M2 L2
  exact lg_eq C (off := 393) 913 (by decide +kernel) (by decide) (kk M2 L2 hI2)
theorem lc_call (C : LCtx E p s m meth c b Lx xs) {INV : Mem → LMem → Prop} (HO : Op_call INV) {j : Nat} (hi : i = nI j) (hj : j + 5 ≤ Lx) (hL : Lx ≤ 2560) (hI : INV M L) (kk : ∀ (M : Mem) (L : LMem), INV M L → LG E p e s m below meth c b 913 i [] M L) : LG E p e s m below meth c b 525 i [] M L := by
  have hA : P_X9_call (xs (j + 1)) (xs (j + 2)) (xs (j + 3)) (xs (j + 4)) M L (fun r M1 L1 => P_X10_call (xs (j + 1)) (xs (j + 2)) (xs (j + 3)) (xs (j + 4)) M1 L1 (fun r2 M2 L2 => r2 = r ∧ INV M2 L2)) := HO M L (xs (j + 1)) (xs (j + 2)) (xs (j + 3)) (xs (j + 4)) hI
  refine lg_ref1 C (by decide +kernel) ?_
  refine lg_arg C 1 hi (by omega) hL (by decide +kernel) (by decide +kernel) (by decide +kernel) (by decide +kernel) (by decide +kernel) ?_
  refine lg_arg C 2 hi (by omega) hL (by decide +kernel) (by decide +kernel) (by decide +kernel) (by decide +kernel) (by decide +kernel) ?_
  refine lg_arg C 3 hi (by omega) hL (by decide +kernel) (by decide +kernel) (by decide +kernel) (by decide +kernel) (by decide +kernel) ?_
  refine lg_arg C 4 hi (by omega) hL (by decide +kernel) (by decide +kernel) (by decide +kernel) (by decide +kernel) (by decide +kernel) ?_
  refine lg_call C 75 0 [.int (xs (j + 1)), .int (xs (j + 2)), .int (xs (j + 3)), .int (xs (j + 4))] (idx := 69) (by decide) (by decide +kernel) (in_3 (List.mem_of_getElem? (i := 71) rfl)) (by decide +kernel) (by decide +kernel) rfl rfl rfl (rest := []) rfl rfl ?_
  refine t_X9_call hA (fun r M1 L1 hB => ?_)
  show LG E p e s m below meth c b 549 i [.int r] M1 L1
  refine lg_ref2 C (by decide +kernel) ?_
  refine lg_arg C 1 hi (by omega) hL (by decide +kernel) (by decide +kernel) (by decide +kernel) (by decide +kernel) (by decide +kernel) ?_
  refine lg_arg C 2 hi (by omega) hL (by decide +kernel) (by decide +kernel) (by decide +kernel) (by decide +kernel) (by decide +kernel) ?_
  refine lg_arg C 3 hi (by omega) hL (by decide +kernel) (by decide +kernel) (by decide +kernel) (by decide +kernel) (by decide +kernel) ?_
  refine lg_arg C 4 hi (by omega) hL (by decide +kernel) (by decide +kernel) (by decide +kernel) (by decide +kernel) (by decide +kernel) ?_
  refine lg_call C 130 74 [.int (xs (j + 1)), .int (xs (j + 2)), .int (xs (j + 3)), .int (xs (j + 4))] (idx := 73) (by decide) (by decide +kernel) (in_5 (List.mem_of_getElem? (i := 111) rfl)) (by decide +kernel) (by decide +kernel) rfl rfl rfl (rest := [.int r]) rfl rfl ?_
  refine t_X10_call hB (fun r2 M2 L2 hq => ?_)
  obtain ⟨hq1, hI2⟩ := hq
  rw [hq1]
  show LG E p e s m below meth c b 573 i [.int r, .int r] M2 L2
  exact lg_eq C (off := 340) 913 (by decide +kernel) (by decide) (kk M2 L2 hI2)
theorem lc_clear (C : LCtx E p s m meth c b Lx xs) {INV : Mem → LMem → Prop} (HO : Op_clear INV) {j : Nat} (hi : i = nI j) (hj : j + 5 ≤ Lx) (hL : Lx ≤ 2560) (hI : INV M L) (kk : ∀ (M : Mem) (L : LMem), INV M L → LG E p e s m below meth c b 913 i [] M L) : LG E p e s m below meth c b 578 i [] M L := by
  have hA : P_X9_clear  M L (fun r M1 L1 => P_X10_clear  M1 L1 (fun r2 M2 L2 => r2 = r ∧ INV M2 L2)) := HO M L  hI
  refine lg_ref1 C (by decide +kernel) ?_
  refine lg_call C 76 0 [] (idx := 74) (by decide) (by decide +kernel) (in_3 (List.mem_of_getElem? (i := 79) rfl)) (by decide +kernel) (by decide +kernel) rfl rfl rfl (rest := []) rfl rfl ?_
  refine t_X9_clear hA (fun r M1 L1 hB => ?_)
  show LG E p e s m below meth c b 582 i [.int r] M1 L1
  refine lg_ref2 C (by decide +kernel) ?_
  refine lg_call C 131 74 [] (idx := 77) (by decide) (by decide +kernel) (in_5 (List.mem_of_getElem? (i := 116) rfl)) (by decide +kernel) (by decide +kernel) rfl rfl rfl (rest := [.int r]) rfl rfl ?_
  refine t_X10_clear hB (fun r2 M2 L2 hq => ?_)
  obtain ⟨hq1, hI2⟩ := hq
  rw [hq1]
  show LG E p e s m below meth c b 586 i [.int r, .int r] M2 L2
  exact lg_eq C (off := 327) 913 (by decide +kernel) (by decide) (kk M2 L2 hI2)
theorem lc_soonest (C : LCtx E p s m meth c b Lx xs) {INV : Mem → LMem → Prop} (HO : Op_soonest INV) {j : Nat} (hi : i = nI j) (hj : j + 5 ≤ Lx) (hL : Lx ≤ 2560) (hI : INV M L) (kk : ∀ (M : Mem) (L : LMem), INV M L → LG E p e s m below meth c b 913 i [] M L) : LG E p e s m below meth c b 591 i [] M L := by
  have hA : P_X9_soonest (xs (j + 1)) M L (fun r M1 L1 => P_X10_soonest (xs (j + 1)) M1 L1 (fun r2 M2 L2 => r2 = r ∧ INV M2 L2)) := HO M L (xs (j + 1)) hI
  refine lg_ref1 C (by decide +kernel) ?_
  refine lg_arg C 1 hi (by omega) hL (by decide +kernel) (by decide +kernel) (by decide +kernel) (by decide +kernel) (by decide +kernel) ?_
  refine lg_call C 77 0 [.int (xs (j + 1))] (idx := 78) (by decide) (by decide +kernel) (in_3 (List.mem_of_getElem? (i := 83) rfl)) (by decide +kernel) (by decide +kernel) rfl rfl rfl (rest := []) rfl rfl ?_
  refine t_X9_soonest hA (fun r M1 L1 hB => ?_)
  show LG E p e s m below meth c b 600 i [.int r] M1 L1
  refine lg_ref2 C (by decide +kernel) ?_
  refine lg_arg C 1 hi (by omega) hL (by decide +kernel) (by decide +kernel) (by decide +kernel) (by decide +kernel) (by decide +kernel) ?_
  refine lg_call C 138 74 [.int (xs (j + 1))] (idx := 81) (by decide) (by decide +kernel) (in_5 (List.mem_of_getElem? (i := 120) rfl)) (by decide +kernel) (by decide +kernel) rfl rfl rfl (rest := [.int r]) rfl rfl ?_
  refine t_X10_soonest hB (fun r2 M2 L2 hq => ?_)
  obtain ⟨hq1, hI2⟩ := hq
  rw [hq1]
  show LG E p e s m below meth c b 609 i [.int r, .int r] M2 L2
  exact lg_eq C (off := 304) 913 (by decide +kernel) (by decide) (kk M2 L2 hI2)
theorem lc_byDue (C : LCtx E p s m meth c b Lx xs) {INV : Mem → LMem → Prop} (HO : Op_byDue INV) {j : Nat} (hi : i = nI j) (hj : j + 5 ≤ Lx) (hL : Lx ≤ 2560) (hI : INV M L) (kk : ∀ (M : Mem) (L : LMem), INV M L → LG E p e s m below meth c b 913 i [] M L) : LG E p e s m below meth c b 614 i [] M L := by
  have hA : P_X9_byDue (xs (j + 1)) M L (fun r M1 L1 => P_X10_byDue (xs (j + 1)) M1 L1 (fun r2 M2 L2 => r2 = r ∧ INV M2 L2)) := HO M L (xs (j + 1)) hI
  refine lg_ref1 C (by decide +kernel) ?_
  refine lg_arg C 1 hi (by omega) hL (by decide +kernel) (by decide +kernel) (by decide +kernel) (by decide +kernel) (by decide +kernel) ?_
  refine lg_call C 78 0 [.int (xs (j + 1))] (idx := 82) (by decide) (by decide +kernel) (in_3 (List.mem_of_getElem? (i := 129) rfl)) (by decide +kernel) (by decide +kernel) rfl rfl rfl (rest := []) rfl rfl ?_
  refine t_X9_byDue hA (fun r M1 L1 hB => ?_)
  show LG E p e s m below meth c b 623 i [.int r] M1 L1
  refine lg_ref2 C (by decide +kernel) ?_
  refine lg_arg C 1 hi (by omega) hL (by decide +kernel) (by decide +kernel) (by decide +kernel) (by decide +kernel) (by decide +kernel) ?_
  refine lg_call C 139 74 [.int (xs (j + 1))] (idx := 85) (by decide) (by decide +kernel) (in_5 (List.mem_of_getElem? (i := 144) rfl)) (by decide +kernel) (by decide +kernel) rfl rfl rfl (rest := [.int r]) rfl rfl ?_
  refine t_X10_byDue hB (fun r2 M2 L2 hq => ?_)
  obtain ⟨hq1, hI2⟩ := hq
  rw [hq1]
  show LG E p e s m below meth c b 632 i [.int r, .int r] M2 L2
  exact lg_eq C (off := 281) 913 (by decide +kernel) (by decide) (kk M2 L2 hI2)
theorem lc_locked (C : LCtx E p s m meth c b Lx xs) {INV : Mem → LMem → Prop} (HO : Op_locked INV) {j : Nat} (hi : i = nI j) (hj : j + 5 ≤ Lx) (hL : Lx ≤ 2560) (hI : INV M L) (kk : ∀ (M : Mem) (L : LMem), INV M L → LG E p e s m below meth c b 913 i [] M L) : LG E p e s m below meth c b 637 i [] M L := by
  have hA : P_X9_locked (xs (j + 1)) (xs (j + 2)) M L (fun r M1 L1 => P_X10_locked (xs (j + 1)) (xs (j + 2)) M1 L1 (fun r2 M2 L2 => r2 = r ∧ INV M2 L2)) := HO M L (xs (j + 1)) (xs (j + 2)) hI
  refine lg_ref1 C (by decide +kernel) ?_
  refine lg_arg C 1 hi (by omega) hL (by decide +kernel) (by decide +kernel) (by decide +kernel) (by decide +kernel) (by decide +kernel) ?_
  refine lg_arg C 2 hi (by omega) hL (by decide +kernel) (by decide +kernel) (by decide +kernel) (by decide +kernel) (by decide +kernel) ?_
  refine lg_call C 79 0 [.int (xs (j + 1)), .int (xs (j + 2))] (idx := 86) (by decide) (by decide +kernel) (in_3 (List.mem_of_getElem? (i := 133) rfl)) (by decide +kernel) (by decide +kernel) rfl rfl rfl (rest := []) rfl rfl ?_
  refine t_X9_locked hA (fun r M1 L1 hB => ?_)
  show LG E p e s m below meth c b 651 i [.int r] M1 L1
  refine lg_ref2 C (by decide +kernel) ?_
  refine lg_arg C 1 hi (by omega) hL (by decide +kernel) (by decide +kernel) (by decide +kernel) (by decide +kernel) (by decide +kernel) ?_
  refine lg_arg C 2 hi (by omega) hL (by decide +kernel) (by decide +kernel) (by decide +kernel) (by decide +kernel) (by decide +kernel) ?_
  refine lg_call C 145 74 [.int (xs (j + 1)), .int (xs (j + 2))] (idx := 89) (by decide) (by decide +kernel) (in_5 (List.mem_of_getElem? (i := 152) rfl)) (by decide +kernel) (by decide +kernel) rfl rfl rfl (rest := [.int r]) rfl rfl ?_
  refine t_X10_locked hB (fun r2 M2 L2 hq => ?_)
  obtain ⟨hq1, hI2⟩ := hq
  rw [hq1]
  show LG E p e s m below meth c b 665 i [.int r, .int r] M2 L2
  exact lg_eq C (off := 248) 913 (by decide +kernel) (by decide) (kk M2 L2 hI2)
theorem lc_tried (C : LCtx E p s m meth c b Lx xs) {INV : Mem → LMem → Prop} (HO : Op_tried INV) {j : Nat} (hi : i = nI j) (hj : j + 5 ≤ Lx) (hL : Lx ≤ 2560) (x3 : Int32) (hx3 : (xs (j + 3) = 0 → x3 = 0) ∧ (¬ xs (j + 3) = 0 → x3 = 1)) (hI : INV M L) (kk : ∀ (M : Mem) (L : LMem), INV M L → LG E p e s m below meth c b 913 i [] M L) : LG E p e s m below meth c b 670 i [] M L := by
  have h01 : x3 = 0 ∨ x3 = 1 := by
    by_cases h : xs (j + 3) = 0
    · exact Or.inl (hx3.1 h)
    · exact Or.inr (hx3.2 h)
  have hA : P_X9_tried (xs (j + 1)) (xs (j + 2)) x3 M L (fun r M1 L1 => P_X10_tried (xs (j + 1)) (xs (j + 2)) x3 M1 L1 (fun r2 M2 L2 => r2 = r ∧ INV M2 L2)) := HO M L (xs (j + 1)) (xs (j + 2)) x3 hI h01
  refine lg_ref1 C (by decide +kernel) ?_
  refine lg_arg C 1 hi (by omega) hL (by decide +kernel) (by decide +kernel) (by decide +kernel) (by decide +kernel) (by decide +kernel) ?_
  refine lg_arg C 2 hi (by omega) hL (by decide +kernel) (by decide +kernel) (by decide +kernel) (by decide +kernel) (by decide +kernel) ?_
  refine lg_arg C 3 hi (by omega) hL (by decide +kernel) (by decide +kernel) (by decide +kernel) (by decide +kernel) (by decide +kernel) ?_
  have hgo : LG E p e s m below meth c b 694 i (.int x3 :: [.int (xs (j + 2)), .int (xs (j + 1)), .ref 0]) M L → LG E p e s m below meth c b 686 i (.int (xs (j + 3)) :: [.int (xs (j + 2)), .int (xs (j + 1)), .ref 0]) M L := by
    intro hg
    refine lg_ifeq C (off := 7) 693 (by decide +kernel) (by decide) (fun h => ?_) (fun h => ?_)
    · rw [hx3.1 h] at hg
      exact lg_con C (n := 0) (by decide +kernel) hg
    · rw [hx3.2 h] at hg
      refine lg_con C (n := 1) (by decide +kernel) ?_
      exact lg_goto C (off := 4) 694 (by decide +kernel) (by decide) hg
  refine hgo ?_
  refine lg_call C 80 0 [.int (xs (j + 1)), .int (xs (j + 2)), .int x3] (idx := 90) (by decide) (by decide +kernel) (in_3 (List.mem_of_getElem? (i := 161) rfl)) (by decide +kernel) (by decide +kernel) rfl rfl rfl (rest := []) rfl rfl ?_
  refine t_X9_tried hA (fun r M1 L1 hB => ?_)
  show LG E p e s m below meth c b 697 i [.int r] M1 L1
  refine lg_ref2 C (by decide +kernel) ?_
  refine lg_arg C 1 hi (by omega) hL (by decide +kernel) (by decide +kernel) (by decide +kernel) (by decide +kernel) (by decide +kernel) ?_
  refine lg_arg C 2 hi (by omega) hL (by decide +kernel) (by decide +kernel) (by decide +kernel) (by decide +kernel) (by decide +kernel) ?_
  refine lg_arg C 3 hi (by omega) hL (by decide +kernel) (by decide +kernel) (by decide +kernel) (by decide +kernel) (by decide +kernel) ?_
  have hgo : LG E p e s m below meth c b 721 i (.int x3 :: [.int (xs (j + 2)), .int (xs (j + 1)), .ref 74, .int r]) M1 L1 → LG E p e s m below meth c b 713 i (.int (xs (j + 3)) :: [.int (xs (j + 2)), .int (xs (j + 1)), .ref 74, .int r]) M1 L1 := by
    intro hg
    refine lg_ifeq C (off := 7) 720 (by decide +kernel) (by decide) (fun h => ?_) (fun h => ?_)
    · rw [hx3.1 h] at hg
      exact lg_con C (n := 0) (by decide +kernel) hg
    · rw [hx3.2 h] at hg
      refine lg_con C (n := 1) (by decide +kernel) ?_
      exact lg_goto C (off := 4) 721 (by decide +kernel) (by decide) hg
  refine hgo ?_
  refine lg_call C 146 74 [.int (xs (j + 1)), .int (xs (j + 2)), .int x3] (idx := 94) (by decide) (by decide +kernel) (in_5 (List.mem_of_getElem? (i := 176) rfl)) (by decide +kernel) (by decide +kernel) rfl rfl rfl (rest := [.int r]) rfl rfl ?_
  refine t_X10_tried hB (fun r2 M2 L2 hq => ?_)
  obtain ⟨hq1, hI2⟩ := hq
  rw [hq1]
  show LG E p e s m below meth c b 724 i [.int r, .int r] M2 L2
  exact lg_eq C (off := 189) 913 (by decide +kernel) (by decide) (kk M2 L2 hI2)
theorem lc_forget (C : LCtx E p s m meth c b Lx xs) {INV : Mem → LMem → Prop} (HO : Op_forget INV) {j : Nat} (hi : i = nI j) (hj : j + 5 ≤ Lx) (hL : Lx ≤ 2560) (hI : INV M L) (kk : ∀ (M : Mem) (L : LMem), INV M L → LG E p e s m below meth c b 913 i [] M L) : LG E p e s m below meth c b 729 i [] M L := by
  have hA : P_X9_forget  M L (fun r M1 L1 => P_X10_forget  M1 L1 (fun r2 M2 L2 => r2 = r ∧ INV M2 L2)) := HO M L  hI
  refine lg_ref1 C (by decide +kernel) ?_
  refine lg_call C 81 0 [] (idx := 95) (by decide) (by decide +kernel) (in_3 (List.mem_of_getElem? (i := 171) rfl)) (by decide +kernel) (by decide +kernel) rfl rfl rfl (rest := []) rfl rfl ?_
  refine t_X9_forget hA (fun r M1 L1 hB => ?_)
  show LG E p e s m below meth c b 733 i [.int r] M1 L1
  refine lg_ref2 C (by decide +kernel) ?_
  refine lg_call C 147 74 [] (idx := 98) (by decide) (by decide +kernel) (in_5 (List.mem_of_getElem? (i := 183) rfl)) (by decide +kernel) (by decide +kernel) rfl rfl rfl (rest := [.int r]) rfl rfl ?_
  refine t_X10_forget hB (fun r2 M2 L2 hq => ?_)
  obtain ⟨hq1, hI2⟩ := hq
  rw [hq1]
  show LG E p e s m below meth c b 737 i [.int r, .int r] M2 L2
  exact lg_eq C (off := 176) 913 (by decide +kernel) (by decide) (kk M2 L2 hI2)
theorem lc_stopped (C : LCtx E p s m meth c b Lx xs) {INV : Mem → LMem → Prop} (HO : Op_stopped INV) {j : Nat} (hi : i = nI j) (hj : j + 5 ≤ Lx) (hL : Lx ≤ 2560) (hI : INV M L) (kk : ∀ (M : Mem) (L : LMem), INV M L → LG E p e s m below meth c b 913 i [] M L) : LG E p e s m below meth c b 742 i [] M L := by
  have hA : P_X9_stopped (xs (j + 1)) M L (fun r M1 L1 => P_X10_stopped (xs (j + 1)) M1 L1 (fun r2 M2 L2 => r2 = r ∧ INV M2 L2)) := HO M L (xs (j + 1)) hI
  refine lg_ref1 C (by decide +kernel) ?_
  refine lg_arg C 1 hi (by omega) hL (by decide +kernel) (by decide +kernel) (by decide +kernel) (by decide +kernel) (by decide +kernel) ?_
  refine lg_call C 82 0 [.int (xs (j + 1))] (idx := 99) (by decide) (by decide +kernel) (in_3 (List.mem_of_getElem? (i := 175) rfl)) (by decide +kernel) (by decide +kernel) rfl rfl rfl (rest := []) rfl rfl ?_
  refine t_X9_stopped hA (fun r M1 L1 hB => ?_)
  show LG E p e s m below meth c b 751 i [.int r] M1 L1
  refine lg_ref2 C (by decide +kernel) ?_
  refine lg_arg C 1 hi (by omega) hL (by decide +kernel) (by decide +kernel) (by decide +kernel) (by decide +kernel) (by decide +kernel) ?_
  refine lg_call C 153 74 [.int (xs (j + 1))] (idx := 102) (by decide) (by decide +kernel) (in_5 (List.mem_of_getElem? (i := 187) rfl)) (by decide +kernel) (by decide +kernel) rfl rfl rfl (rest := [.int r]) rfl rfl ?_
  refine t_X10_stopped hB (fun r2 M2 L2 hq => ?_)
  obtain ⟨hq1, hI2⟩ := hq
  rw [hq1]
  show LG E p e s m below meth c b 760 i [.int r, .int r] M2 L2
  exact lg_eq C (off := 153) 913 (by decide +kernel) (by decide) (kk M2 L2 hI2)
theorem lc_far (C : LCtx E p s m meth c b Lx xs) {INV : Mem → LMem → Prop} (HO : Op_far INV) {j : Nat} (hi : i = nI j) (hj : j + 5 ≤ Lx) (hL : Lx ≤ 2560) (hI : INV M L) (kk : ∀ (M : Mem) (L : LMem), INV M L → LG E p e s m below meth c b 913 i [] M L) : LG E p e s m below meth c b 765 i [] M L := by
  have hA : P_X9_far (xs (j + 1)) (xs (j + 2)) M L (fun r M1 L1 => P_X10_far (xs (j + 1)) (xs (j + 2)) M1 L1 (fun r2 M2 L2 => r2 = r ∧ INV M2 L2)) := HO M L (xs (j + 1)) (xs (j + 2)) hI
  refine lg_ref1 C (by decide +kernel) ?_
  refine lg_arg C 1 hi (by omega) hL (by decide +kernel) (by decide +kernel) (by decide +kernel) (by decide +kernel) (by decide +kernel) ?_
  refine lg_arg C 2 hi (by omega) hL (by decide +kernel) (by decide +kernel) (by decide +kernel) (by decide +kernel) (by decide +kernel) ?_
  refine lg_call C 83 0 [.int (xs (j + 1)), .int (xs (j + 2))] (idx := 103) (by decide) (by decide +kernel) (in_3 (List.mem_of_getElem? (i := 223) rfl)) (by decide +kernel) (by decide +kernel) rfl rfl rfl (rest := []) rfl rfl ?_
  refine t_X9_far hA (fun r M1 L1 hB => ?_)
  show LG E p e s m below meth c b 779 i [.int r] M1 L1
  refine lg_ref2 C (by decide +kernel) ?_
  refine lg_arg C 1 hi (by omega) hL (by decide +kernel) (by decide +kernel) (by decide +kernel) (by decide +kernel) (by decide +kernel) ?_
  refine lg_arg C 2 hi (by omega) hL (by decide +kernel) (by decide +kernel) (by decide +kernel) (by decide +kernel) (by decide +kernel) ?_
  refine lg_call C 155 74 [.int (xs (j + 1)), .int (xs (j + 2))] (idx := 106) (by decide) (by decide +kernel) (in_5 (List.mem_of_getElem? (i := 211) rfl)) (by decide +kernel) (by decide +kernel) rfl rfl rfl (rest := [.int r]) rfl rfl ?_
  refine t_X10_far hB (fun r2 M2 L2 hq => ?_)
  obtain ⟨hq1, hI2⟩ := hq
  rw [hq1]
  show LG E p e s m below meth c b 793 i [.int r, .int r] M2 L2
  exact lg_eq C (off := 120) 913 (by decide +kernel) (by decide) (kk M2 L2 hI2)
theorem lc_further (C : LCtx E p s m meth c b Lx xs) {INV : Mem → LMem → Prop} (HO : Op_further INV) {j : Nat} (hi : i = nI j) (hj : j + 5 ≤ Lx) (hL : Lx ≤ 2560) (hI : INV M L) (kk : ∀ (M : Mem) (L : LMem), INV M L → LG E p e s m below meth c b 913 i [] M L) : LG E p e s m below meth c b 798 i [] M L := by
  have hA : P_X9_further (xs (j + 1)) (xs (j + 2)) M L (fun r M1 L1 => P_X10_further (xs (j + 1)) (xs (j + 2)) M1 L1 (fun r2 M2 L2 => r2 = r ∧ INV M2 L2)) := HO M L (xs (j + 1)) (xs (j + 2)) hI
  refine lg_ref1 C (by decide +kernel) ?_
  refine lg_arg C 1 hi (by omega) hL (by decide +kernel) (by decide +kernel) (by decide +kernel) (by decide +kernel) (by decide +kernel) ?_
  refine lg_arg C 2 hi (by omega) hL (by decide +kernel) (by decide +kernel) (by decide +kernel) (by decide +kernel) (by decide +kernel) ?_
  refine lg_call C 84 0 [.int (xs (j + 1)), .int (xs (j + 2))] (idx := 107) (by decide) (by decide +kernel) (in_3 (List.mem_of_getElem? (i := 227) rfl)) (by decide +kernel) (by decide +kernel) rfl rfl rfl (rest := []) rfl rfl ?_
  refine t_X9_further hA (fun r M1 L1 hB => ?_)
  show LG E p e s m below meth c b 812 i [.int r] M1 L1
  refine lg_ref2 C (by decide +kernel) ?_
  refine lg_arg C 1 hi (by omega) hL (by decide +kernel) (by decide +kernel) (by decide +kernel) (by decide +kernel) (by decide +kernel) ?_
  refine lg_arg C 2 hi (by omega) hL (by decide +kernel) (by decide +kernel) (by decide +kernel) (by decide +kernel) (by decide +kernel) ?_
  refine lg_call C 157 74 [.int (xs (j + 1)), .int (xs (j + 2))] (idx := 110) (by decide) (by decide +kernel) (in_5 (List.mem_of_getElem? (i := 219) rfl)) (by decide +kernel) (by decide +kernel) rfl rfl rfl (rest := [.int r]) rfl rfl ?_
  refine t_X10_further hB (fun r2 M2 L2 hq => ?_)
  obtain ⟨hq1, hI2⟩ := hq
  rw [hq1]
  show LG E p e s m below meth c b 826 i [.int r, .int r] M2 L2
  exact lg_eq C (off := 87) 913 (by decide +kernel) (by decide) (kk M2 L2 hI2)
theorem lc_bridges (C : LCtx E p s m meth c b Lx xs) {INV : Mem → LMem → Prop} (HO : Op_bridges INV) {j : Nat} (hi : i = nI j) (hj : j + 5 ≤ Lx) (hL : Lx ≤ 2560) (hI : INV M L) (kk : ∀ (M : Mem) (L : LMem), INV M L → LG E p e s m below meth c b 913 i [] M L) : LG E p e s m below meth c b 831 i [] M L := by
  have hA : P_X9_bridges  M L (fun r M1 L1 => P_X10_bridges  M1 L1 (fun r2 M2 L2 => r2 = r ∧ INV M2 L2)) := HO M L  hI
  refine lg_ref1 C (by decide +kernel) ?_
  refine lg_call C 85 0 [] (idx := 111) (by decide) (by decide +kernel) (in_4 (List.mem_of_getElem? (i := 15) rfl)) (by decide +kernel) (by decide +kernel) rfl rfl rfl (rest := []) rfl rfl ?_
  refine t_X9_bridges hA (fun r M1 L1 hB => ?_)
  show LG E p e s m below meth c b 835 i [.int r] M1 L1
  refine lg_ref2 C (by decide +kernel) ?_
  refine lg_call C 159 74 [] (idx := 114) (by decide) (by decide +kernel) (in_5 (List.mem_of_getElem? (i := 227) rfl)) (by decide +kernel) (by decide +kernel) rfl rfl rfl (rest := [.int r]) rfl rfl ?_
  refine t_X10_bridges hB (fun r2 M2 L2 hq => ?_)
  obtain ⟨hq1, hI2⟩ := hq
  rw [hq1]
  show LG E p e s m below meth c b 839 i [.int r, .int r] M2 L2
  exact lg_eq C (off := 74) 913 (by decide +kernel) (by decide) (kk M2 L2 hI2)
theorem lc_image (C : LCtx E p s m meth c b Lx xs) {INV : Mem → LMem → Prop} (HO : Op_image INV) {j : Nat} (hi : i = nI j) (hj : j + 5 ≤ Lx) (hL : Lx ≤ 2560) (hI : INV M L) (kk : ∀ (M : Mem) (L : LMem), INV M L → LG E p e s m below meth c b 913 i [] M L) : LG E p e s m below meth c b 844 i [] M L := by
  have hA : P_X9_image (xs (j + 1)) M L (fun r M1 L1 => P_X10_image (xs (j + 1)) M1 L1 (fun r2 M2 L2 => r2 = r ∧ INV M2 L2)) := HO M L (xs (j + 1)) hI
  refine lg_ref1 C (by decide +kernel) ?_
  refine lg_arg C 1 hi (by omega) hL (by decide +kernel) (by decide +kernel) (by decide +kernel) (by decide +kernel) (by decide +kernel) ?_
  refine lg_call C 86 0 [.int (xs (j + 1))] (idx := 115) (by decide) (by decide +kernel) (in_4 (List.mem_of_getElem? (i := 23) rfl)) (by decide +kernel) (by decide +kernel) rfl rfl rfl (rest := []) rfl rfl ?_
  refine t_X9_image hA (fun r M1 L1 hB => ?_)
  show LG E p e s m below meth c b 853 i [.int r] M1 L1
  refine lg_ref2 C (by decide +kernel) ?_
  refine lg_arg C 1 hi (by omega) hL (by decide +kernel) (by decide +kernel) (by decide +kernel) (by decide +kernel) (by decide +kernel) ?_
  refine lg_call C 162 74 [.int (xs (j + 1))] (idx := 118) (by decide) (by decide +kernel) (in_5 (List.mem_of_getElem? (i := 235) rfl)) (by decide +kernel) (by decide +kernel) rfl rfl rfl (rest := [.int r]) rfl rfl ?_
  refine t_X10_image hB (fun r2 M2 L2 hq => ?_)
  obtain ⟨hq1, hI2⟩ := hq
  rw [hq1]
  show LG E p e s m below meth c b 862 i [.int r, .int r] M2 L2
  exact lg_eq C (off := 51) 913 (by decide +kernel) (by decide) (kk M2 L2 hI2)
theorem lc_restore (C : LCtx E p s m meth c b Lx xs) {INV : Mem → LMem → Prop} (HO : Op_restore INV) {j : Nat} (hi : i = nI j) (hj : j + 5 ≤ Lx) (hL : Lx ≤ 2560) (hI : INV M L) (kk : ∀ (M : Mem) (L : LMem), INV M L → LG E p e s m below meth c b 913 i [] M L) : LG E p e s m below meth c b 867 i [] M L := by
  have hA : P_X9_restore (xs (j + 1)) M L (fun r M1 L1 => P_X10_restore (xs (j + 1)) M1 L1 (fun r2 M2 L2 => r2 = r ∧ INV M2 L2)) := HO M L (xs (j + 1)) hI
  refine lg_ref1 C (by decide +kernel) ?_
  refine lg_arg C 1 hi (by omega) hL (by decide +kernel) (by decide +kernel) (by decide +kernel) (by decide +kernel) (by decide +kernel) ?_
  refine lg_call C 87 0 [.int (xs (j + 1))] (idx := 119) (by decide) (by decide +kernel) (in_4 (List.mem_of_getElem? (i := 41) rfl)) (by decide +kernel) (by decide +kernel) rfl rfl rfl (rest := []) rfl rfl ?_
  refine t_X9_restore hA (fun r M1 L1 hB => ?_)
  show LG E p e s m below meth c b 876 i [.int r] M1 L1
  refine lg_ref2 C (by decide +kernel) ?_
  refine lg_arg C 1 hi (by omega) hL (by decide +kernel) (by decide +kernel) (by decide +kernel) (by decide +kernel) (by decide +kernel) ?_
  refine lg_call C 163 74 [.int (xs (j + 1))] (idx := 122) (by decide) (by decide +kernel) (in_6 (List.mem_of_getElem? (i := 7) rfl)) (by decide +kernel) (by decide +kernel) rfl rfl rfl (rest := [.int r]) rfl rfl ?_
  refine t_X10_restore hB (fun r2 M2 L2 hq => ?_)
  obtain ⟨hq1, hI2⟩ := hq
  rw [hq1]
  show LG E p e s m below meth c b 885 i [.int r, .int r] M2 L2
  exact lg_eq C (off := 28) 913 (by decide +kernel) (by decide) (kk M2 L2 hI2)
theorem lc_told (C : LCtx E p s m meth c b Lx xs) {INV : Mem → LMem → Prop} (HO : Op_told INV) {j : Nat} (hi : i = nI j) (hj : j + 5 ≤ Lx) (hL : Lx ≤ 2560) (hI : INV M L) (kk : ∀ (M : Mem) (L : LMem), INV M L → LG E p e s m below meth c b 913 i [] M L) : LG E p e s m below meth c b 890 i [] M L := by
  have hA : P_X9_told (xs (j + 1)) M L (fun r M1 L1 => P_X10_told (xs (j + 1)) M1 L1 (fun r2 M2 L2 => r2 = r ∧ INV M2 L2)) := HO M L (xs (j + 1)) hI
  refine lg_ref1 C (by decide +kernel) ?_
  refine lg_arg C 1 hi (by omega) hL (by decide +kernel) (by decide +kernel) (by decide +kernel) (by decide +kernel) (by decide +kernel) ?_
  refine lg_call C 89 0 [.int (xs (j + 1))] (idx := 123) (by decide) (by decide +kernel) (in_4 (List.mem_of_getElem? (i := 45) rfl)) (by decide +kernel) (by decide +kernel) rfl rfl rfl (rest := []) rfl rfl ?_
  refine t_X9_told hA (fun r M1 L1 hB => ?_)
  show LG E p e s m below meth c b 899 i [.int r] M1 L1
  refine lg_ref2 C (by decide +kernel) ?_
  refine lg_arg C 1 hi (by omega) hL (by decide +kernel) (by decide +kernel) (by decide +kernel) (by decide +kernel) (by decide +kernel) ?_
  refine lg_call C 164 74 [.int (xs (j + 1))] (idx := 126) (by decide) (by decide +kernel) (in_6 (List.mem_of_getElem? (i := 11) rfl)) (by decide +kernel) (by decide +kernel) rfl rfl rfl (rest := [.int r]) rfl rfl ?_
  refine t_X10_told hB (fun r2 M2 L2 hq => ?_)
  obtain ⟨hq1, hI2⟩ := hq
  rw [hq1]
  show LG E p e s m below meth c b 908 i [.int r, .int r] M2 L2
  exact lg_eq C (off := 5) 913 (by decide +kernel) (by decide) (kk M2 L2 hI2)
theorem lg_and (C : LCtx E p s m meth c b Lx xs) {x : Int32} (h1 : decode code pc = .ok (.bipush 31, 2)) (h2 : decode code (pc + 2) = .ok (.iand, 1)) (k : LG E p e s m below meth c b (pc + 3) i (.int (x &&& Int32.ofInt 31) :: st) M L) : LG E p e s m below meth c b pc i (.int x :: st) M L :=
  fun ls H locs hl hP hS => lv_bipush (v := Int32.ofInt 31) C.1 C.2.1 h1 (by decide) (lv_iand C.1 C.2.1 h2 (k ls H locs hl hP hS))
theorem lg_tab (C : LCtx E p s m meth c b Lx xs) {dflt lo2 hi : Int} {offs : Array Int} {len : Nat} {x : Int32} {off : Int} (tgt : Nat) (hd : decode code pc = .ok (.tableswitch dflt lo2 hi offs, len)) (h1 : ¬ x.toInt < lo2) (h2 : ¬ hi < x.toInt) (ho : offs[(x.toInt - lo2).toNat]? = some off) (ht : (pc : Int) + off = (tgt : Int)) (kt : LG E p e s m below meth c b tgt i st M L) : LG E p e s m below meth c b pc i (.int x :: st) M L :=
  fun ls H locs hl hP hS => lv_tableIn C.1 C.2.1 hd h1 h2 ho ht (kt ls H locs hl hP hS)
theorem lg_tabO (C : LCtx E p s m meth c b Lx xs) {dflt lo2 hi : Int} {offs : Array Int} {len : Nat} {x : Int32} (tgt : Nat) (hd : decode code pc = .ok (.tableswitch dflt lo2 hi offs, len)) (h : x.toInt < lo2 ∨ hi < x.toInt) (ht : (pc : Int) + dflt = (tgt : Int)) (kt : LG E p e s m below meth c b tgt i st M L) : LG E p e s m below meth c b pc i (.int x :: st) M L :=
  fun ls H locs hl hP hS => lv_tableOut C.1 C.2.1 hd h ht (kt ls H locs hl hP hS)
theorem lg_next (C : LCtx E p s m meth c b Lx xs) {j : Nat} (hj : j < 100000) (k : LG E p e s m below meth c b 18 (nI (j + 5)) [] M L) : LG E p e s m below meth c b 913 (nI j) [] M L := by
  intro ls H locs hl hP hS
  refine lv_iinc (v := nI (j + 5)) (lv' := [(3, .int (nI (j + 5))), (0, .ref b), (1, .ref (E.2.2.1 0)), (2, .ref (E.2.2.1 74))]) C.1 C.2.1 (by decide +kernel : decode code 913 = .ok (.iinc 3 5, 3)) hl (k := 3) rfl ?_ (by decide) rfl (fun ls hl => ?_)
  · rw [show Int32.ofInt 5 = nI 5 from by decide, nI_add]
  refine lv_goto C.1 C.2.1 (tgt := 18) (off := -898) (by decide +kernel) (by decide) ?_
  exact k ls H locs (lv_sub hl [1, 2, 3, 0] rfl) hP hS
theorem law_cond {Lx j : Nat} (hL : Lx ≤ 2560) (hj2 : j ≤ 3000) : (Int32.ofNat Lx - Int32.ofInt 5 < nI j) ↔ ¬ j + 5 ≤ Lx := by
  have e1 : (Int32.ofNat Lx).toInt = (Lx : Int) := nI_toInt (n := Lx) (by omega)
  have e2 : (nI j).toInt = (j : Int) := nI_toInt (by omega)
  have e3 : (Int32.ofNat Lx - Int32.ofInt 5).toInt = (Lx : Int) - 5 := by
    rw [Int32.toInt_sub, e1, show (Int32.ofInt 5).toInt = 5 from by decide]
    exact Int.bmod_eq_of_le (by omega) (by omega)
  rw [Int32.lt_iff_toInt_lt, e3, e2]
  omega
theorem law_in (C : LCtx E p s m meth c b Lx xs) (hL : Lx ≤ 2560) {j : Nat} (hj : j + 5 ≤ Lx) (k : LG E p e s m below meth c b 26 (nI j) [] M L) : LG E p e s m below meth c b 18 (nI j) [] M L := by
  intro ls H locs hl hP hS
  obtain ⟨hx, hb, -, -, -, hX, hbl, -⟩ := C
  refine lv_iload_n (k := 3) hx hb (by decide +kernel) rfl (lv_at hl 3 rfl) ?_
  refine lv_aload_n (k := 0) hx hb (by decide +kernel) rfl (lv_at hl 0 rfl) ?_
  refine va_slen hx hb hX hbl (Nat.not_le.mpr hbl) hS (by decide +kernel) ?_
  refine lv_iconst (n := 5) (v := Int32.ofInt 5) hx hb (by decide +kernel) rfl ?_
  refine lv_isub hx hb (by decide +kernel) ?_
  refine lv_icmp_gt (off := 896) (tgt := 919) hx hb (by decide +kernel) (by decide) (fun h => absurd hj ((law_cond hL (by omega)).mp h)) (fun _ => k ls H locs hl hP hS)
theorem law_exit (C : LCtx E p s m meth c b Lx xs) (hL : Lx ≤ 2560) {j : Nat} (hj : ¬ j + 5 ≤ Lx) (hj2 : j ≤ 3000) : LG E p e s m below meth c b 18 (nI j) [] M L := by
  intro ls H locs hl hP hS
  obtain ⟨hx, hb, -, -, -, hX, hbl, hlk, hr, -⟩ := C
  refine lv_iload_n (k := 3) hx hb (by decide +kernel) rfl (lv_at hl 3 rfl) ?_
  refine lv_aload_n (k := 0) hx hb (by decide +kernel) rfl (lv_at hl 0 rfl) ?_
  refine va_slen hx hb hX hbl (Nat.not_le.mpr hbl) hS (by decide +kernel) ?_
  refine lv_iconst (n := 5) (v := Int32.ofInt 5) hx hb (by decide +kernel) rfl ?_
  refine lv_isub hx hb (by decide +kernel) ?_
  refine lv_icmp_gt (off := 896) (tgt := 919) hx hb (by decide +kernel) (by decide) (fun _ => ?_) (fun h => absurd ((law_cond hL hj2).mpr hj) h)
  refine lv_iconst (n := 1) (v := 1) hx hb (by decide +kernel) (by decide) ?_
  refine va_forget (fun q hq => hS.2.2 q hq) ?_
  exact lw_ret hx hb hr hlk (by decide +kernel)
theorem law_body (C : LCtx E p s m meth c b Lx xs) {INV : Mem → LMem → Prop} (HO : OpsOK INV) (hL : Lx ≤ 2560) : ∀ (n j : Nat) (M : Mem) (L : LMem), Lx + 1 ≤ j + n → j ≤ Lx + 5 → INV M L → LG E p e s m below meth c b 18 (nI j) [] M L := by
  obtain ⟨ho_say, ho_wipe, ho_fault, ho_house, ho_tube, ho_set, ho_way, ho_loud, ho_heard, ho_judge, ho_day, ho_know, ho_knows, ho_call, ho_clear, ho_soonest, ho_byDue, ho_locked, ho_tried, ho_forget, ho_stopped, ho_far, ho_further, ho_bridges, ho_image, ho_restore, ho_told⟩ := HO
  intro n
  induction n with
  | zero =>
    intro j M L h1 h2 hI ls H locs hl hP hS
    exact law_exit C hL (by omega) (by omega) ls H locs hl hP hS
  | succ n ih =>
    intro j M L h1 h2 hI
    by_cases hj : j + 5 ≤ Lx
    · refine law_in C hL hj ?_
      refine lg_op C (j := j) rfl (by omega) hL (by decide +kernel) (by decide +kernel) (by decide +kernel) ?_
      refine lg_and C (by decide +kernel) (by decide +kernel) ?_
      have kk : ∀ (M : Mem) (L : LMem), INV M L → LG E p e s m below meth c b 913 (nI j) [] M L := fun M L hI => lg_next C (by omega) (ih (j + 5) M L (by omega) (by omega) hI)
      generalize xs j &&& Int32.ofInt 31 = x
      by_cases c_0 : x = Int32.ofInt 0
      · have hx_ : x.toInt = 0 := by rw [c_0]; decide
        exact lg_tab C (off := 124) 156 (by decide +kernel : decode code 32 = .ok (.tableswitch 881 0 26 #[124, 147, 160, 183, 196, 229, 262, 305, 348, 381, 404, 427, 460, 493, 546, 559, 582, 605, 638, 697, 710, 733, 766, 799, 812, 835, 858], 124)) (by rw [hx_]; decide) (by rw [hx_]; decide) (by rw [hx_]; rfl) (by decide) (lc_say C ho_say rfl hj hL hI kk)
      by_cases c_1 : x = Int32.ofInt 1
      · have hx_ : x.toInt = 1 := by rw [c_1]; decide
        exact lg_tab C (off := 147) 179 (by decide +kernel : decode code 32 = .ok (.tableswitch 881 0 26 #[124, 147, 160, 183, 196, 229, 262, 305, 348, 381, 404, 427, 460, 493, 546, 559, 582, 605, 638, 697, 710, 733, 766, 799, 812, 835, 858], 124)) (by rw [hx_]; decide) (by rw [hx_]; decide) (by rw [hx_]; rfl) (by decide) (lc_wipe C ho_wipe rfl hj hL hI kk)
      by_cases c_2 : x = Int32.ofInt 2
      · have hx_ : x.toInt = 2 := by rw [c_2]; decide
        exact lg_tab C (off := 160) 192 (by decide +kernel : decode code 32 = .ok (.tableswitch 881 0 26 #[124, 147, 160, 183, 196, 229, 262, 305, 348, 381, 404, 427, 460, 493, 546, 559, 582, 605, 638, 697, 710, 733, 766, 799, 812, 835, 858], 124)) (by rw [hx_]; decide) (by rw [hx_]; decide) (by rw [hx_]; rfl) (by decide) (lc_fault C ho_fault rfl hj hL hI kk)
      by_cases c_3 : x = Int32.ofInt 3
      · have hx_ : x.toInt = 3 := by rw [c_3]; decide
        exact lg_tab C (off := 183) 215 (by decide +kernel : decode code 32 = .ok (.tableswitch 881 0 26 #[124, 147, 160, 183, 196, 229, 262, 305, 348, 381, 404, 427, 460, 493, 546, 559, 582, 605, 638, 697, 710, 733, 766, 799, 812, 835, 858], 124)) (by rw [hx_]; decide) (by rw [hx_]; decide) (by rw [hx_]; rfl) (by decide) (lc_house C ho_house rfl hj hL hI kk)
      by_cases c_4 : x = Int32.ofInt 4
      · have hx_ : x.toInt = 4 := by rw [c_4]; decide
        exact lg_tab C (off := 196) 228 (by decide +kernel : decode code 32 = .ok (.tableswitch 881 0 26 #[124, 147, 160, 183, 196, 229, 262, 305, 348, 381, 404, 427, 460, 493, 546, 559, 582, 605, 638, 697, 710, 733, 766, 799, 812, 835, 858], 124)) (by rw [hx_]; decide) (by rw [hx_]; decide) (by rw [hx_]; rfl) (by decide) (lc_tube C ho_tube rfl hj hL hI kk)
      by_cases c_5 : x = Int32.ofInt 5
      · have hx_ : x.toInt = 5 := by rw [c_5]; decide
        exact lg_tab C (off := 229) 261 (by decide +kernel : decode code 32 = .ok (.tableswitch 881 0 26 #[124, 147, 160, 183, 196, 229, 262, 305, 348, 381, 404, 427, 460, 493, 546, 559, 582, 605, 638, 697, 710, 733, 766, 799, 812, 835, 858], 124)) (by rw [hx_]; decide) (by rw [hx_]; decide) (by rw [hx_]; rfl) (by decide) (lc_set C ho_set rfl hj hL hI kk)
      by_cases c_6 : x = Int32.ofInt 6
      · have hx_ : x.toInt = 6 := by rw [c_6]; decide
        exact lg_tab C (off := 262) 294 (by decide +kernel : decode code 32 = .ok (.tableswitch 881 0 26 #[124, 147, 160, 183, 196, 229, 262, 305, 348, 381, 404, 427, 460, 493, 546, 559, 582, 605, 638, 697, 710, 733, 766, 799, 812, 835, 858], 124)) (by rw [hx_]; decide) (by rw [hx_]; decide) (by rw [hx_]; rfl) (by decide) (lc_way C ho_way rfl hj hL hI kk)
      by_cases c_7 : x = Int32.ofInt 7
      · have hx_ : x.toInt = 7 := by rw [c_7]; decide
        exact lg_tab C (off := 305) 337 (by decide +kernel : decode code 32 = .ok (.tableswitch 881 0 26 #[124, 147, 160, 183, 196, 229, 262, 305, 348, 381, 404, 427, 460, 493, 546, 559, 582, 605, 638, 697, 710, 733, 766, 799, 812, 835, 858], 124)) (by rw [hx_]; decide) (by rw [hx_]; decide) (by rw [hx_]; rfl) (by decide) (lc_loud C ho_loud rfl hj hL hI kk)
      by_cases c_8 : x = Int32.ofInt 8
      · have hx_ : x.toInt = 8 := by rw [c_8]; decide
        exact lg_tab C (off := 348) 380 (by decide +kernel : decode code 32 = .ok (.tableswitch 881 0 26 #[124, 147, 160, 183, 196, 229, 262, 305, 348, 381, 404, 427, 460, 493, 546, 559, 582, 605, 638, 697, 710, 733, 766, 799, 812, 835, 858], 124)) (by rw [hx_]; decide) (by rw [hx_]; decide) (by rw [hx_]; rfl) (by decide) (lc_heard C ho_heard rfl hj hL hI kk)
      by_cases c_9 : x = Int32.ofInt 9
      · have hx_ : x.toInt = 9 := by rw [c_9]; decide
        exact lg_tab C (off := 381) 413 (by decide +kernel : decode code 32 = .ok (.tableswitch 881 0 26 #[124, 147, 160, 183, 196, 229, 262, 305, 348, 381, 404, 427, 460, 493, 546, 559, 582, 605, 638, 697, 710, 733, 766, 799, 812, 835, 858], 124)) (by rw [hx_]; decide) (by rw [hx_]; decide) (by rw [hx_]; rfl) (by decide) (lc_judge C ho_judge rfl hj hL hI kk)
      by_cases c_10 : x = Int32.ofInt 10
      · have hx_ : x.toInt = 10 := by rw [c_10]; decide
        exact lg_tab C (off := 404) 436 (by decide +kernel : decode code 32 = .ok (.tableswitch 881 0 26 #[124, 147, 160, 183, 196, 229, 262, 305, 348, 381, 404, 427, 460, 493, 546, 559, 582, 605, 638, 697, 710, 733, 766, 799, 812, 835, 858], 124)) (by rw [hx_]; decide) (by rw [hx_]; decide) (by rw [hx_]; rfl) (by decide) (lc_day C ho_day rfl hj hL hI kk)
      by_cases c_11 : x = Int32.ofInt 11
      · have hx_ : x.toInt = 11 := by rw [c_11]; decide
        exact lg_tab C (off := 427) 459 (by decide +kernel : decode code 32 = .ok (.tableswitch 881 0 26 #[124, 147, 160, 183, 196, 229, 262, 305, 348, 381, 404, 427, 460, 493, 546, 559, 582, 605, 638, 697, 710, 733, 766, 799, 812, 835, 858], 124)) (by rw [hx_]; decide) (by rw [hx_]; decide) (by rw [hx_]; rfl) (by decide) (lc_know C ho_know rfl hj hL hI kk)
      by_cases c_12 : x = Int32.ofInt 12
      · have hx_ : x.toInt = 12 := by rw [c_12]; decide
        exact lg_tab C (off := 460) 492 (by decide +kernel : decode code 32 = .ok (.tableswitch 881 0 26 #[124, 147, 160, 183, 196, 229, 262, 305, 348, 381, 404, 427, 460, 493, 546, 559, 582, 605, 638, 697, 710, 733, 766, 799, 812, 835, 858], 124)) (by rw [hx_]; decide) (by rw [hx_]; decide) (by rw [hx_]; rfl) (by decide) (lc_knows C ho_knows rfl hj hL hI kk)
      by_cases c_13 : x = Int32.ofInt 13
      · have hx_ : x.toInt = 13 := by rw [c_13]; decide
        exact lg_tab C (off := 493) 525 (by decide +kernel : decode code 32 = .ok (.tableswitch 881 0 26 #[124, 147, 160, 183, 196, 229, 262, 305, 348, 381, 404, 427, 460, 493, 546, 559, 582, 605, 638, 697, 710, 733, 766, 799, 812, 835, 858], 124)) (by rw [hx_]; decide) (by rw [hx_]; decide) (by rw [hx_]; rfl) (by decide) (lc_call C ho_call rfl hj hL hI kk)
      by_cases c_14 : x = Int32.ofInt 14
      · have hx_ : x.toInt = 14 := by rw [c_14]; decide
        exact lg_tab C (off := 546) 578 (by decide +kernel : decode code 32 = .ok (.tableswitch 881 0 26 #[124, 147, 160, 183, 196, 229, 262, 305, 348, 381, 404, 427, 460, 493, 546, 559, 582, 605, 638, 697, 710, 733, 766, 799, 812, 835, 858], 124)) (by rw [hx_]; decide) (by rw [hx_]; decide) (by rw [hx_]; rfl) (by decide) (lc_clear C ho_clear rfl hj hL hI kk)
      by_cases c_15 : x = Int32.ofInt 15
      · have hx_ : x.toInt = 15 := by rw [c_15]; decide
        exact lg_tab C (off := 559) 591 (by decide +kernel : decode code 32 = .ok (.tableswitch 881 0 26 #[124, 147, 160, 183, 196, 229, 262, 305, 348, 381, 404, 427, 460, 493, 546, 559, 582, 605, 638, 697, 710, 733, 766, 799, 812, 835, 858], 124)) (by rw [hx_]; decide) (by rw [hx_]; decide) (by rw [hx_]; rfl) (by decide) (lc_soonest C ho_soonest rfl hj hL hI kk)
      by_cases c_16 : x = Int32.ofInt 16
      · have hx_ : x.toInt = 16 := by rw [c_16]; decide
        exact lg_tab C (off := 582) 614 (by decide +kernel : decode code 32 = .ok (.tableswitch 881 0 26 #[124, 147, 160, 183, 196, 229, 262, 305, 348, 381, 404, 427, 460, 493, 546, 559, 582, 605, 638, 697, 710, 733, 766, 799, 812, 835, 858], 124)) (by rw [hx_]; decide) (by rw [hx_]; decide) (by rw [hx_]; rfl) (by decide) (lc_byDue C ho_byDue rfl hj hL hI kk)
      by_cases c_17 : x = Int32.ofInt 17
      · have hx_ : x.toInt = 17 := by rw [c_17]; decide
        exact lg_tab C (off := 605) 637 (by decide +kernel : decode code 32 = .ok (.tableswitch 881 0 26 #[124, 147, 160, 183, 196, 229, 262, 305, 348, 381, 404, 427, 460, 493, 546, 559, 582, 605, 638, 697, 710, 733, 766, 799, 812, 835, 858], 124)) (by rw [hx_]; decide) (by rw [hx_]; decide) (by rw [hx_]; rfl) (by decide) (lc_locked C ho_locked rfl hj hL hI kk)
      by_cases c_18 : x = Int32.ofInt 18
      · have hx_ : x.toInt = 18 := by rw [c_18]; decide
        refine lg_tab C (off := 638) 670 (by decide +kernel : decode code 32 = .ok (.tableswitch 881 0 26 #[124, 147, 160, 183, 196, 229, 262, 305, 348, 381, 404, 427, 460, 493, 546, 559, 582, 605, 638, 697, 710, 733, 766, 799, 812, 835, 858], 124)) (by rw [hx_]; decide) (by rw [hx_]; decide) (by rw [hx_]; rfl) (by decide) ?_
        exact lc_tried C ho_tried rfl hj hL (if xs (j + 3) = 0 then 0 else 1) ⟨fun h => if_pos h, fun h => if_neg h⟩ hI kk
      by_cases c_19 : x = Int32.ofInt 19
      · have hx_ : x.toInt = 19 := by rw [c_19]; decide
        exact lg_tab C (off := 697) 729 (by decide +kernel : decode code 32 = .ok (.tableswitch 881 0 26 #[124, 147, 160, 183, 196, 229, 262, 305, 348, 381, 404, 427, 460, 493, 546, 559, 582, 605, 638, 697, 710, 733, 766, 799, 812, 835, 858], 124)) (by rw [hx_]; decide) (by rw [hx_]; decide) (by rw [hx_]; rfl) (by decide) (lc_forget C ho_forget rfl hj hL hI kk)
      by_cases c_20 : x = Int32.ofInt 20
      · have hx_ : x.toInt = 20 := by rw [c_20]; decide
        exact lg_tab C (off := 710) 742 (by decide +kernel : decode code 32 = .ok (.tableswitch 881 0 26 #[124, 147, 160, 183, 196, 229, 262, 305, 348, 381, 404, 427, 460, 493, 546, 559, 582, 605, 638, 697, 710, 733, 766, 799, 812, 835, 858], 124)) (by rw [hx_]; decide) (by rw [hx_]; decide) (by rw [hx_]; rfl) (by decide) (lc_stopped C ho_stopped rfl hj hL hI kk)
      by_cases c_21 : x = Int32.ofInt 21
      · have hx_ : x.toInt = 21 := by rw [c_21]; decide
        exact lg_tab C (off := 733) 765 (by decide +kernel : decode code 32 = .ok (.tableswitch 881 0 26 #[124, 147, 160, 183, 196, 229, 262, 305, 348, 381, 404, 427, 460, 493, 546, 559, 582, 605, 638, 697, 710, 733, 766, 799, 812, 835, 858], 124)) (by rw [hx_]; decide) (by rw [hx_]; decide) (by rw [hx_]; rfl) (by decide) (lc_far C ho_far rfl hj hL hI kk)
      by_cases c_22 : x = Int32.ofInt 22
      · have hx_ : x.toInt = 22 := by rw [c_22]; decide
        exact lg_tab C (off := 766) 798 (by decide +kernel : decode code 32 = .ok (.tableswitch 881 0 26 #[124, 147, 160, 183, 196, 229, 262, 305, 348, 381, 404, 427, 460, 493, 546, 559, 582, 605, 638, 697, 710, 733, 766, 799, 812, 835, 858], 124)) (by rw [hx_]; decide) (by rw [hx_]; decide) (by rw [hx_]; rfl) (by decide) (lc_further C ho_further rfl hj hL hI kk)
      by_cases c_23 : x = Int32.ofInt 23
      · have hx_ : x.toInt = 23 := by rw [c_23]; decide
        exact lg_tab C (off := 799) 831 (by decide +kernel : decode code 32 = .ok (.tableswitch 881 0 26 #[124, 147, 160, 183, 196, 229, 262, 305, 348, 381, 404, 427, 460, 493, 546, 559, 582, 605, 638, 697, 710, 733, 766, 799, 812, 835, 858], 124)) (by rw [hx_]; decide) (by rw [hx_]; decide) (by rw [hx_]; rfl) (by decide) (lc_bridges C ho_bridges rfl hj hL hI kk)
      by_cases c_24 : x = Int32.ofInt 24
      · have hx_ : x.toInt = 24 := by rw [c_24]; decide
        exact lg_tab C (off := 812) 844 (by decide +kernel : decode code 32 = .ok (.tableswitch 881 0 26 #[124, 147, 160, 183, 196, 229, 262, 305, 348, 381, 404, 427, 460, 493, 546, 559, 582, 605, 638, 697, 710, 733, 766, 799, 812, 835, 858], 124)) (by rw [hx_]; decide) (by rw [hx_]; decide) (by rw [hx_]; rfl) (by decide) (lc_image C ho_image rfl hj hL hI kk)
      by_cases c_25 : x = Int32.ofInt 25
      · have hx_ : x.toInt = 25 := by rw [c_25]; decide
        exact lg_tab C (off := 835) 867 (by decide +kernel : decode code 32 = .ok (.tableswitch 881 0 26 #[124, 147, 160, 183, 196, 229, 262, 305, 348, 381, 404, 427, 460, 493, 546, 559, 582, 605, 638, 697, 710, 733, 766, 799, 812, 835, 858], 124)) (by rw [hx_]; decide) (by rw [hx_]; decide) (by rw [hx_]; rfl) (by decide) (lc_restore C ho_restore rfl hj hL hI kk)
      by_cases c_26 : x = Int32.ofInt 26
      · have hx_ : x.toInt = 26 := by rw [c_26]; decide
        exact lg_tab C (off := 858) 890 (by decide +kernel : decode code 32 = .ok (.tableswitch 881 0 26 #[124, 147, 160, 183, 196, 229, 262, 305, 348, 381, 404, 427, 460, 493, 546, 559, 582, 605, 638, 697, 710, 733, 766, 799, 812, 835, 858], 124)) (by rw [hx_]; decide) (by rw [hx_]; decide) (by rw [hx_]; rfl) (by decide) (lc_told C ho_told rfl hj hL hI kk)
      exact lg_tabO C 913 (by decide +kernel : decode code 32 = .ok (.tableswitch 881 0 26 #[124, 147, 160, 183, 196, 229, 262, 305, 348, 381, 404, 427, 460, 493, 546, 559, 582, 605, 638, 697, 710, 733, 766, 799, 812, 835, 858], 124)) (by have := sw_ne (v := 0) (by decide) c_0; have := sw_ne (v := 1) (by decide) c_1; have := sw_ne (v := 2) (by decide) c_2; have := sw_ne (v := 3) (by decide) c_3; have := sw_ne (v := 4) (by decide) c_4; have := sw_ne (v := 5) (by decide) c_5; have := sw_ne (v := 6) (by decide) c_6; have := sw_ne (v := 7) (by decide) c_7; have := sw_ne (v := 8) (by decide) c_8; have := sw_ne (v := 9) (by decide) c_9; have := sw_ne (v := 10) (by decide) c_10; have := sw_ne (v := 11) (by decide) c_11; have := sw_ne (v := 12) (by decide) c_12; have := sw_ne (v := 13) (by decide) c_13; have := sw_ne (v := 14) (by decide) c_14; have := sw_ne (v := 15) (by decide) c_15; have := sw_ne (v := 16) (by decide) c_16; have := sw_ne (v := 17) (by decide) c_17; have := sw_ne (v := 18) (by decide) c_18; have := sw_ne (v := 19) (by decide) c_19; have := sw_ne (v := 20) (by decide) c_20; have := sw_ne (v := 21) (by decide) c_21; have := sw_ne (v := 22) (by decide) c_22; have := sw_ne (v := 23) (by decide) c_23; have := sw_ne (v := 24) (by decide) c_24; have := sw_ne (v := 25) (by decide) c_25; have := sw_ne (v := 26) (by decide) c_26; omega) (by decide) (kk M L hI)
    · intro ls H locs hl hP hS
      exact law_exit C hL hj (by omega) ls H locs hl hP hS
end LAW
