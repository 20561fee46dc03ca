def ct_X5 (a : Nat → Nat) (cA : Nat → ClassId) : va_W := (a 0, .inr (5, [.ref (a 1), .int 0])) :: ([(a 1, .inl (cA 0, 60, .inl fun _ => 0))])
theorem ct_X5_congr {a b : Nat → Nat} {cA : Nat → ClassId} (h : ∀ k, k < 2 → a k = b k) : ct_X5 a cA = ct_X5 b cA := by
  unfold ct_X5
  rw [h 0 (by decide), h 1 (by decide)]
set_option maxHeartbeats 4000000 in
set_option maxRecDepth 100000 in
theorem cn_X5 (l : Launch) (D : va_G) (cA : Nat → ClassId) (h0 sz : Nat) : Met l yX5_init (cn_ws yX5_init prog_7_method_1_code) ({ frames := 1, cells := 1, slots := 60, locals := 12 }) (cn_Pc D cA h0 sz 5 [.null, .int 0]) (cn_Qc D h0 sz 5 [.null, .int 0] (fun a => ct_X5 a cA)) 1 60 (va_A [(h0, .inr (5, [.null, .int 0]))] sz) := by
  refine Met.ofW (cc := prog_7_method_1_code) (maxL := 1) (ret := none) (by decide) rfl ?_
  intro p e s m args below meth c s₁ B hml hv
  obtain ⟨rfl, hsz, hP, hK, hNn, hD0⟩ := hv
  have hx := B.exec
  have hb := B.bytes
  have hr := B.returns
  have hts0 := atoms_spec (ws := cn_ws yX5_init prog_7_method_1_code) B.pre
  have hts : ∀ w ∈ am_WG, w.before #[Value.ref h0] s = true := fun w h => hts0 w (List.mem_cons_of_mem _ h)
  have hown : s.vm.findClass RX5 = some m.cls := findClass_of_methodNamed B.named
  have hlocks := B.notSynchronized
  have hin : meth.name = "<init>" := (name_of_methodNamed B.named B.method).1
  subst hsz
  have hD := hD0.self (sz := s.heap.size)
  unfold cn_Qc
  generalize hAe : va_A [(h0, .inr (5, [.null, .int 0]))] s.heap.size = A at hD ⊢
  have hA : ∀ q : Nat, s.heap.size ≤ q → A q := fun q h => by rw [← hAe]; exact Or.inr h
  have hS : va_S A s.heap s.heap [] := va_S.rf
  have C0 : CC D cA RX5 prog_7_method_1_code p s m #[Value.ref h0] meth c A := ⟨hx, hb, hml, hown, hts, hK, hNn, hA, hin⟩
  have hl := lv_entry ([.ref h0]) (n := 1) (Nat.le_of_ble_eq_true rfl)
  rw [lg_entry_eq]
  generalize (lg_sl ([.ref h0]) ++ List.replicate (1 - (lg_sl ([.ref h0])).length) Slot.unset).toArray = ls at hl ⊢
  have hl : lv_has ls 1 [(0, .ref h0)] := hl
  refine lv_aload_n (k := 0) hx hb (by decide +kernel) rfl (lv_at hl 0 rfl) ?_
  refine W.objInit (idx := 3) hx hb hown (hts _ (am_in (in_1 (List.mem_of_getElem? (i := 28) rfl)) rfl)) (hts _ (am_in (in_1 (List.mem_of_getElem? (i := 21) rfl)) rfl)) (hts _ (am_in (in_1 (List.mem_of_getElem? (i := 22) rfl)) rfl)) rfl (by rw [hml]; exact hl.1) rfl (show decode prog_7_method_1_code 1 = .ok (.invokespecial 3, 3) by decide +kernel) (Nat.le_of_ble_eq_true rfl) (Nat.le_of_ble_eq_true rfl) ?_
  refine W.eq (g2 := F0 m 4 ls []) rfl ?_
  refine lv_aload_n (k := 0) hx hb (by decide +kernel) rfl (lv_at hl 0 rfl) ?_
  refine lv_bipush (n := 60) (v := 60) hx hb (by decide +kernel) (by decide) ?_
  refine cn_np C0 (r := (RX5, TX5, 2)) (idx := 9) (k := 0) (t := 0) (atype := .int) (ty := .int) (N' := 60) (a0 := (60, .inl fun _ => 0)) hP hD hS (am_in (in_1 (List.mem_of_getElem? (i := 39) rfl)) rfl) rfl rfl (fun _ q => by cases q) (fun _ => rfl) (by decide) (by decide +kernel) (Nat.le_of_ble_eq_true rfl) (Nat.le_of_ble_eq_true rfl) (Nat.le_of_ble_eq_true rfl) (by decide +kernel) rfl (Nat.le_of_ble_eq_true rfl) (am_in (in_1 (List.mem_of_getElem? (i := 29) rfl)) rfl) rfl rfl (by decide +kernel) (by (try simp only [List.length_set]); exact Nat.le_of_ble_eq_true rfl) (by decide +kernel) (fun q1 H locs hP hD hS => ?_)
  refine W.widen (k := 1) (n := 60) (Nat.le_of_ble_eq_true rfl) (Nat.le_of_ble_eq_true rfl) ?_
  exact W.vret hx hb hr (fun t ht hW => ⟨⟨(fun k => if k < 1 then h0 else if k < 2 then q1 else 0), rfl, trivial, rfl, by rw [ht]; exact hP, hD⟩, hS.F ht⟩) hS.2.2 (by decide +kernel)


def ct_X2 (a : Nat → Nat) (cA : Nat → ClassId) : va_W := (a 0, .inr (2, [.ref (a 1), .ref (a 2), .ref (a 3), .ref (a 4), .int 0])) :: ([(a 1, .inl (cA 0, 12, .inl fun _ => 0))] ++ [(a 2, .inl (cA 0, 12, .inl fun _ => 0))] ++ [(a 3, .inl (cA 0, 12, .inl fun _ => 0))] ++ [(a 4, .inl (cA 0, 12, .inl fun _ => 0))])
theorem ct_X2_congr {a b : Nat → Nat} {cA : Nat → ClassId} (h : ∀ k, k < 5 → a k = b k) : ct_X2 a cA = ct_X2 b cA := by
  unfold ct_X2
  rw [h 0 (by decide), h 1 (by decide), h 2 (by decide), h 3 (by decide), h 4 (by decide)]
set_option maxHeartbeats 4000000 in
set_option maxRecDepth 100000 in
theorem cn_X2 (l : Launch) (D : va_G) (cA : Nat → ClassId) (h0 sz : Nat) : Met l yX2_init (cn_ws yX2_init prog_4_method_1_code) ({ frames := 1, cells := 4, slots := 48, locals := 12 }) (cn_Pc D cA h0 sz 2 [.null, .null, .null, .null, .int 0]) (cn_Qc D h0 sz 2 [.null, .null, .null, .null, .int 0] (fun a => ct_X2 a cA)) 4 48 (va_A [(h0, .inr (2, [.null, .null, .null, .null, .int 0]))] sz) := by
  refine Met.ofW (cc := prog_4_method_1_code) (maxL := 1) (ret := none) (by decide) rfl ?_
  intro p e s m args below meth c s₁ B hml hv
  obtain ⟨rfl, hsz, hP, hK, hNn, hD0⟩ := hv
  have hx := B.exec
  have hb := B.bytes
  have hr := B.returns
  have hts0 := atoms_spec (ws := cn_ws yX2_init prog_4_method_1_code) B.pre
  have hts : ∀ w ∈ am_WG, w.before #[Value.ref h0] s = true := fun w h => hts0 w (List.mem_cons_of_mem _ h)
  have hown : s.vm.findClass RX2 = some m.cls := findClass_of_methodNamed B.named
  have hlocks := B.notSynchronized
  have hin : meth.name = "<init>" := (name_of_methodNamed B.named B.method).1
  subst hsz
  have hD := hD0.self (sz := s.heap.size)
  unfold cn_Qc
  generalize hAe : va_A [(h0, .inr (2, [.null, .null, .null, .null, .int 0]))] s.heap.size = A at hD ⊢
  have hA : ∀ q : Nat, s.heap.size ≤ q → A q := fun q h => by rw [← hAe]; exact Or.inr h
  have hS : va_S A s.heap s.heap [] := va_S.rf
  have C0 : CC D cA RX2 prog_4_method_1_code p s m #[Value.ref h0] meth c A := ⟨hx, hb, hml, hown, hts, hK, hNn, hA, hin⟩
  have hl := lv_entry ([.ref h0]) (n := 1) (Nat.le_of_ble_eq_true rfl)
  rw [lg_entry_eq]
  generalize (lg_sl ([.ref h0]) ++ List.replicate (1 - (lg_sl ([.ref h0])).length) Slot.unset).toArray = ls at hl ⊢
  have hl : lv_has ls 1 [(0, .ref h0)] := hl
  refine lv_aload_n (k := 0) hx hb (by decide +kernel) rfl (lv_at hl 0 rfl) ?_
  refine W.objInit (idx := 3) hx hb hown (hts _ (am_in (in_1 (List.mem_of_getElem? (i := 51) rfl)) rfl)) (hts _ (am_in (in_1 (List.mem_of_getElem? (i := 21) rfl)) rfl)) (hts _ (am_in (in_1 (List.mem_of_getElem? (i := 22) rfl)) rfl)) rfl (by rw [hml]; exact hl.1) rfl (show decode prog_4_method_1_code 1 = .ok (.invokespecial 3, 3) by decide +kernel) (Nat.le_of_ble_eq_true rfl) (Nat.le_of_ble_eq_true rfl) ?_
  refine W.eq (g2 := F0 m 4 ls []) rfl ?_
  refine lv_aload_n (k := 0) hx hb (by decide +kernel) rfl (lv_at hl 0 rfl) ?_
  refine lv_bipush (n := 12) (v := 12) hx hb (by decide +kernel) (by decide) ?_
  refine cn_np C0 (r := (RX2, TX2, 5)) (idx := 9) (k := 0) (t := 0) (atype := .int) (ty := .int) (N' := 12) (a0 := (12, .inl fun _ => 0)) hP hD hS (am_in (in_1 (List.mem_of_getElem? (i := 39) rfl)) rfl) rfl rfl (fun _ q => by cases q) (fun _ => rfl) (by decide) (by decide +kernel) (Nat.le_of_ble_eq_true rfl) (Nat.le_of_ble_eq_true rfl) (Nat.le_of_ble_eq_true rfl) (by decide +kernel) rfl (Nat.le_of_ble_eq_true rfl) (am_in (in_1 (List.mem_of_getElem? (i := 52) rfl)) rfl) rfl rfl (by decide +kernel) (by (try simp only [List.length_set]); exact Nat.le_of_ble_eq_true rfl) (by decide +kernel) (fun q1 H locs hP hD hS => ?_)
  refine lv_aload_n (k := 0) hx hb (by decide +kernel) rfl (lv_at hl 0 rfl) ?_
  refine lv_bipush (n := 12) (v := 12) hx hb (by decide +kernel) (by decide) ?_
  refine cn_np C0 (r := (RX2, TX2, 5)) (idx := 15) (k := 1) (t := 0) (atype := .int) (ty := .int) (N' := 12) (a0 := (12, .inl fun _ => 0)) hP hD hS (am_in (in_1 (List.mem_of_getElem? (i := 39) rfl)) rfl) rfl rfl (fun _ q => by cases q) (fun _ => rfl) (by decide) (by decide +kernel) (Nat.le_of_ble_eq_true rfl) (Nat.le_of_ble_eq_true rfl) (Nat.le_of_ble_eq_true rfl) (by decide +kernel) rfl (Nat.le_of_ble_eq_true rfl) (am_in (in_1 (List.mem_of_getElem? (i := 55) rfl)) rfl) rfl rfl (by decide +kernel) (by (try simp only [List.length_set]); exact Nat.le_of_ble_eq_true rfl) (by decide +kernel) (fun q2 H locs hP hD hS => ?_)
  refine lv_aload_n (k := 0) hx hb (by decide +kernel) rfl (lv_at hl 0 rfl) ?_
  refine lv_bipush (n := 12) (v := 12) hx hb (by decide +kernel) (by decide) ?_
  refine cn_np C0 (r := (RX2, TX2, 5)) (idx := 18) (k := 2) (t := 0) (atype := .int) (ty := .int) (N' := 12) (a0 := (12, .inl fun _ => 0)) hP hD hS (am_in (in_1 (List.mem_of_getElem? (i := 39) rfl)) rfl) rfl rfl (fun _ q => by cases q) (fun _ => rfl) (by decide) (by decide +kernel) (Nat.le_of_ble_eq_true rfl) (Nat.le_of_ble_eq_true rfl) (Nat.le_of_ble_eq_true rfl) (by decide +kernel) rfl (Nat.le_of_ble_eq_true rfl) (am_in (in_1 (List.mem_of_getElem? (i := 58) rfl)) rfl) rfl rfl (by decide +kernel) (by (try simp only [List.length_set]); exact Nat.le_of_ble_eq_true rfl) (by decide +kernel) (fun q3 H locs hP hD hS => ?_)
  refine lv_aload_n (k := 0) hx hb (by decide +kernel) rfl (lv_at hl 0 rfl) ?_
  refine lv_bipush (n := 12) (v := 12) hx hb (by decide +kernel) (by decide) ?_
  refine cn_np C0 (r := (RX2, TX2, 5)) (idx := 21) (k := 3) (t := 0) (atype := .int) (ty := .int) (N' := 12) (a0 := (12, .inl fun _ => 0)) hP hD hS (am_in (in_1 (List.mem_of_getElem? (i := 39) rfl)) rfl) rfl rfl (fun _ q => by cases q) (fun _ => rfl) (by decide) (by decide +kernel) (Nat.le_of_ble_eq_true rfl) (Nat.le_of_ble_eq_true rfl) (Nat.le_of_ble_eq_true rfl) (by decide +kernel) rfl (Nat.le_of_ble_eq_true rfl) (am_in (in_1 (List.mem_of_getElem? (i := 61) rfl)) rfl) rfl rfl (by decide +kernel) (by (try simp only [List.length_set]); exact Nat.le_of_ble_eq_true rfl) (by decide +kernel) (fun q4 H locs hP hD hS => ?_)
  refine W.widen (k := 4) (n := 48) (Nat.le_of_ble_eq_true rfl) (Nat.le_of_ble_eq_true rfl) ?_
  exact W.vret hx hb hr (fun t ht hW => ⟨⟨(fun k => if k < 1 then h0 else if k < 2 then q1 else if k < 3 then q2 else if k < 4 then q3 else if k < 5 then q4 else 0), rfl, trivial, rfl, by rw [ht]; exact hP, hD⟩, hS.F ht⟩) hS.2.2 (by decide +kernel)


def ct_X6 (a : Nat → Nat) (cA : Nat → ClassId) : va_W := (a 0, .inr (6, [.ref (a 1), .ref (a 2), .ref (a 3), .int 0, .int 0, .int 0])) :: ([(a 1, .inl (cA 0, 8, .inl fun _ => 0))] ++ [(a 2, .inl (cA 0, 8, .inl fun _ => 0))] ++ [(a 3, .inl (cA 0, 8, .inl fun _ => 0))])
theorem ct_X6_congr {a b : Nat → Nat} {cA : Nat → ClassId} (h : ∀ k, k < 4 → a k = b k) : ct_X6 a cA = ct_X6 b cA := by
  unfold ct_X6
  rw [h 0 (by decide), h 1 (by decide), h 2 (by decide), h 3 (by decide)]
set_option maxHeartbeats 4000000 in
set_option maxRecDepth 100000 in
theorem cn_X6 (l : Launch) (D : va_G) (cA : Nat → ClassId) (h0 sz : Nat) : Met l yX6_init (cn_ws yX6_init prog_8_method_1_code) ({ frames := 1, cells := 3, slots := 24, locals := 12 }) (cn_Pc D cA h0 sz 6 [.null, .null, .null, .int 0, .int 0, .int 0]) (cn_Qc D h0 sz 6 [.null, .null, .null, .int 0, .int 0, .int 0] (fun a => ct_X6 a cA)) 3 24 (va_A [(h0, .inr (6, [.null, .null, .null, .int 0, .int 0, .int 0]))] sz) := by
  refine Met.ofW (cc := prog_8_method_1_code) (maxL := 1) (ret := none) (by decide) rfl ?_
  intro p e s m args below meth c s₁ B hml hv
  obtain ⟨rfl, hsz, hP, hK, hNn, hD0⟩ := hv
  have hx := B.exec
  have hb := B.bytes
  have hr := B.returns
  have hts0 := atoms_spec (ws := cn_ws yX6_init prog_8_method_1_code) B.pre
  have hts : ∀ w ∈ am_WG, w.before #[Value.ref h0] s = true := fun w h => hts0 w (List.mem_cons_of_mem _ h)
  have hown : s.vm.findClass RX6 = some m.cls := findClass_of_methodNamed B.named
  have hlocks := B.notSynchronized
  have hin : meth.name = "<init>" := (name_of_methodNamed B.named B.method).1
  subst hsz
  have hD := hD0.self (sz := s.heap.size)
  unfold cn_Qc
  generalize hAe : va_A [(h0, .inr (6, [.null, .null, .null, .int 0, .int 0, .int 0]))] s.heap.size = A at hD ⊢
  have hA : ∀ q : Nat, s.heap.size ≤ q → A q := fun q h => by rw [← hAe]; exact Or.inr h
  have hS : va_S A s.heap s.heap [] := va_S.rf
  have C0 : CC D cA RX6 prog_8_method_1_code p s m #[Value.ref h0] meth c A := ⟨hx, hb, hml, hown, hts, hK, hNn, hA, hin⟩
  have hl := lv_entry ([.ref h0]) (n := 1) (Nat.le_of_ble_eq_true rfl)
  rw [lg_entry_eq]
  generalize (lg_sl ([.ref h0]) ++ List.replicate (1 - (lg_sl ([.ref h0])).length) Slot.unset).toArray = ls at hl ⊢
  have hl : lv_has ls 1 [(0, .ref h0)] := hl
  refine lv_aload_n (k := 0) hx hb (by decide +kernel) rfl (lv_at hl 0 rfl) ?_
  refine W.objInit (idx := 3) hx hb hown (hts _ (am_in (in_1 (List.mem_of_getElem? (i := 142) rfl)) rfl)) (hts _ (am_in (in_1 (List.mem_of_getElem? (i := 21) rfl)) rfl)) (hts _ (am_in (in_1 (List.mem_of_getElem? (i := 22) rfl)) rfl)) rfl (by rw [hml]; exact hl.1) rfl (show decode prog_8_method_1_code 1 = .ok (.invokespecial 3, 3) by decide +kernel) (Nat.le_of_ble_eq_true rfl) (Nat.le_of_ble_eq_true rfl) ?_
  refine W.eq (g2 := F0 m 4 ls []) rfl ?_
  refine lv_aload_n (k := 0) hx hb (by decide +kernel) rfl (lv_at hl 0 rfl) ?_
  refine lv_bipush (n := 8) (v := 8) hx hb (by decide +kernel) (by decide) ?_
  refine cn_np C0 (r := (RX6, TX6, 6)) (idx := 9) (k := 0) (t := 0) (atype := .int) (ty := .int) (N' := 8) (a0 := (8, .inl fun _ => 0)) hP hD hS (am_in (in_1 (List.mem_of_getElem? (i := 39) rfl)) rfl) rfl rfl (fun _ q => by cases q) (fun _ => rfl) (by decide) (by decide +kernel) (Nat.le_of_ble_eq_true rfl) (Nat.le_of_ble_eq_true rfl) (Nat.le_of_ble_eq_true rfl) (by decide +kernel) rfl (Nat.le_of_ble_eq_true rfl) (am_in (in_1 (List.mem_of_getElem? (i := 143) rfl)) rfl) rfl rfl (by decide +kernel) (by (try simp only [List.length_set]); exact Nat.le_of_ble_eq_true rfl) (by decide +kernel) (fun q1 H locs hP hD hS => ?_)
  refine lv_aload_n (k := 0) hx hb (by decide +kernel) rfl (lv_at hl 0 rfl) ?_
  refine lv_bipush (n := 8) (v := 8) hx hb (by decide +kernel) (by decide) ?_
  refine cn_np C0 (r := (RX6, TX6, 6)) (idx := 15) (k := 1) (t := 0) (atype := .int) (ty := .int) (N' := 8) (a0 := (8, .inl fun _ => 0)) hP hD hS (am_in (in_1 (List.mem_of_getElem? (i := 39) rfl)) rfl) rfl rfl (fun _ q => by cases q) (fun _ => rfl) (by decide) (by decide +kernel) (Nat.le_of_ble_eq_true rfl) (Nat.le_of_ble_eq_true rfl) (Nat.le_of_ble_eq_true rfl) (by decide +kernel) rfl (Nat.le_of_ble_eq_true rfl) (am_in (in_1 (List.mem_of_getElem? (i := 144) rfl)) rfl) rfl rfl (by decide +kernel) (by (try simp only [List.length_set]); exact Nat.le_of_ble_eq_true rfl) (by decide +kernel) (fun q2 H locs hP hD hS => ?_)
  refine lv_aload_n (k := 0) hx hb (by decide +kernel) rfl (lv_at hl 0 rfl) ?_
  refine lv_bipush (n := 8) (v := 8) hx hb (by decide +kernel) (by decide) ?_
  refine cn_np C0 (r := (RX6, TX6, 6)) (idx := 18) (k := 2) (t := 0) (atype := .int) (ty := .int) (N' := 8) (a0 := (8, .inl fun _ => 0)) hP hD hS (am_in (in_1 (List.mem_of_getElem? (i := 39) rfl)) rfl) rfl rfl (fun _ q => by cases q) (fun _ => rfl) (by decide) (by decide +kernel) (Nat.le_of_ble_eq_true rfl) (Nat.le_of_ble_eq_true rfl) (Nat.le_of_ble_eq_true rfl) (by decide +kernel) rfl (Nat.le_of_ble_eq_true rfl) (am_in (in_1 (List.mem_of_getElem? (i := 147) rfl)) rfl) rfl rfl (by decide +kernel) (by (try simp only [List.length_set]); exact Nat.le_of_ble_eq_true rfl) (by decide +kernel) (fun q3 H locs hP hD hS => ?_)
  refine W.widen (k := 3) (n := 24) (Nat.le_of_ble_eq_true rfl) (Nat.le_of_ble_eq_true rfl) ?_
  exact W.vret hx hb hr (fun t ht hW => ⟨⟨(fun k => if k < 1 then h0 else if k < 2 then q1 else if k < 3 then q2 else if k < 4 then q3 else 0), rfl, trivial, rfl, by rw [ht]; exact hP, hD⟩, hS.F ht⟩) hS.2.2 (by decide +kernel)


def ct_X1 (a : Nat → Nat) (cA : Nat → ClassId) : va_W := (a 0, .inr (1, [.ref (a 1)])) :: ([(a 1, .inl (cA 0, 64, .inl fun _ => 0))])
theorem ct_X1_congr {a b : Nat → Nat} {cA : Nat → ClassId} (h : ∀ k, k < 2 → a k = b k) : ct_X1 a cA = ct_X1 b cA := by
  unfold ct_X1
  rw [h 0 (by decide), h 1 (by decide)]
set_option maxHeartbeats 4000000 in
set_option maxRecDepth 100000 in
theorem cn_X1 (l : Launch) (D : va_G) (cA : Nat → ClassId) (h0 sz : Nat) : Met l yX1_init (cn_ws yX1_init prog_3_method_1_code) ({ frames := 1, cells := 1, slots := 64, locals := 12 }) (cn_Pc D cA h0 sz 1 [.null]) (cn_Qc D h0 sz 1 [.null] (fun a => ct_X1 a cA)) 1 64 (va_A [(h0, .inr (1, [.null]))] sz) := by
  refine Met.ofW (cc := prog_3_method_1_code) (maxL := 1) (ret := none) (by decide) rfl ?_
  intro p e s m args below meth c s₁ B hml hv
  obtain ⟨rfl, hsz, hP, hK, hNn, hD0⟩ := hv
  have hx := B.exec
  have hb := B.bytes
  have hr := B.returns
  have hts0 := atoms_spec (ws := cn_ws yX1_init prog_3_method_1_code) B.pre
  have hts : ∀ w ∈ am_WG, w.before #[Value.ref h0] s = true := fun w h => hts0 w (List.mem_cons_of_mem _ h)
  have hown : s.vm.findClass RX1 = some m.cls := findClass_of_methodNamed B.named
  have hlocks := B.notSynchronized
  have hin : meth.name = "<init>" := (name_of_methodNamed B.named B.method).1
  subst hsz
  have hD := hD0.self (sz := s.heap.size)
  unfold cn_Qc
  generalize hAe : va_A [(h0, .inr (1, [.null]))] s.heap.size = A at hD ⊢
  have hA : ∀ q : Nat, s.heap.size ≤ q → A q := fun q h => by rw [← hAe]; exact Or.inr h
  have hS : va_S A s.heap s.heap [] := va_S.rf
  have C0 : CC D cA RX1 prog_3_method_1_code p s m #[Value.ref h0] meth c A := ⟨hx, hb, hml, hown, hts, hK, hNn, hA, hin⟩
  have hl := lv_entry ([.ref h0]) (n := 1) (Nat.le_of_ble_eq_true rfl)
  rw [lg_entry_eq]
  generalize (lg_sl ([.ref h0]) ++ List.replicate (1 - (lg_sl ([.ref h0])).length) Slot.unset).toArray = ls at hl ⊢
  have hl : lv_has ls 1 [(0, .ref h0)] := hl
  refine lv_aload_n (k := 0) hx hb (by decide +kernel) rfl (lv_at hl 0 rfl) ?_
  refine W.objInit (idx := 3) hx hb hown (hts _ (am_in (in_2 (List.mem_of_getElem? (i := 74) rfl)) rfl)) (hts _ (am_in (in_1 (List.mem_of_getElem? (i := 21) rfl)) rfl)) (hts _ (am_in (in_1 (List.mem_of_getElem? (i := 22) rfl)) rfl)) rfl (by rw [hml]; exact hl.1) rfl (show decode prog_3_method_1_code 1 = .ok (.invokespecial 3, 3) by decide +kernel) (Nat.le_of_ble_eq_true rfl) (Nat.le_of_ble_eq_true rfl) ?_
  refine W.eq (g2 := F0 m 4 ls []) rfl ?_
  refine lv_aload_n (k := 0) hx hb (by decide +kernel) rfl (lv_at hl 0 rfl) ?_
  refine lv_bipush (n := 64) (v := 64) hx hb (by decide +kernel) (by decide) ?_
  refine cn_np C0 (r := (RX1, TX1, 1)) (idx := 9) (k := 0) (t := 0) (atype := .int) (ty := .int) (N' := 64) (a0 := (64, .inl fun _ => 0)) hP hD hS (am_in (in_1 (List.mem_of_getElem? (i := 39) rfl)) rfl) rfl rfl (fun _ q => by cases q) (fun _ => rfl) (by decide) (by decide +kernel) (Nat.le_of_ble_eq_true rfl) (Nat.le_of_ble_eq_true rfl) (Nat.le_of_ble_eq_true rfl) (by decide +kernel) rfl (Nat.le_of_ble_eq_true rfl) (am_in (in_2 (List.mem_of_getElem? (i := 75) rfl)) rfl) rfl rfl (by decide +kernel) (by (try simp only [List.length_set]); exact Nat.le_of_ble_eq_true rfl) (by decide +kernel) (fun q1 H locs hP hD hS => ?_)
  refine W.widen (k := 1) (n := 64) (Nat.le_of_ble_eq_true rfl) (Nat.le_of_ble_eq_true rfl) ?_
  exact W.vret hx hb hr (fun t ht hW => ⟨⟨(fun k => if k < 1 then h0 else if k < 2 then q1 else 0), rfl, trivial, rfl, by rw [ht]; exact hP, hD⟩, hS.F ht⟩) hS.2.2 (by decide +kernel)


def ct_X0 (a : Nat → Nat) (cA : Nat → ClassId) : va_W := (a 0, .inr (0, [.ref (a 1), .ref (a 2), .ref (a 3), .ref (a 4), .ref (a 5), .ref (a 6), .ref (a 7), .int 0, .int 0, .int 0, .int 0, .int 0, .int 0])) :: ([(a 1, .inl (cA 0, 20, .inl fun _ => 0))] ++ [(a 2, .inl (cA 0, 20, .inl fun _ => 0))] ++ [(a 3, .inl (cA 0, 20, .inl fun _ => 0))] ++ [(a 4, .inl (cA 0, 20, .inl fun _ => 0))] ++ [(a 5, .inl (cA 0, 20, .inl fun _ => 0))] ++ [(a 6, .inl (cA 1, 20, .inl fun _ => 0))] ++ [(a 7, .inl (cA 0, 8, .inl fun _ => 0))])
theorem ct_X0_congr {a b : Nat → Nat} {cA : Nat → ClassId} (h : ∀ k, k < 8 → a k = b k) : ct_X0 a cA = ct_X0 b cA := by
  unfold ct_X0
  rw [h 0 (by decide), h 1 (by decide), h 2 (by decide), h 3 (by decide), h 4 (by decide), h 5 (by decide), h 6 (by decide), h 7 (by decide)]
set_option maxHeartbeats 4000000 in
set_option maxRecDepth 100000 in
theorem cn_X0 (l : Launch) (D : va_G) (cA : Nat → ClassId) (h0 sz : Nat) : Met l yX0_init (cn_ws yX0_init prog_2_method_1_code) ({ frames := 1, cells := 7, slots := 128, locals := 12 }) (cn_Pc D cA h0 sz 0 [.null, .null, .null, .null, .null, .null, .null, .int 0, .int 0, .int 0, .int 0, .int 0, .int 0]) (cn_Qc D h0 sz 0 [.null, .null, .null, .null, .null, .null, .null, .int 0, .int 0, .int 0, .int 0, .int 0, .int 0] (fun a => ct_X0 a cA)) 7 128 (va_A [(h0, .inr (0, [.null, .null, .null, .null, .null, .null, .null, .int 0, .int 0, .int 0, .int 0, .int 0, .int 0]))] sz) := by
  refine Met.ofW (cc := prog_2_method_1_code) (maxL := 1) (ret := none) (by decide) rfl ?_
  intro p e s m args below meth c s₁ B hml hv
  obtain ⟨rfl, hsz, hP, hK, hNn, hD0⟩ := hv
  have hx := B.exec
  have hb := B.bytes
  have hr := B.returns
  have hts0 := atoms_spec (ws := cn_ws yX0_init prog_2_method_1_code) B.pre
  have hts : ∀ w ∈ am_WG, w.before #[Value.ref h0] s = true := fun w h => hts0 w (List.mem_cons_of_mem _ h)
  have hown : s.vm.findClass RX0 = some m.cls := findClass_of_methodNamed B.named
  have hlocks := B.notSynchronized
  have hin : meth.name = "<init>" := (name_of_methodNamed B.named B.method).1
  subst hsz
  have hD := hD0.self (sz := s.heap.size)
  unfold cn_Qc
  generalize hAe : va_A [(h0, .inr (0, [.null, .null, .null, .null, .null, .null, .null, .int 0, .int 0, .int 0, .int 0, .int 0, .int 0]))] s.heap.size = A at hD ⊢
  have hA : ∀ q : Nat, s.heap.size ≤ q → A q := fun q h => by rw [← hAe]; exact Or.inr h
  have hS : va_S A s.heap s.heap [] := va_S.rf
  have C0 : CC D cA RX0 prog_2_method_1_code p s m #[Value.ref h0] meth c A := ⟨hx, hb, hml, hown, hts, hK, hNn, hA, hin⟩
  have hl := lv_entry ([.ref h0]) (n := 1) (Nat.le_of_ble_eq_true rfl)
  rw [lg_entry_eq]
  generalize (lg_sl ([.ref h0]) ++ List.replicate (1 - (lg_sl ([.ref h0])).length) Slot.unset).toArray = ls at hl ⊢
  have hl : lv_has ls 1 [(0, .ref h0)] := hl
  refine lv_aload_n (k := 0) hx hb (by decide +kernel) rfl (lv_at hl 0 rfl) ?_
  refine W.objInit (idx := 3) hx hb hown (hts _ (am_in (in_1 (List.mem_of_getElem? (i := 178) rfl)) rfl)) (hts _ (am_in (in_1 (List.mem_of_getElem? (i := 21) rfl)) rfl)) (hts _ (am_in (in_1 (List.mem_of_getElem? (i := 22) rfl)) rfl)) rfl (by rw [hml]; exact hl.1) rfl (show decode prog_2_method_1_code 1 = .ok (.invokespecial 3, 3) by decide +kernel) (Nat.le_of_ble_eq_true rfl) (Nat.le_of_ble_eq_true rfl) ?_
  refine W.eq (g2 := F0 m 4 ls []) rfl ?_
  refine lv_aload_n (k := 0) hx hb (by decide +kernel) rfl (lv_at hl 0 rfl) ?_
  refine lv_bipush (n := 20) (v := 20) hx hb (by decide +kernel) (by decide) ?_
  refine cn_np C0 (r := (RX0, TX0, 13)) (idx := 9) (k := 0) (t := 0) (atype := .int) (ty := .int) (N' := 20) (a0 := (20, .inl fun _ => 0)) hP hD hS (am_in (in_1 (List.mem_of_getElem? (i := 39) rfl)) rfl) rfl rfl (fun _ q => by cases q) (fun _ => rfl) (by decide) (by decide +kernel) (Nat.le_of_ble_eq_true rfl) (Nat.le_of_ble_eq_true rfl) (Nat.le_of_ble_eq_true rfl) (by decide +kernel) rfl (Nat.le_of_ble_eq_true rfl) (am_in (in_1 (List.mem_of_getElem? (i := 179) rfl)) rfl) rfl rfl (by decide +kernel) (by (try simp only [List.length_set]); exact Nat.le_of_ble_eq_true rfl) (by decide +kernel) (fun q1 H locs hP hD hS => ?_)
  refine lv_aload_n (k := 0) hx hb (by decide +kernel) rfl (lv_at hl 0 rfl) ?_
  refine lv_bipush (n := 20) (v := 20) hx hb (by decide +kernel) (by decide) ?_
  refine cn_np C0 (r := (RX0, TX0, 13)) (idx := 15) (k := 1) (t := 0) (atype := .int) (ty := .int) (N' := 20) (a0 := (20, .inl fun _ => 0)) hP hD hS (am_in (in_1 (List.mem_of_getElem? (i := 39) rfl)) rfl) rfl rfl (fun _ q => by cases q) (fun _ => rfl) (by decide) (by decide +kernel) (Nat.le_of_ble_eq_true rfl) (Nat.le_of_ble_eq_true rfl) (Nat.le_of_ble_eq_true rfl) (by decide +kernel) rfl (Nat.le_of_ble_eq_true rfl) (am_in (in_1 (List.mem_of_getElem? (i := 180) rfl)) rfl) rfl rfl (by decide +kernel) (by (try simp only [List.length_set]); exact Nat.le_of_ble_eq_true rfl) (by decide +kernel) (fun q2 H locs hP hD hS => ?_)
  refine lv_aload_n (k := 0) hx hb (by decide +kernel) rfl (lv_at hl 0 rfl) ?_
  refine lv_bipush (n := 20) (v := 20) hx hb (by decide +kernel) (by decide) ?_
  refine cn_np C0 (r := (RX0, TX0, 13)) (idx := 18) (k := 2) (t := 0) (atype := .int) (ty := .int) (N' := 20) (a0 := (20, .inl fun _ => 0)) hP hD hS (am_in (in_1 (List.mem_of_getElem? (i := 39) rfl)) rfl) rfl rfl (fun _ q => by cases q) (fun _ => rfl) (by decide) (by decide +kernel) (Nat.le_of_ble_eq_true rfl) (Nat.le_of_ble_eq_true rfl) (Nat.le_of_ble_eq_true rfl) (by decide +kernel) rfl (Nat.le_of_ble_eq_true rfl) (am_in (in_1 (List.mem_of_getElem? (i := 181) rfl)) rfl) rfl rfl (by decide +kernel) (by (try simp only [List.length_set]); exact Nat.le_of_ble_eq_true rfl) (by decide +kernel) (fun q3 H locs hP hD hS => ?_)
  refine lv_aload_n (k := 0) hx hb (by decide +kernel) rfl (lv_at hl 0 rfl) ?_
  refine lv_bipush (n := 20) (v := 20) hx hb (by decide +kernel) (by decide) ?_
  refine cn_np C0 (r := (RX0, TX0, 13)) (idx := 21) (k := 3) (t := 0) (atype := .int) (ty := .int) (N' := 20) (a0 := (20, .inl fun _ => 0)) hP hD hS (am_in (in_1 (List.mem_of_getElem? (i := 39) rfl)) rfl) rfl rfl (fun _ q => by cases q) (fun _ => rfl) (by decide) (by decide +kernel) (Nat.le_of_ble_eq_true rfl) (Nat.le_of_ble_eq_true rfl) (Nat.le_of_ble_eq_true rfl) (by decide +kernel) rfl (Nat.le_of_ble_eq_true rfl) (am_in (in_1 (List.mem_of_getElem? (i := 182) rfl)) rfl) rfl rfl (by decide +kernel) (by (try simp only [List.length_set]); exact Nat.le_of_ble_eq_true rfl) (by decide +kernel) (fun q4 H locs hP hD hS => ?_)
  refine lv_aload_n (k := 0) hx hb (by decide +kernel) rfl (lv_at hl 0 rfl) ?_
  refine lv_bipush (n := 20) (v := 20) hx hb (by decide +kernel) (by decide) ?_
  refine cn_np C0 (r := (RX0, TX0, 13)) (idx := 24) (k := 4) (t := 0) (atype := .int) (ty := .int) (N' := 20) (a0 := (20, .inl fun _ => 0)) hP hD hS (am_in (in_1 (List.mem_of_getElem? (i := 39) rfl)) rfl) rfl rfl (fun _ q => by cases q) (fun _ => rfl) (by decide) (by decide +kernel) (Nat.le_of_ble_eq_true rfl) (Nat.le_of_ble_eq_true rfl) (Nat.le_of_ble_eq_true rfl) (by decide +kernel) rfl (Nat.le_of_ble_eq_true rfl) (am_in (in_1 (List.mem_of_getElem? (i := 183) rfl)) rfl) rfl rfl (by decide +kernel) (by (try simp only [List.length_set]); exact Nat.le_of_ble_eq_true rfl) (by decide +kernel) (fun q5 H locs hP hD hS => ?_)
  refine lv_aload_n (k := 0) hx hb (by decide +kernel) rfl (lv_at hl 0 rfl) ?_
  refine lv_bipush (n := 20) (v := 20) hx hb (by decide +kernel) (by decide) ?_
  refine cn_np C0 (r := (RX0, TX0, 13)) (idx := 27) (k := 5) (t := 1) (atype := .boolean) (ty := .boolean) (N' := 20) (a0 := (20, .inl fun _ => 0)) hP hD hS (am_in (in_1 (List.mem_of_getElem? (i := 172) rfl)) rfl) rfl rfl (fun _ q => by cases q) (fun _ => rfl) (by decide) (by decide +kernel) (Nat.le_of_ble_eq_true rfl) (Nat.le_of_ble_eq_true rfl) (Nat.le_of_ble_eq_true rfl) (by decide +kernel) rfl (Nat.le_of_ble_eq_true rfl) (am_in (in_1 (List.mem_of_getElem? (i := 184) rfl)) rfl) rfl rfl (by decide +kernel) (by (try simp only [List.length_set]); exact Nat.le_of_ble_eq_true rfl) (by decide +kernel) (fun q6 H locs hP hD hS => ?_)
  refine lv_aload_n (k := 0) hx hb (by decide +kernel) rfl (lv_at hl 0 rfl) ?_
  refine lv_bipush (n := 8) (v := 8) hx hb (by decide +kernel) (by decide) ?_
  refine cn_np C0 (r := (RX0, TX0, 13)) (idx := 31) (k := 6) (t := 0) (atype := .int) (ty := .int) (N' := 8) (a0 := (8, .inl fun _ => 0)) hP hD hS (am_in (in_1 (List.mem_of_getElem? (i := 39) rfl)) rfl) rfl rfl (fun _ q => by cases q) (fun _ => rfl) (by decide) (by decide +kernel) (Nat.le_of_ble_eq_true rfl) (Nat.le_of_ble_eq_true rfl) (Nat.le_of_ble_eq_true rfl) (by decide +kernel) rfl (Nat.le_of_ble_eq_true rfl) (am_in (in_1 (List.mem_of_getElem? (i := 185) rfl)) rfl) rfl rfl (by decide +kernel) (by (try simp only [List.length_set]); exact Nat.le_of_ble_eq_true rfl) (by decide +kernel) (fun q7 H locs hP hD hS => ?_)
  refine W.widen (k := 7) (n := 128) (Nat.le_of_ble_eq_true rfl) (Nat.le_of_ble_eq_true rfl) ?_
  exact W.vret hx hb hr (fun t ht hW => ⟨⟨(fun k => if k < 1 then h0 else if k < 2 then q1 else if k < 3 then q2 else if k < 4 then q3 else if k < 5 then q4 else if k < 6 then q5 else if k < 7 then q6 else if k < 8 then q7 else 0), rfl, trivial, rfl, by rw [ht]; exact hP, hD⟩, hS.F ht⟩) hS.2.2 (by decide +kernel)


def ct_X4 (a : Nat → Nat) (cA : Nat → ClassId) : va_W := (a 0, .inr (4, [.ref (a 1), .ref (a 2), .ref (a 3), .ref (a 4), .ref (a 5), .ref (a 6), .ref (a 7), .int 0, .int 0, .int 0, .int 0])) :: ([(a 1, .inl (cA 0, 5, .inl fun _ => 0))] ++ [(a 2, .inl (cA 0, 5, .inl fun _ => 0))] ++ [(a 3, .inl (cA 0, 5, .inl fun _ => 0))] ++ [(a 4, .inl (cA 0, 5, .inl fun _ => 0))] ++ [(a 5, .inl (cA 0, 5, .inl fun _ => 0))] ++ [(a 6, .inl (cA 0, 5, .inl fun _ => 0))] ++ [(a 7, .inl (cA 2, 5, .inr (.inl fun _ => 0)))])
theorem ct_X4_congr {a b : Nat → Nat} {cA : Nat → ClassId} (h : ∀ k, k < 8 → a k = b k) : ct_X4 a cA = ct_X4 b cA := by
  unfold ct_X4
  rw [h 0 (by decide), h 1 (by decide), h 2 (by decide), h 3 (by decide), h 4 (by decide), h 5 (by decide), h 6 (by decide), h 7 (by decide)]
set_option maxHeartbeats 4000000 in
set_option maxRecDepth 100000 in
theorem cn_X4 (l : Launch) (D : va_G) (cA : Nat → ClassId) (h0 sz : Nat) : Met l yX4_init (cn_ws yX4_init prog_6_method_1_code) ({ frames := 1, cells := 7, slots := 35, locals := 12 }) (cn_Pc D cA h0 sz 4 [.null, .null, .null, .null, .null, .null, .null, .int 0, .int 0, .int 0, .int 0]) (cn_Qc D h0 sz 4 [.null, .null, .null, .null, .null, .null, .null, .int 0, .int 0, .int 0, .int 0] (fun a => ct_X4 a cA)) 7 35 (va_A [(h0, .inr (4, [.null, .null, .null, .null, .null, .null, .null, .int 0, .int 0, .int 0, .int 0]))] sz) := by
  refine Met.ofW (cc := prog_6_method_1_code) (maxL := 1) (ret := none) (by decide) rfl ?_
  intro p e s m args below meth c s₁ B hml hv
  obtain ⟨rfl, hsz, hP, hK, hNn, hD0⟩ := hv
  have hx := B.exec
  have hb := B.bytes
  have hr := B.returns
  have hts0 := atoms_spec (ws := cn_ws yX4_init prog_6_method_1_code) B.pre
  have hts : ∀ w ∈ am_WG, w.before #[Value.ref h0] s = true := fun w h => hts0 w (List.mem_cons_of_mem _ h)
  have hown : s.vm.findClass RX4 = some m.cls := findClass_of_methodNamed B.named
  have hlocks := B.notSynchronized
  have hin : meth.name = "<init>" := (name_of_methodNamed B.named B.method).1
  subst hsz
  have hD := hD0.self (sz := s.heap.size)
  unfold cn_Qc
  generalize hAe : va_A [(h0, .inr (4, [.null, .null, .null, .null, .null, .null, .null, .int 0, .int 0, .int 0, .int 0]))] s.heap.size = A at hD ⊢
  have hA : ∀ q : Nat, s.heap.size ≤ q → A q := fun q h => by rw [← hAe]; exact Or.inr h
  have hS : va_S A s.heap s.heap [] := va_S.rf
  have C0 : CC D cA RX4 prog_6_method_1_code p s m #[Value.ref h0] meth c A := ⟨hx, hb, hml, hown, hts, hK, hNn, hA, hin⟩
  have hl := lv_entry ([.ref h0]) (n := 1) (Nat.le_of_ble_eq_true rfl)
  rw [lg_entry_eq]
  generalize (lg_sl ([.ref h0]) ++ List.replicate (1 - (lg_sl ([.ref h0])).length) Slot.unset).toArray = ls at hl ⊢
  have hl : lv_has ls 1 [(0, .ref h0)] := hl
  refine lv_aload_n (k := 0) hx hb (by decide +kernel) rfl (lv_at hl 0 rfl) ?_
  refine W.objInit (idx := 3) hx hb hown (hts _ (am_in (in_1 (List.mem_of_getElem? (i := 230) rfl)) rfl)) (hts _ (am_in (in_1 (List.mem_of_getElem? (i := 21) rfl)) rfl)) (hts _ (am_in (in_1 (List.mem_of_getElem? (i := 22) rfl)) rfl)) rfl (by rw [hml]; exact hl.1) rfl (show decode prog_6_method_1_code 1 = .ok (.invokespecial 3, 3) by decide +kernel) (Nat.le_of_ble_eq_true rfl) (Nat.le_of_ble_eq_true rfl) ?_
  refine W.eq (g2 := F0 m 4 ls []) rfl ?_
  refine lv_aload_n (k := 0) hx hb (by decide +kernel) rfl (lv_at hl 0 rfl) ?_
  refine lv_iconst (n := 5) (v := 5) hx hb (by decide +kernel) (by decide) ?_
  refine cn_np C0 (r := (RX4, TX4, 11)) (idx := 9) (k := 0) (t := 0) (atype := .int) (ty := .int) (N' := 5) (a0 := (5, .inl fun _ => 0)) hP hD hS (am_in (in_1 (List.mem_of_getElem? (i := 39) rfl)) rfl) rfl rfl (fun _ q => by cases q) (fun _ => rfl) (by decide) (by decide +kernel) (Nat.le_of_ble_eq_true rfl) (Nat.le_of_ble_eq_true rfl) (Nat.le_of_ble_eq_true rfl) (by decide +kernel) rfl (Nat.le_of_ble_eq_true rfl) (am_in (in_1 (List.mem_of_getElem? (i := 231) rfl)) rfl) rfl rfl (by decide +kernel) (by (try simp only [List.length_set]); exact Nat.le_of_ble_eq_true rfl) (by decide +kernel) (fun q1 H locs hP hD hS => ?_)
  refine lv_aload_n (k := 0) hx hb (by decide +kernel) rfl (lv_at hl 0 rfl) ?_
  refine lv_iconst (n := 5) (v := 5) hx hb (by decide +kernel) (by decide) ?_
  refine cn_np C0 (r := (RX4, TX4, 11)) (idx := 15) (k := 1) (t := 0) (atype := .int) (ty := .int) (N' := 5) (a0 := (5, .inl fun _ => 0)) hP hD hS (am_in (in_1 (List.mem_of_getElem? (i := 39) rfl)) rfl) rfl rfl (fun _ q => by cases q) (fun _ => rfl) (by decide) (by decide +kernel) (Nat.le_of_ble_eq_true rfl) (Nat.le_of_ble_eq_true rfl) (Nat.le_of_ble_eq_true rfl) (by decide +kernel) rfl (Nat.le_of_ble_eq_true rfl) (am_in (in_1 (List.mem_of_getElem? (i := 232) rfl)) rfl) rfl rfl (by decide +kernel) (by (try simp only [List.length_set]); exact Nat.le_of_ble_eq_true rfl) (by decide +kernel) (fun q2 H locs hP hD hS => ?_)
  refine lv_aload_n (k := 0) hx hb (by decide +kernel) rfl (lv_at hl 0 rfl) ?_
  refine lv_iconst (n := 5) (v := 5) hx hb (by decide +kernel) (by decide) ?_
  refine cn_np C0 (r := (RX4, TX4, 11)) (idx := 18) (k := 2) (t := 0) (atype := .int) (ty := .int) (N' := 5) (a0 := (5, .inl fun _ => 0)) hP hD hS (am_in (in_1 (List.mem_of_getElem? (i := 39) rfl)) rfl) rfl rfl (fun _ q => by cases q) (fun _ => rfl) (by decide) (by decide +kernel) (Nat.le_of_ble_eq_true rfl) (Nat.le_of_ble_eq_true rfl) (Nat.le_of_ble_eq_true rfl) (by decide +kernel) rfl (Nat.le_of_ble_eq_true rfl) (am_in (in_1 (List.mem_of_getElem? (i := 233) rfl)) rfl) rfl rfl (by decide +kernel) (by (try simp only [List.length_set]); exact Nat.le_of_ble_eq_true rfl) (by decide +kernel) (fun q3 H locs hP hD hS => ?_)
  refine lv_aload_n (k := 0) hx hb (by decide +kernel) rfl (lv_at hl 0 rfl) ?_
  refine lv_iconst (n := 5) (v := 5) hx hb (by decide +kernel) (by decide) ?_
  refine cn_np C0 (r := (RX4, TX4, 11)) (idx := 21) (k := 3) (t := 0) (atype := .int) (ty := .int) (N' := 5) (a0 := (5, .inl fun _ => 0)) hP hD hS (am_in (in_1 (List.mem_of_getElem? (i := 39) rfl)) rfl) rfl rfl (fun _ q => by cases q) (fun _ => rfl) (by decide) (by decide +kernel) (Nat.le_of_ble_eq_true rfl) (Nat.le_of_ble_eq_true rfl) (Nat.le_of_ble_eq_true rfl) (by decide +kernel) rfl (Nat.le_of_ble_eq_true rfl) (am_in (in_1 (List.mem_of_getElem? (i := 234) rfl)) rfl) rfl rfl (by decide +kernel) (by (try simp only [List.length_set]); exact Nat.le_of_ble_eq_true rfl) (by decide +kernel) (fun q4 H locs hP hD hS => ?_)
  refine lv_aload_n (k := 0) hx hb (by decide +kernel) rfl (lv_at hl 0 rfl) ?_
  refine lv_iconst (n := 5) (v := 5) hx hb (by decide +kernel) (by decide) ?_
  refine cn_np C0 (r := (RX4, TX4, 11)) (idx := 24) (k := 4) (t := 0) (atype := .int) (ty := .int) (N' := 5) (a0 := (5, .inl fun _ => 0)) hP hD hS (am_in (in_1 (List.mem_of_getElem? (i := 39) rfl)) rfl) rfl rfl (fun _ q => by cases q) (fun _ => rfl) (by decide) (by decide +kernel) (Nat.le_of_ble_eq_true rfl) (Nat.le_of_ble_eq_true rfl) (Nat.le_of_ble_eq_true rfl) (by decide +kernel) rfl (Nat.le_of_ble_eq_true rfl) (am_in (in_1 (List.mem_of_getElem? (i := 235) rfl)) rfl) rfl rfl (by decide +kernel) (by (try simp only [List.length_set]); exact Nat.le_of_ble_eq_true rfl) (by decide +kernel) (fun q5 H locs hP hD hS => ?_)
  refine lv_aload_n (k := 0) hx hb (by decide +kernel) rfl (lv_at hl 0 rfl) ?_
  refine lv_iconst (n := 5) (v := 5) hx hb (by decide +kernel) (by decide) ?_
  refine cn_np C0 (r := (RX4, TX4, 11)) (idx := 27) (k := 5) (t := 0) (atype := .int) (ty := .int) (N' := 5) (a0 := (5, .inl fun _ => 0)) hP hD hS (am_in (in_1 (List.mem_of_getElem? (i := 39) rfl)) rfl) rfl rfl (fun _ q => by cases q) (fun _ => rfl) (by decide) (by decide +kernel) (Nat.le_of_ble_eq_true rfl) (Nat.le_of_ble_eq_true rfl) (Nat.le_of_ble_eq_true rfl) (by decide +kernel) rfl (Nat.le_of_ble_eq_true rfl) (am_in (in_1 (List.mem_of_getElem? (i := 236) rfl)) rfl) rfl rfl (by decide +kernel) (by (try simp only [List.length_set]); exact Nat.le_of_ble_eq_true rfl) (by decide +kernel) (fun q6 H locs hP hD hS => ?_)
  refine lv_aload_n (k := 0) hx hb (by decide +kernel) rfl (lv_at hl 0 rfl) ?_
  refine lv_iconst (n := 5) (v := 5) hx hb (by decide +kernel) (by decide) ?_
  refine cn_np C0 (r := (RX4, TX4, 11)) (idx := 30) (k := 6) (t := 2) (atype := .long) (ty := .long) (N' := 5) (a0 := (5, .inr (.inl fun _ => 0))) hP hD hS (am_in (in_2 (List.mem_of_getElem? (i := 27) rfl)) rfl) rfl rfl (fun _ q => by cases q) (fun _ => rfl) (by decide) (by decide +kernel) (Nat.le_of_ble_eq_true rfl) (Nat.le_of_ble_eq_true rfl) (Nat.le_of_ble_eq_true rfl) (by decide +kernel) rfl (Nat.le_of_ble_eq_true rfl) (am_in (in_1 (List.mem_of_getElem? (i := 237) rfl)) rfl) rfl rfl (by decide +kernel) (by (try simp only [List.length_set]); exact Nat.le_of_ble_eq_true rfl) (by decide +kernel) (fun q7 H locs hP hD hS => ?_)
  refine W.widen (k := 7) (n := 35) (Nat.le_of_ble_eq_true rfl) (Nat.le_of_ble_eq_true rfl) ?_
  exact W.vret hx hb hr (fun t ht hW => ⟨⟨(fun k => if k < 1 then h0 else if k < 2 then q1 else if k < 3 then q2 else if k < 4 then q3 else if k < 5 then q4 else if k < 6 then q5 else if k < 7 then q6 else if k < 8 then q7 else 0), rfl, trivial, rfl, by rw [ht]; exact hP, hD⟩, hS.F ht⟩) hS.2.2 (by decide +kernel)


def ct_X8 (a : Nat → Nat) (cA : Nat → ClassId) : va_W := (a 0, .inr (8, [.ref (a 1), .ref (a 2), .int 0, .ref (a 3), .ref (a 4)])) :: ([(a 1, .inl (cA 0, 64, .inl fun _ => 0))] ++ [(a 2, .inl (cA 0, 64, .inl fun _ => 0))] ++ [(a 3, .inl (cA 0, 14, .inl fun _ => 0))] ++ [(a 4, .inl (cA 3, 8192, .inl fun _ => 0))])
theorem ct_X8_congr {a b : Nat → Nat} {cA : Nat → ClassId} (h : ∀ k, k < 5 → a k = b k) : ct_X8 a cA = ct_X8 b cA := by
  unfold ct_X8
  rw [h 0 (by decide), h 1 (by decide), h 2 (by decide), h 3 (by decide), h 4 (by decide)]
set_option maxHeartbeats 4000000 in
set_option maxRecDepth 100000 in
theorem cn_X8 (l : Launch) (D : va_G) (cA : Nat → ClassId) (h0 sz : Nat) : Met l yX8_init (cn_ws yX8_init prog_10_method_1_code) ({ frames := 1, cells := 4, slots := 8334, locals := 12 }) (cn_Pc D cA h0 sz 8 [.null, .null, .int 0, .null, .null]) (cn_Qc D h0 sz 8 [.null, .null, .int 0, .null, .null] (fun a => ct_X8 a cA)) 4 8334 (va_A [(h0, .inr (8, [.null, .null, .int 0, .null, .null]))] sz) := by
  refine Met.ofW (cc := prog_10_method_1_code) (maxL := 1) (ret := none) (by decide) rfl ?_
  intro p e s m args below meth c s₁ B hml hv
  obtain ⟨rfl, hsz, hP, hK, hNn, hD0⟩ := hv
  have hx := B.exec
  have hb := B.bytes
  have hr := B.returns
  have hts0 := atoms_spec (ws := cn_ws yX8_init prog_10_method_1_code) B.pre
  have hts : ∀ w ∈ am_WG, w.before #[Value.ref h0] s = true := fun w h => hts0 w (List.mem_cons_of_mem _ h)
  have hown : s.vm.findClass RX8 = some m.cls := findClass_of_methodNamed B.named
  have hlocks := B.notSynchronized
  have hin : meth.name = "<init>" := (name_of_methodNamed B.named B.method).1
  subst hsz
  have hD := hD0.self (sz := s.heap.size)
  unfold cn_Qc
  generalize hAe : va_A [(h0, .inr (8, [.null, .null, .int 0, .null, .null]))] s.heap.size = A at hD ⊢
  have hA : ∀ q : Nat, s.heap.size ≤ q → A q := fun q h => by rw [← hAe]; exact Or.inr h
  have hS : va_S A s.heap s.heap [] := va_S.rf
  have C0 : CC D cA RX8 prog_10_method_1_code p s m #[Value.ref h0] meth c A := ⟨hx, hb, hml, hown, hts, hK, hNn, hA, hin⟩
  have hl := lv_entry ([.ref h0]) (n := 1) (Nat.le_of_ble_eq_true rfl)
  rw [lg_entry_eq]
  generalize (lg_sl ([.ref h0]) ++ List.replicate (1 - (lg_sl ([.ref h0])).length) Slot.unset).toArray = ls at hl ⊢
  have hl : lv_has ls 1 [(0, .ref h0)] := hl
  refine lv_aload_n (k := 0) hx hb (by decide +kernel) rfl (lv_at hl 0 rfl) ?_
  refine W.objInit (idx := 3) hx hb hown (hts _ (am_in (in_2 (List.mem_of_getElem? (i := 51) rfl)) rfl)) (hts _ (am_in (in_1 (List.mem_of_getElem? (i := 21) rfl)) rfl)) (hts _ (am_in (in_1 (List.mem_of_getElem? (i := 22) rfl)) rfl)) rfl (by rw [hml]; exact hl.1) rfl (show decode prog_10_method_1_code 1 = .ok (.invokespecial 3, 3) by decide +kernel) (Nat.le_of_ble_eq_true rfl) (Nat.le_of_ble_eq_true rfl) ?_
  refine W.eq (g2 := F0 m 4 ls []) rfl ?_
  refine lv_aload_n (k := 0) hx hb (by decide +kernel) rfl (lv_at hl 0 rfl) ?_
  refine lv_bipush (n := 64) (v := 64) hx hb (by decide +kernel) (by decide) ?_
  refine cn_np C0 (r := (RX8, TX8, 5)) (idx := 9) (k := 0) (t := 0) (atype := .int) (ty := .int) (N' := 64) (a0 := (64, .inl fun _ => 0)) hP hD hS (am_in (in_1 (List.mem_of_getElem? (i := 39) rfl)) rfl) rfl rfl (fun _ q => by cases q) (fun _ => rfl) (by decide) (by decide +kernel) (Nat.le_of_ble_eq_true rfl) (Nat.le_of_ble_eq_true rfl) (Nat.le_of_ble_eq_true rfl) (by decide +kernel) rfl (Nat.le_of_ble_eq_true rfl) (am_in (in_2 (List.mem_of_getElem? (i := 52) rfl)) rfl) rfl rfl (by decide +kernel) (by (try simp only [List.length_set]); exact Nat.le_of_ble_eq_true rfl) (by decide +kernel) (fun q1 H locs hP hD hS => ?_)
  refine lv_aload_n (k := 0) hx hb (by decide +kernel) rfl (lv_at hl 0 rfl) ?_
  refine lv_bipush (n := 64) (v := 64) hx hb (by decide +kernel) (by decide) ?_
  refine cn_np C0 (r := (RX8, TX8, 5)) (idx := 15) (k := 1) (t := 0) (atype := .int) (ty := .int) (N' := 64) (a0 := (64, .inl fun _ => 0)) hP hD hS (am_in (in_1 (List.mem_of_getElem? (i := 39) rfl)) rfl) rfl rfl (fun _ q => by cases q) (fun _ => rfl) (by decide) (by decide +kernel) (Nat.le_of_ble_eq_true rfl) (Nat.le_of_ble_eq_true rfl) (Nat.le_of_ble_eq_true rfl) (by decide +kernel) rfl (Nat.le_of_ble_eq_true rfl) (am_in (in_2 (List.mem_of_getElem? (i := 53) rfl)) rfl) rfl rfl (by decide +kernel) (by (try simp only [List.length_set]); exact Nat.le_of_ble_eq_true rfl) (by decide +kernel) (fun q2 H locs hP hD hS => ?_)
  refine lv_aload_n (k := 0) hx hb (by decide +kernel) rfl (lv_at hl 0 rfl) ?_
  refine lv_bipush (n := 14) (v := 14) hx hb (by decide +kernel) (by decide) ?_
  refine cn_np C0 (r := (RX8, TX8, 5)) (idx := 18) (k := 3) (t := 0) (atype := .int) (ty := .int) (N' := 14) (a0 := (14, .inl fun _ => 0)) hP hD hS (am_in (in_1 (List.mem_of_getElem? (i := 39) rfl)) rfl) rfl rfl (fun _ q => by cases q) (fun _ => rfl) (by decide) (by decide +kernel) (Nat.le_of_ble_eq_true rfl) (Nat.le_of_ble_eq_true rfl) (Nat.le_of_ble_eq_true rfl) (by decide +kernel) rfl (Nat.le_of_ble_eq_true rfl) (am_in (in_2 (List.mem_of_getElem? (i := 55) rfl)) rfl) rfl rfl (by decide +kernel) (by (try simp only [List.length_set]); exact Nat.le_of_ble_eq_true rfl) (by decide +kernel) (fun q3 H locs hP hD hS => ?_)
  refine lv_aload_n (k := 0) hx hb (by decide +kernel) rfl (lv_at hl 0 rfl) ?_
  refine lv_sipush (n := 8192) (v := 8192) hx hb (by decide +kernel) (by decide) ?_
  refine cn_np C0 (r := (RX8, TX8, 5)) (idx := 21) (k := 4) (t := 3) (atype := .byte) (ty := .byte) (N' := 8192) (a0 := (8192, .inl fun _ => 0)) hP hD hS (am_in (in_2 (List.mem_of_getElem? (i := 68) rfl)) rfl) rfl rfl (fun _ q => by cases q) (fun _ => rfl) (by decide) (by decide +kernel) (Nat.le_of_ble_eq_true rfl) (Nat.le_of_ble_eq_true rfl) (Nat.le_of_ble_eq_true rfl) (by decide +kernel) rfl (Nat.le_of_ble_eq_true rfl) (am_in (in_2 (List.mem_of_getElem? (i := 56) rfl)) rfl) rfl rfl (by decide +kernel) (by (try simp only [List.length_set]); exact Nat.le_of_ble_eq_true rfl) (by decide +kernel) (fun q4 H locs hP hD hS => ?_)
  refine W.widen (k := 4) (n := 8334) (Nat.le_of_ble_eq_true rfl) (Nat.le_of_ble_eq_true rfl) ?_
  exact W.vret hx hb hr (fun t ht hW => ⟨⟨(fun k => if k < 1 then h0 else if k < 2 then q1 else if k < 3 then q2 else if k < 4 then q3 else if k < 5 then q4 else 0), rfl, trivial, rfl, by rw [ht]; exact hP, hD⟩, hS.F ht⟩) hS.2.2 (by decide +kernel)


def ct_X7 (a : Nat → Nat) (cA : Nat → ClassId) : va_W := (a 0, .inr (7, [.ref (a 1), .ref (a 7), .int 0])) :: ([(a 1, .inl (cA 4, 5, .inr (.inr (.inr (.inr fun i => if i < 5 then some (a (2 + i)) else none)))))] ++ [(a 2, .inl (cA 0, 8, .inl fun _ => 0)), (a 3, .inl (cA 0, 8, .inl fun _ => 0)), (a 4, .inl (cA 0, 8, .inl fun _ => 0)), (a 5, .inl (cA 0, 8, .inl fun _ => 0)), (a 6, .inl (cA 0, 8, .inl fun _ => 0))] ++ [(a 7, .inl (cA 0, 5, .inl fun _ => 0))])
theorem ct_X7_congr {a b : Nat → Nat} {cA : Nat → ClassId} (h : ∀ k, k < 8 → a k = b k) : ct_X7 a cA = ct_X7 b cA := by
  unfold ct_X7
  have hfe : (fun i : Nat => if i < 5 then some (a (2 + i)) else none) = (fun i : Nat => if i < 5 then some (b (2 + i)) else none) := by
    funext i
    by_cases hi : i < 5
    · rw [if_pos hi, if_pos hi, h _ (by omega)]
    · rw [if_neg hi, if_neg hi]
  rw [h 0 (by decide), h 1 (by decide), h 2 (by decide), h 3 (by decide), h 4 (by decide), h 5 (by decide), h 6 (by decide), hfe, h 7 (by decide)]
set_option maxHeartbeats 4000000 in
set_option maxRecDepth 100000 in
theorem cn_X7 (l : Launch) (D : va_G) (cA : Nat → ClassId) (h0 sz : Nat) : Met l yX7_init (cn_ws yX7_init prog_9_method_1_code) ({ frames := 1, cells := 7, slots := 50, locals := 12 }) (cn_Pc D cA h0 sz 7 [.null, .null, .int 0]) (cn_Qc D h0 sz 7 [.null, .null, .int 0] (fun a => ct_X7 a cA)) 7 50 (va_A [(h0, .inr (7, [.null, .null, .int 0]))] sz) := by
  refine Met.ofW (cc := prog_9_method_1_code) (maxL := 1) (ret := none) (by decide) rfl ?_
  intro p e s m args below meth c s₁ B hml hv
  obtain ⟨rfl, hsz, hP, hK, hNn, hD0⟩ := hv
  have hx := B.exec
  have hb := B.bytes
  have hr := B.returns
  have hts0 := atoms_spec (ws := cn_ws yX7_init prog_9_method_1_code) B.pre
  have hts : ∀ w ∈ am_WG, w.before #[Value.ref h0] s = true := fun w h => hts0 w (List.mem_cons_of_mem _ h)
  have hown : s.vm.findClass RX7 = some m.cls := findClass_of_methodNamed B.named
  have hlocks := B.notSynchronized
  have hin : meth.name = "<init>" := (name_of_methodNamed B.named B.method).1
  subst hsz
  have hD := hD0.self (sz := s.heap.size)
  unfold cn_Qc
  generalize hAe : va_A [(h0, .inr (7, [.null, .null, .int 0]))] s.heap.size = A at hD ⊢
  have hA : ∀ q : Nat, s.heap.size ≤ q → A q := fun q h => by rw [← hAe]; exact Or.inr h
  have hS : va_S A s.heap s.heap [] := va_S.rf
  have C0 : CC D cA RX7 prog_9_method_1_code p s m #[Value.ref h0] meth c A := ⟨hx, hb, hml, hown, hts, hK, hNn, hA, hin⟩
  have hl := lv_entry ([.ref h0]) (n := 1) (Nat.le_of_ble_eq_true rfl)
  rw [lg_entry_eq]
  generalize (lg_sl ([.ref h0]) ++ List.replicate (1 - (lg_sl ([.ref h0])).length) Slot.unset).toArray = ls at hl ⊢
  have hl : lv_has ls 1 [(0, .ref h0)] := hl
  refine lv_aload_n (k := 0) hx hb (by decide +kernel) rfl (lv_at hl 0 rfl) ?_
  refine W.objInit (idx := 3) hx hb hown (hts _ (am_in (in_2 (List.mem_of_getElem? (i := 33) rfl)) rfl)) (hts _ (am_in (in_1 (List.mem_of_getElem? (i := 21) rfl)) rfl)) (hts _ (am_in (in_1 (List.mem_of_getElem? (i := 22) rfl)) rfl)) rfl (by rw [hml]; exact hl.1) rfl (show decode prog_9_method_1_code 1 = .ok (.invokespecial 3, 3) by decide +kernel) (Nat.le_of_ble_eq_true rfl) (Nat.le_of_ble_eq_true rfl) ?_
  refine W.eq (g2 := F0 m 4 ls []) rfl ?_
  refine lv_aload_n (k := 0) hx hb (by decide +kernel) rfl (lv_at hl 0 rfl) ?_
  refine lv_iconst (n := 5) (v := 5) hx hb (by decide +kernel) (by decide) ?_
  refine lv_bipush (n := 8) (v := 8) hx hb (by decide +kernel) (by decide) ?_
  have hP : va_P D vwCl ([(h0, .inr (7, [.null, .null, .int 0]))] ++ va_pl [] (fun _ => .inr (0, []))) _ := hP
  have hD : va_D A ([(h0, .inr (7, [.null, .null, .int 0]))] ++ va_pl [] (fun _ => .inr (0, []))) := hD
  refine va_mna (D := D) (ty := .int) (cy := cA 0) (N' := 5) (K' := 8) (n := 5) (k := 8) (z := (8, .inl fun _ => 0)) (index := 9) hx hb hown (hts _ (am_in (in_2 (List.mem_of_getElem? (i := 34) rfl)) rfl)) (hNn.2 : _) (hts _ (am_in (in_1 (List.mem_of_getElem? (i := 39) rfl)) rfl)) (hK.2 0 _ rfl).2 hK hP hD hS hA (by decide) (by decide) (by decide) (by decide) (by decide) (by decide) (by decide) (by decide) (by decide) (Nat.le_of_ble_eq_true rfl) (Nat.le_of_ble_eq_true rfl) (fun _ => rfl) (by decide +kernel) (fun q1 rr c9 H hr1 hr2 hK9 hP hD hS => ?_)
  have e9 : c9 = cA 4 := Option.some.inj ((show _ = some c9 from (hK9.2 5 _ rfl).2).symm.trans (show _ = some (cA 4) from (hK.2 4 _ rfl).2))
  subst e9
  have hpl : va_pl ([] ++ (List.range 5).map rr) (vr_up (fun _ => .inr (0, [])) ((List.range 5).map rr) (.inl (cA 0, (8, .inl fun _ => 0)))) = [(rr 0, .inl (cA 0, 8, .inl fun _ => 0)), (rr 1, .inl (cA 0, 8, .inl fun _ => 0)), (rr 2, .inl (cA 0, 8, .inl fun _ => 0)), (rr 3, .inl (cA 0, 8, .inl fun _ => 0)), (rr 4, .inl (cA 0, 8, .inl fun _ => 0))] := by
    simp [va_pl, vr_up, List.range_succ]
  rw [hpl] at hP hD
  refine W.widen (k := 6) (n := 45) (by omega) (by omega) ?_
  refine cn_pf C0 (r := (RX7, TX7, 3)) (idx := 11) (k := 0) (v := .ref q1) (ty := .array (.array .int)) hP hD hS rfl (Nat.le_of_ble_eq_true rfl) (am_in (in_2 (List.mem_of_getElem? (i := 36) rfl)) rfl) rfl rfl (by decide +kernel) rfl rfl (Nat.le_of_ble_eq_true rfl) (by decide +kernel) (fun H locs hP hD hS => ?_)
  refine lv_aload_n (k := 0) hx hb (by decide +kernel) rfl (lv_at hl 0 rfl) ?_
  refine lv_iconst (n := 5) (v := 5) hx hb (by decide +kernel) (by decide) ?_
  refine cn_np C0 (r := (RX7, TX7, 3)) (idx := 16) (k := 1) (t := 0) (atype := .int) (ty := .int) (N' := 5) (a0 := (5, .inl fun _ => 0)) hP hD hS (am_in (in_1 (List.mem_of_getElem? (i := 39) rfl)) rfl) rfl rfl (fun _ q => by cases q) (fun _ => rfl) (by decide) (by decide +kernel) (Nat.le_of_ble_eq_true rfl) (Nat.le_of_ble_eq_true rfl) (Nat.le_of_ble_eq_true rfl) (by decide +kernel) rfl (Nat.le_of_ble_eq_true rfl) (am_in (in_2 (List.mem_of_getElem? (i := 37) rfl)) rfl) rfl rfl (by decide +kernel) (by (try simp only [List.length_set]); exact Nat.le_of_ble_eq_true rfl) (by decide +kernel) (fun q2 H locs hP hD hS => ?_)
  refine W.widen (k := 7) (n := 50) (Nat.le_of_ble_eq_true rfl) (Nat.le_of_ble_eq_true rfl) ?_
  have hfe : (fun i : Nat => if i < 5 then some (rr i) else none) = (fun i : Nat => if i < 5 then some ((fun k : Nat => if k < 1 then h0 else if k < 2 then q1 else if k < 7 then rr (k - 2) else if k < 8 then q2 else 0) (2 + i)) else none) := by
    funext i
    by_cases h : i < 5
    · rw [if_pos h, if_pos h]
      show some (rr i) = some (if 2 + i < 1 then h0 else if 2 + i < 2 then q1 else if 2 + i < 7 then rr (2 + i - 2) else if 2 + i < 8 then q2 else 0)
      rw [if_neg (by omega), if_neg (by omega), if_pos (by omega), Nat.add_sub_cancel_left]
    · rw [if_neg h, if_neg h]
  rw [hfe] at hP hD
  exact W.vret hx hb hr (fun t ht hW => ⟨⟨(fun k => if k < 1 then h0 else if k < 2 then q1 else if k < 7 then rr (k - 2) else if k < 8 then q2 else 0), rfl, trivial, rfl, by rw [ht]; exact hP, hD⟩, hS.F ht⟩) hS.2.2 (by decide +kernel)


def ct_X3 (a : Nat → Nat) (cA : Nat → ClassId) : va_W := (a 0, .inr (3, [.ref (a 1), .int 20, .int 255, .ref (a 6), .ref (a 7), .ref (a 8), .ref (a 9), .ref (a 10), .int 0, .int 0, .int 4096])) :: (ct_X2 (fun k => a (k + 1)) cA ++ [(a 6, .inl (cA 0, 8, .inl fun _ => 0))] ++ [(a 7, .inl (cA 0, 5, .inl fun _ => 0))] ++ [(a 8, .inl (cA 0, 5, .inl fun _ => 0))] ++ [(a 9, .inl (cA 0, 5, .inl fun _ => 0))] ++ [(a 10, .inl (cA 0, 5, .inl fun _ => 0))])
theorem ct_X3_congr {a b : Nat → Nat} {cA : Nat → ClassId} (h : ∀ k, k < 11 → a k = b k) : ct_X3 a cA = ct_X3 b cA := by
  unfold ct_X3
  rw [h 0 (by decide), h 1 (by decide), ct_X2_congr (a := fun k => a (k + 1)) (b := fun k => b (k + 1)) (fun k hk => h (k + 1) (by omega)), h 6 (by decide), h 7 (by decide), h 8 (by decide), h 9 (by decide), h 10 (by decide)]
set_option maxHeartbeats 4000000 in
set_option maxRecDepth 100000 in
theorem cn_X3 (l : Launch) (D : va_G) (cA : Nat → ClassId) (h0 sz : Nat) : Met l yX3_init (cn_ws yX3_init prog_5_method_1_code) ({ frames := 2, cells := 10, slots := 81, locals := 32 }) (cn_Pc D cA h0 sz 3 [.null, .int 0, .int 0, .null, .null, .null, .null, .null, .int 0, .int 0, .int 0]) (cn_Qc D h0 sz 3 [.null, .int 0, .int 0, .null, .null, .null, .null, .null, .int 0, .int 0, .int 0] (fun a => ct_X3 a cA)) 10 81 (va_A [(h0, .inr (3, [.null, .int 0, .int 0, .null, .null, .null, .null, .null, .int 0, .int 0, .int 0]))] sz) := by
  refine Met.ofW (cc := prog_5_method_1_code) (maxL := 1) (ret := none) (by decide) rfl ?_
  intro p e s m args below meth c s₁ B hml hv
  obtain ⟨rfl, hsz, hP, hK, hNn, hD0⟩ := hv
  have hx := B.exec
  have hb := B.bytes
  have hr := B.returns
  have hts0 := atoms_spec (ws := cn_ws yX3_init prog_5_method_1_code) B.pre
  have hts : ∀ w ∈ am_WG, w.before #[Value.ref h0] s = true := fun w h => hts0 w (List.mem_cons_of_mem _ h)
  have hown : s.vm.findClass RX3 = some m.cls := findClass_of_methodNamed B.named
  have hlocks := B.notSynchronized
  have hin : meth.name = "<init>" := (name_of_methodNamed B.named B.method).1
  subst hsz
  have hD := hD0.self (sz := s.heap.size)
  unfold cn_Qc
  generalize hAe : va_A [(h0, .inr (3, [.null, .int 0, .int 0, .null, .null, .null, .null, .null, .int 0, .int 0, .int 0]))] s.heap.size = A at hD ⊢
  have hA : ∀ q : Nat, s.heap.size ≤ q → A q := fun q h => by rw [← hAe]; exact Or.inr h
  have hS : va_S A s.heap s.heap [] := va_S.rf
  have C0 : CC D cA RX3 prog_5_method_1_code p s m #[Value.ref h0] meth c A := ⟨hx, hb, hml, hown, hts, hK, hNn, hA, hin⟩
  have hl := lv_entry ([.ref h0]) (n := 1) (Nat.le_of_ble_eq_true rfl)
  rw [lg_entry_eq]
  generalize (lg_sl ([.ref h0]) ++ List.replicate (1 - (lg_sl ([.ref h0])).length) Slot.unset).toArray = ls at hl ⊢
  have hl : lv_has ls 1 [(0, .ref h0)] := hl
  refine lv_aload_n (k := 0) hx hb (by decide +kernel) rfl (lv_at hl 0 rfl) ?_
  refine W.objInit (idx := 3) hx hb hown (hts _ (am_in (in_1 (List.mem_of_getElem? (i := 45) rfl)) rfl)) (hts _ (am_in (in_1 (List.mem_of_getElem? (i := 21) rfl)) rfl)) (hts _ (am_in (in_1 (List.mem_of_getElem? (i := 22) rfl)) rfl)) rfl (by rw [hml]; exact hl.1) rfl (show decode prog_5_method_1_code 1 = .ok (.invokespecial 3, 3) by decide +kernel) (Nat.le_of_ble_eq_true rfl) (Nat.le_of_ble_eq_true rfl) ?_
  refine W.eq (g2 := F0 m 4 ls []) rfl ?_
  refine lv_aload_n (k := 0) hx hb (by decide +kernel) rfl (lv_at hl 0 rfl) ?_
  refine cn_sub C0 (r := (RX3, TX3, 11)) (r2 := (RX2, TX2, 5)) (ci2 := 2) (i1 := 9) (i2 := 11) (i3 := 12) (k := 0) (n2 := 5) (nm := "SpeakTubes$House") (ct := fun a => ct_X2 a cA) hP hD hS hl.1 (fun q sz => cn_X2 l D cA q sz) rfl (am_in (in_1 (List.mem_of_getElem? (i := 46) rfl)) rfl) (am_in (in_1 (List.mem_of_getElem? (i := 47) rfl)) rfl) (am_in (in_1 (List.mem_of_getElem? (i := 4) rfl)) rfl) ⟨tyX2, tyX2_ok, by decide⟩ rfl rfl rfl (List.mem_of_getElem? (i := 2) rfl) (in_1 (List.mem_of_getElem? (i := 50) rfl)) rfl rfl (am_in (in_1 (List.mem_of_getElem? (i := 49) rfl)) rfl) ⟨by decide, by decide, by decide +kernel⟩ ⟨Nat.le_of_ble_eq_true rfl, Nat.le_of_ble_eq_true rfl⟩ (Nat.le_of_ble_eq_true rfl) (Nat.le_of_ble_eq_true rfl) (by decide +kernel) (by decide +kernel) (by decide +kernel) (by decide +kernel) rfl (Nat.le_of_ble_eq_true rfl) (am_in (in_1 (List.mem_of_getElem? (i := 80) rfl)) rfl) rfl rfl (by decide +kernel) (by (try simp only [List.length_set]); exact Nat.le_of_ble_eq_true rfl) (fun a1 H locs hP hD hS => ?_)
  refine lv_aload_n (k := 0) hx hb (by decide +kernel) rfl (lv_at hl 0 rfl) ?_
  refine lv_bipush (n := 20) (v := 20) hx hb (by decide +kernel) (by decide) ?_
  refine cn_pi C0 (r := (RX3, TX3, 11)) (idx := 18) (k := 1) hP hD hS rfl (Nat.le_of_ble_eq_true rfl) (am_in (in_1 (List.mem_of_getElem? (i := 88) rfl)) rfl) rfl (by decide +kernel) (by (try simp only [List.length_set]); exact Nat.le_of_ble_eq_true rfl) (by decide +kernel) (fun H locs hP hD hS => ?_)
  refine lv_aload_n (k := 0) hx hb (by decide +kernel) rfl (lv_at hl 0 rfl) ?_
  refine lv_sipush (n := 255) (v := 255) hx hb (by decide +kernel) (by decide) ?_
  refine cn_pi C0 (r := (RX3, TX3, 11)) (idx := 22) (k := 2) hP hD hS rfl (Nat.le_of_ble_eq_true rfl) (am_in (in_1 (List.mem_of_getElem? (i := 92) rfl)) rfl) rfl (by decide +kernel) (by (try simp only [List.length_set]); exact Nat.le_of_ble_eq_true rfl) (by decide +kernel) (fun H locs hP hD hS => ?_)
  refine lv_aload_n (k := 0) hx hb (by decide +kernel) rfl (lv_at hl 0 rfl) ?_
  refine lv_bipush (n := 8) (v := 8) hx hb (by decide +kernel) (by decide) ?_
  refine cn_np C0 (r := (RX3, TX3, 11)) (idx := 25) (k := 3) (t := 0) (atype := .int) (ty := .int) (N' := 8) (a0 := (8, .inl fun _ => 0)) hP hD hS (am_in (in_1 (List.mem_of_getElem? (i := 39) rfl)) rfl) rfl rfl (fun _ q => by cases q) (fun _ => rfl) (by decide) (by decide +kernel) (Nat.le_of_ble_eq_true rfl) (Nat.le_of_ble_eq_true rfl) (Nat.le_of_ble_eq_true rfl) (by decide +kernel) rfl (Nat.le_of_ble_eq_true rfl) (am_in (in_1 (List.mem_of_getElem? (i := 94) rfl)) rfl) rfl rfl (by decide +kernel) (by (try simp only [List.length_set]); exact Nat.le_of_ble_eq_true rfl) (by decide +kernel) (fun q2 H locs hP hD hS => ?_)
  refine lv_aload_n (k := 0) hx hb (by decide +kernel) rfl (lv_at hl 0 rfl) ?_
  refine lv_iconst (n := 5) (v := 5) hx hb (by decide +kernel) (by decide) ?_
  refine cn_np C0 (r := (RX3, TX3, 11)) (idx := 29) (k := 4) (t := 0) (atype := .int) (ty := .int) (N' := 5) (a0 := (5, .inl fun _ => 0)) hP hD hS (am_in (in_1 (List.mem_of_getElem? (i := 39) rfl)) rfl) rfl rfl (fun _ q => by cases q) (fun _ => rfl) (by decide) (by decide +kernel) (Nat.le_of_ble_eq_true rfl) (Nat.le_of_ble_eq_true rfl) (Nat.le_of_ble_eq_true rfl) (by decide +kernel) rfl (Nat.le_of_ble_eq_true rfl) (am_in (in_1 (List.mem_of_getElem? (i := 97) rfl)) rfl) rfl rfl (by decide +kernel) (by (try simp only [List.length_set]); exact Nat.le_of_ble_eq_true rfl) (by decide +kernel) (fun q3 H locs hP hD hS => ?_)
  refine lv_aload_n (k := 0) hx hb (by decide +kernel) rfl (lv_at hl 0 rfl) ?_
  refine lv_iconst (n := 5) (v := 5) hx hb (by decide +kernel) (by decide) ?_
  refine cn_np C0 (r := (RX3, TX3, 11)) (idx := 32) (k := 5) (t := 0) (atype := .int) (ty := .int) (N' := 5) (a0 := (5, .inl fun _ => 0)) hP hD hS (am_in (in_1 (List.mem_of_getElem? (i := 39) rfl)) rfl) rfl rfl (fun _ q => by cases q) (fun _ => rfl) (by decide) (by decide +kernel) (Nat.le_of_ble_eq_true rfl) (Nat.le_of_ble_eq_true rfl) (Nat.le_of_ble_eq_true rfl) (by decide +kernel) rfl (Nat.le_of_ble_eq_true rfl) (am_in (in_1 (List.mem_of_getElem? (i := 100) rfl)) rfl) rfl rfl (by decide +kernel) (by (try simp only [List.length_set]); exact Nat.le_of_ble_eq_true rfl) (by decide +kernel) (fun q4 H locs hP hD hS => ?_)
  refine lv_aload_n (k := 0) hx hb (by decide +kernel) rfl (lv_at hl 0 rfl) ?_
  refine lv_iconst (n := 5) (v := 5) hx hb (by decide +kernel) (by decide) ?_
  refine cn_np C0 (r := (RX3, TX3, 11)) (idx := 35) (k := 6) (t := 0) (atype := .int) (ty := .int) (N' := 5) (a0 := (5, .inl fun _ => 0)) hP hD hS (am_in (in_1 (List.mem_of_getElem? (i := 39) rfl)) rfl) rfl rfl (fun _ q => by cases q) (fun _ => rfl) (by decide) (by decide +kernel) (Nat.le_of_ble_eq_true rfl) (Nat.le_of_ble_eq_true rfl) (Nat.le_of_ble_eq_true rfl) (by decide +kernel) rfl (Nat.le_of_ble_eq_true rfl) (am_in (in_1 (List.mem_of_getElem? (i := 103) rfl)) rfl) rfl rfl (by decide +kernel) (by (try simp only [List.length_set]); exact Nat.le_of_ble_eq_true rfl) (by decide +kernel) (fun q5 H locs hP hD hS => ?_)
  refine lv_aload_n (k := 0) hx hb (by decide +kernel) rfl (lv_at hl 0 rfl) ?_
  refine lv_iconst (n := 5) (v := 5) hx hb (by decide +kernel) (by decide) ?_
  refine cn_np C0 (r := (RX3, TX3, 11)) (idx := 38) (k := 7) (t := 0) (atype := .int) (ty := .int) (N' := 5) (a0 := (5, .inl fun _ => 0)) hP hD hS (am_in (in_1 (List.mem_of_getElem? (i := 39) rfl)) rfl) rfl rfl (fun _ q => by cases q) (fun _ => rfl) (by decide) (by decide +kernel) (Nat.le_of_ble_eq_true rfl) (Nat.le_of_ble_eq_true rfl) (Nat.le_of_ble_eq_true rfl) (by decide +kernel) rfl (Nat.le_of_ble_eq_true rfl) (am_in (in_1 (List.mem_of_getElem? (i := 105) rfl)) rfl) rfl rfl (by decide +kernel) (by (try simp only [List.length_set]); exact Nat.le_of_ble_eq_true rfl) (by decide +kernel) (fun q6 H locs hP hD hS => ?_)
  refine lv_aload_n (k := 0) hx hb (by decide +kernel) rfl (lv_at hl 0 rfl) ?_
  refine lv_sipush (n := 4096) (v := 4096) hx hb (by decide +kernel) (by decide) ?_
  refine cn_pi C0 (r := (RX3, TX3, 11)) (idx := 41) (k := 10) hP hD hS rfl (Nat.le_of_ble_eq_true rfl) (am_in (in_1 (List.mem_of_getElem? (i := 112) rfl)) rfl) rfl (by decide +kernel) (by (try simp only [List.length_set]); exact Nat.le_of_ble_eq_true rfl) (by decide +kernel) (fun H locs hP hD hS => ?_)
  refine W.widen (k := 10) (n := 81) (Nat.le_of_ble_eq_true rfl) (Nat.le_of_ble_eq_true rfl) ?_
  have e_a1 : ct_X2 a1 cA = ct_X2 (fun k => (fun k => if k < 1 then h0 else if k < 6 then a1 (k - 1) else if k < 7 then q2 else if k < 8 then q3 else if k < 9 then q4 else if k < 10 then q5 else if k < 11 then q6 else 0) (k + 1)) cA := ct_X2_congr (fun k hk => by
    show a1 k = (if (k + 1) < 1 then h0 else if (k + 1) < 6 then a1 ((k + 1) - 1) else if (k + 1) < 7 then q2 else if (k + 1) < 8 then q3 else if (k + 1) < 9 then q4 else if (k + 1) < 10 then q5 else if (k + 1) < 11 then q6 else 0)
    rw [if_neg (by omega), if_pos (by omega), Nat.add_sub_cancel])
  have hP : va_P D vwCl ((h0, .inr (3, [.ref (a1 0), .int 20, .int 255, .ref q2, .ref q3, .ref q4, .ref q5, .ref q6, .int 0, .int 0, .int 4096])) :: (ct_X2 a1 cA ++ [(q2, .inl (cA 0, 8, .inl fun _ => 0))] ++ [(q3, .inl (cA 0, 5, .inl fun _ => 0))] ++ [(q4, .inl (cA 0, 5, .inl fun _ => 0))] ++ [(q5, .inl (cA 0, 5, .inl fun _ => 0))] ++ [(q6, .inl (cA 0, 5, .inl fun _ => 0))])) H := hP
  have hD : va_D A ((h0, .inr (3, [.ref (a1 0), .int 20, .int 255, .ref q2, .ref q3, .ref q4, .ref q5, .ref q6, .int 0, .int 0, .int 4096])) :: (ct_X2 a1 cA ++ [(q2, .inl (cA 0, 8, .inl fun _ => 0))] ++ [(q3, .inl (cA 0, 5, .inl fun _ => 0))] ++ [(q4, .inl (cA 0, 5, .inl fun _ => 0))] ++ [(q5, .inl (cA 0, 5, .inl fun _ => 0))] ++ [(q6, .inl (cA 0, 5, .inl fun _ => 0))])) := hD
  rw [e_a1] at hP hD
  exact W.vret hx hb hr (fun t ht hW => ⟨⟨(fun k => if k < 1 then h0 else if k < 6 then a1 (k - 1) else if k < 7 then q2 else if k < 8 then q3 else if k < 9 then q4 else if k < 10 then q5 else if k < 11 then q6 else 0), rfl, trivial, rfl, by rw [ht]; exact hP, hD⟩, hS.F ht⟩) hS.2.2 (by decide +kernel)

