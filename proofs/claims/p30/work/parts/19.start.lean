/-! ===== the law's start ===== -/
def M0 : Mem := mput (mput (mput (mput (mput (mput (mput (mput (mput (fun _ _ => 0) 3 1 20) 3 2 255) 3 10 4096) 14 1 20) 14 2 255) 14 10 4096) 25 1 20) 25 2 255) 25 10 4096
def L0 : LMem := fun _ => 0
def adOf (a : Nat → Nat) (q b : Nat) : Nat → Nat := fun k => if k < 74 then a k else if k = 74 then q else b
def celg (G : Nat → Option Nat) (ad : Nat → Nat) (cA : Nat → ClassId) (M : Mem) (L : LMem) (k : Nat) : va_E := match am_sh k with
  | .inl x => .inr (x.1, (List.range x.2.length).map fun j => cvl ad (fv M k j (lopt x.2 j)))
  | .inr x => .inl (cA x.1, x.2, if x.1 = 2 then .inr (.inl L) else if x.1 = 4 then .inr (.inr (.inr (.inr G))) else .inl (M k))
def wdg (G : Nat → Option Nat) (ad : Nat → Nat) (cA : Nat → ClassId) (M : Mem) (L : LMem) : va_W := (List.range am_NP).map fun k => (ad k, celg G ad cA M L k)
set_option maxRecDepth 1000000 in
set_option maxHeartbeats 8000000 in
theorem wd_g (ad : Nat → Nat) (cA : Nat → ClassId) (M : Mem) (L : LMem) : wdg (fun i => if i < 5 then some (ad (58 + 1 + i)) else none) ad cA M L = wd ad cA M L := by
  rfl
set_option maxRecDepth 1000000 in
set_option maxHeartbeats 8000000 in
theorem ct_g (a : Nat → Nat) (q b : Nat) (cA : Nat → ClassId) : ct_X9 a cA ++ [(q, .inl (cA 0, 48, .inl fun _ => 0))] = wdg (fun i => if i < 5 then some (a (2 + i + 57)) else none) (adOf a q b) cA M0 L0 := by
  rfl
theorem wd_0 (a : Nat → Nat) (q b : Nat) (cA : Nat → ClassId) : ct_X9 a cA ++ [(q, .inl (cA 0, 48, .inl fun _ => 0))] = wd (adOf a q b) cA M0 L0 := by
  rw [ct_g a q b, ← wd_g]
  congr 1
  funext i
  by_cases h : i < 5
  · rw [if_pos h, if_pos h]
    unfold adOf
    rw [if_pos (by omega)]
    congr 2
    omega
  · rw [if_neg h, if_neg h]
theorem cA_of {s : State} {args : Array Value} {ty : FieldType} (h : (Cond.arrayClass ty).before args s = true) (ho : ∀ C, ty ≠ .object C) : ∃ c : ClassId, ArrOfT s c ty ∧ va_RA s c ty := by
  obtain ⟨c, k, comp, h1, h2, h3⟩ := Cond.arrayClass_spec h
  refine ⟨c, fun N z => ⟨(fun q hq => by cases hq), k, h2, comp, h3⟩, ?_⟩
  cases ty <;> first | exact h1 | exact absurd rfl (ho _)
theorem cA_all {s : State} {args : Array Value} (hts : ∀ w ∈ lw_tbl, w.before args s = true) : ∃ cA : Nat → ClassId, ∀ (k : Nat) (q : ClassId × FieldType), (am_tys cA)[k]? = some q → ArrOfT s q.1 q.2 ∧ va_RA s q.1 q.2 := by
  obtain ⟨c0, h0⟩ := cA_of (hts (.arrayClass .int) (in_1 (List.mem_of_getElem? (i := 39) rfl))) (fun _ q => by cases q)
  obtain ⟨c1, h1⟩ := cA_of (hts (.arrayClass .boolean) (in_1 (List.mem_of_getElem? (i := 172) rfl))) (fun _ q => by cases q)
  obtain ⟨c2, h2⟩ := cA_of (hts (.arrayClass .long) (in_2 (List.mem_of_getElem? (i := 27) rfl))) (fun _ q => by cases q)
  obtain ⟨c3, h3⟩ := cA_of (hts (.arrayClass .byte) (in_2 (List.mem_of_getElem? (i := 68) rfl))) (fun _ q => by cases q)
  obtain ⟨comp, c4, k4, -, -, k2, k3, k5⟩ := arrayOverA_spec (hts (.arrayOver (.array .int)) (in_2 (List.mem_of_getElem? (i := 35) rfl)))
  refine ⟨fun k => if k = 0 then c0 else if k = 1 then c1 else if k = 2 then c2 else if k = 3 then c3 else c4, fun k q hq => ?_⟩
  match k, hq with
  | 0, hq => cases hq; exact h0
  | 1, hq => cases hq; exact h1
  | 2, hq => cases hq; exact h2
  | 3, hq => cases hq; exact h3
  | 4, hq => cases hq; exact ⟨fun N z => ⟨(fun q hq => by cases hq), k4, k2, comp, k3⟩, k5⟩
  | k + 5, hq => simp [am_tys] at hq
theorem dK_all {s : State} {args : Array Value} (hts : ∀ w ∈ lw_tbl, w.before args s = true) : ∃ (dC : Nat → ClassId) (dI : Nat → Nat → Nat), ∀ (k : Nat) (q : vw_C), vwCl[k]? = some q → u_Kn s q.1 q.2.1 q.2.2 (dC k) (dI k) := by
  obtain ⟨c0, i0, hk0⟩ := u_known (C := RX0) (T := TX0) (N := 13) (n := 13) hts (fun w hw => (List.mem_filter.mp (am_ws (ci := 0) rfl w hw)).1) (hts (.instantiable RX0 13) (in_1 (List.mem_of_getElem? (i := 174) rfl)))
  obtain ⟨c1, i1, hk1⟩ := u_known (C := RX1) (T := TX1) (N := 1) (n := 1) hts (fun w hw => (List.mem_filter.mp (am_ws (ci := 1) rfl w hw)).1) (hts (.instantiable RX1 1) (in_2 (List.mem_of_getElem? (i := 70) rfl)))
  obtain ⟨c2, i2, hk2⟩ := u_known (C := RX2) (T := TX2) (N := 5) (n := 5) hts (fun w hw => (List.mem_filter.mp (am_ws (ci := 2) rfl w hw)).1) (hts (.instantiable RX2 5) (in_1 (List.mem_of_getElem? (i := 47) rfl)))
  obtain ⟨c3, i3, hk3⟩ := u_known (C := RX3) (T := TX3) (N := 11) (n := 11) hts (fun w hw => (List.mem_filter.mp (am_ws (ci := 3) rfl w hw)).1) (hts (.instantiable RX3 11) (in_1 (List.mem_of_getElem? (i := 41) rfl)))
  obtain ⟨c4, i4, hk4⟩ := u_known (C := RX4) (T := TX4) (N := 11) (n := 11) hts (fun w hw => (List.mem_filter.mp (am_ws (ci := 4) rfl w hw)).1) (hts (.instantiable RX4 11) (in_1 (List.mem_of_getElem? (i := 226) rfl)))
  obtain ⟨c5, i5, hk5⟩ := u_known (C := RX5) (T := TX5) (N := 2) (n := 2) hts (fun w hw => (List.mem_filter.mp (am_ws (ci := 5) rfl w hw)).1) (hts (.instantiable RX5 2) (in_1 (List.mem_of_getElem? (i := 24) rfl)))
  obtain ⟨c6, i6, hk6⟩ := u_known (C := RX6) (T := TX6) (N := 6) (n := 6) hts (fun w hw => (List.mem_filter.mp (am_ws (ci := 6) rfl w hw)).1) (hts (.instantiable RX6 6) (in_1 (List.mem_of_getElem? (i := 138) rfl)))
  obtain ⟨c7, i7, hk7⟩ := u_known (C := RX7) (T := TX7) (N := 3) (n := 3) hts (fun w hw => (List.mem_filter.mp (am_ws (ci := 7) rfl w hw)).1) (hts (.instantiable RX7 3) (in_2 (List.mem_of_getElem? (i := 29) rfl)))
  obtain ⟨c8, i8, hk8⟩ := u_known (C := RX8) (T := TX8) (N := 5) (n := 5) hts (fun w hw => (List.mem_filter.mp (am_ws (ci := 8) rfl w hw)).1) (hts (.instantiable RX8 5) (in_2 (List.mem_of_getElem? (i := 47) rfl)))
  obtain ⟨c9, i9, hk9⟩ := u_known (C := RX9) (T := TX9) (N := 12) (n := 12) hts (fun w hw => (List.mem_filter.mp (am_ws (ci := 9) rfl w hw)).1) (hts (.instantiable RX9 12) (in_1 (List.mem_of_getElem? (i := 16) rfl)))
  refine ⟨fun k => if k = 0 then c0 else if k = 1 then c1 else if k = 2 then c2 else if k = 3 then c3 else if k = 4 then c4 else if k = 5 then c5 else if k = 6 then c6 else if k = 7 then c7 else if k = 8 then c8 else c9, fun k => if k = 0 then i0 else if k = 1 then i1 else if k = 2 then i2 else if k = 3 then i3 else if k = 4 then i4 else if k = 5 then i5 else if k = 6 then i6 else if k = 7 then i7 else if k = 8 then i8 else i9, ?_⟩
  intro k q hq
  match k, hq with
  | 0, hq => cases hq; exact hk0
  | 1, hq => cases hq; exact hk1
  | 2, hq => cases hq; exact hk2
  | 3, hq => cases hq; exact hk3
  | 4, hq => cases hq; exact hk4
  | 5, hq => cases hq; exact hk5
  | 6, hq => cases hq; exact hk6
  | 7, hq => cases hq; exact hk7
  | 8, hq => cases hq; exact hk8
  | 9, hq => cases hq; exact hk9
  | k + 10, hq => simp at hq
theorem whole_open {p : Program} {e : Env} {s : State} {m : MethodId} {below : List Frame} {meth : Method} {c : Code} (l : Launch) {b L : Nat} {xs : Nat → Int32} (hL : L ≤ 260) (C0 : lw_At p s m meth c b L xs) (hwr : ∀ E : VE, SCE E (L, xs) → Wr E 13 [.ref 75, .ref 0, .ref 74, .null, .null, .null, .null, .null, .null, .null, .null, .null, .null, .null, .null, .null, .null, .null, .null, .null, .null] [] M0 L0) : W p l e room_1 s m #[Value.ref b] below meth c s.heap [] 0 0 (lw_Z below #[Value.ref b] s) (entryFrame m ([Value.ref b] : List Value).toArray 21) := by
  obtain ⟨hx, hb, hr, hml, hown, hts, hX, hbl, hlocks, hgv⟩ := id C0
  have hA : ∀ q : Nat, s.heap.size ≤ q → (fun q : Nat => s.heap.size ≤ q) q := fun _ h => h
  obtain ⟨cA, hcA⟩ := cA_all hts
  obtain ⟨dC, dI, hKc⟩ := dK_all hts
  have hK : va_K (dC, dI) vwCl (am_tys cA) s := ⟨hKc, hcA⟩
  have hNa : ∀ w ∈ am_nest, va_Nw w s := fun w hw => va_Nw.of (am_nestT w hw) (hts w ((by decide +kernel : ∀ w ∈ am_nest, w ∈ tables_1) w hw |> am_t1))
  have hNn : cn_N s := ⟨fun w hw => va_Nw.of (cn_nestT w hw) (hts w ((by decide +kernel : ∀ w ∈ cn_nest, w ∈ tables_1) w hw |> am_t1)), hts (.arrayOver (.array .int)) (in_2 (List.mem_of_getElem? (i := 35) rfl))⟩
  have hS : va_S (fun q : Nat => s.heap.size ≤ q) s.heap s.heap [] := va_S.rf
  have hP : va_P (dC, dI) vwCl [] s.heap := fun k q h => by simp at h
  have hD : va_D (fun q : Nat => s.heap.size ≤ q) [] := ⟨fun i j p q h => by simp at h, fun k q h => by simp at h⟩
  have hG : ∀ {y : MethodName} {bb : ByteArray}, Cond.code y bb 1 none ∈ lw_tbl → GoodIn lw_tbl (cn_ws y bb) := fun h w hw => by
    have h2 := cn_good h w hw
    exact ⟨(List.mem_filter.mp h2.1).1, h2.2⟩
  have hu : ∀ {ci : Nat} {r : vw_C}, vwCl[ci]? = some r → ∀ w ∈ u_ws r.1 r.2.1 r.2.2, w ∈ lw_tbl := fun h w hw => (List.mem_filter.mp (am_ws h w hw)).1
  have hl := lv_entry ([.ref b]) (n := 21) (Nat.le_of_ble_eq_true rfl)
  rw [lg_entry_eq]
  generalize (lg_sl ([.ref b]) ++ List.replicate (21 - (lg_sl ([.ref b])).length) Slot.unset).toArray = ls at hl ⊢
  have hl : lv_has ls 21 [(0, .ref b)] := hl
  refine va_new (D := (dC, dI)) (cl := vwCl) (ci := 9) (fs := [.null, .null, .null, .null, .null, .null, .null, .null, .null, .null, .null, .null]) (C := RX9) (T := TX9) (N := 12) hx hb hts (hu (ci := 9) rfl) tyX9 tyX9_ok hown (hts (.classLink R_law 9 RX9) (in_1 (List.mem_of_getElem? (i := 15) rfl))) (hts (.instantiable RX9 12) (in_1 (List.mem_of_getElem? (i := 16) rfl))) (hts (.initialized RX9) (in_1 (List.mem_of_getElem? (i := 1) rfl))) hK hP hD hS hA rfl (by decide) (Nat.le_of_ble_eq_true rfl) (Nat.le_of_ble_eq_true rfl) (by decide +kernel : decode code 0 = .ok (.new 9, 3)) (fun q0 H hP hD hS => ?_)
  refine lv_dup hx hb (by decide +kernel) rfl ?_
  have hPc := cn_last hP
  have hDc := cn_lastD hD
  have hFc := cn_lastF hD hS hA
  refine va_callv (va_runI (As := []) (rest := [.ref q0]) (Ts := lw_tbl) ⟨hx, hb, hml, hown, hts⟩ (cn_X9 l (dC, dI) cA q0 H.size) (cwI 0 hts (hG (in_1 (List.mem_of_getElem? (i := 19) rfl))) rfl rfl rfl (hts (.initialized RX9) (in_1 (List.mem_of_getElem? (i := 1) rfl))) (hts (.methodLink R_law 36 yX9_init) (in_1 (List.mem_of_getElem? (i := 17) rfl))) (hts (.instanceMethod yX9_init) (in_1 (List.mem_of_getElem? (i := 18) rfl))) rfl ⟨by decide, by decide, by decide +kernel⟩ ⟨Nat.le_of_ble_eq_true rfl, Nat.le_of_ble_eq_true rfl⟩) ⟨cn_blind, fun U hU hW => ⟨rfl, by rw [hU], by rw [hU]; exact hPc, va_K.moved hW.alike hK, cn_N.warm hW hNn, hDc.weaken (fun _ _ _ _ => trivial)⟩⟩ rfl rfl hl.1 rfl (lv_room (Nat.le_of_ble_eq_true rfl)) (show decode code 4 = .ok (.invokespecial 36, 3) by decide +kernel) ⟨Nat.le_of_ble_eq_true rfl, Nat.le_of_ble_eq_true rfl⟩) hS (fun q _ h => hFc q h) hFc (fun a1 t H1 locs ht hvm hw hB hz1 hk1 hS => ?_)
  obtain ⟨ha0, hP1, hD1⟩ := hB
  subst ha0
  rw [ht] at hP1
  obtain ⟨hP, hD⟩ := cn_join hP hD hk1 hFc hP1 hD1
  generalize H1 = H at hP hS ⊢
  have hP : va_P (dC, dI) vwCl (ct_X9 a1 cA) H := hP
  have hD : va_D (fun q : Nat => s.heap.size ≤ q) (ct_X9 a1 cA) := hD
  refine W.widen (k := 100) (n := 20000) (Nat.le_of_ble_eq_true rfl) (Nat.le_of_ble_eq_true rfl) ?_
  refine lv_astore_n (k := 1) (lv' := [(1, .ref (a1 0)), (0, .ref b)]) hx hb (by decide +kernel) rfl hl (by decide) rfl (fun ls hl => ?_)
  refine lv_bipush (v := nI 48) hx hb (by decide +kernel : decode code 8 = .ok (.bipush 48, 2)) (by decide) ?_
  refine cn_newa (D := (dC, dI)) (cl := vwCl) (ws := ct_X9 a1 cA) (N' := 48) (a0 := (48, .inl fun _ => 0)) hx hb (atype := .int) (hts (.arrayClass .int) (in_1 (List.mem_of_getElem? (i := 39) rfl))) rfl 0 rfl (fun _ q => by cases q) hK hP hD hS hA (fun _ => rfl) (by decide) rfl (Nat.le_of_ble_eq_true rfl) (Nat.le_of_ble_eq_true rfl) (Nat.le_of_ble_eq_true rfl) (by decide +kernel : decode code 10 = .ok (.newarray .int, 2)) (fun q1 H hP hD hS => ?_)
  rw [wd_0 a1 q1 b] at hP hD
  refine W.widen (k := 600000) (n := 7302250) (Nat.le_of_ble_eq_true rfl) (Nat.le_of_ble_eq_true rfl) ?_
  refine lv_astore_n (k := 2) (lv' := [(2, .ref q1), (1, .ref (a1 0)), (0, .ref b)]) hx hb (by decide +kernel) rfl hl (by decide) rfl (fun ls hl => ?_)
  have hinj : ∀ i j, i < am_NP → j < am_NP → adOf a1 q1 b i = adOf a1 q1 b j → i = j := fun i j hi hj h => hD.1 i j _ _ (wd_get hi) (wd_get hj) h
  have had : ∀ k, k < am_NP → s.heap.size ≤ adOf a1 q1 b k := fun k hk => hD.2 k _ (wd_get hk)
  have h75 : adOf a1 q1 b 75 = b := rfl
  refine va_forget hS.2.2 ?_
  have hS2 : va_S (am_AD (adOf a1 q1 b)) s.heap H [] := ⟨hS.1, fun q hq _ => hS.2.1 q hq (Nat.not_le.mpr hq), fun q hq => by cases hq⟩
  refine hwr (l, (dC, dI), adOf a1 q1 b, cA, L, xs) ⟨rfl, hL⟩ p e s m #[Value.ref b] below meth c ⟨hx, hb, hr, hml, hown, fun w h => hts w (List.mem_filter.mp h).1, hNa, hK, hlocks, hinj, ⟨fun i hi h => ?_, hbl, hX⟩, fun _ => ⟨rfl, had⟩⟩ ls H [] ⟨hl.1, rfl, hl.2.1, ?_⟩ hP hS2
  · have h1 := had i hi
    have h : adOf a1 q1 b i = b := h
    rw [h] at h1
    omega
  · intro i v hv hn
    match i, hv with
    | 0, hv => cases hv; exact lv_at hl 2 rfl
    | 1, hv => cases hv; exact lv_at hl 1 rfl
    | 2, hv => cases hv; exact lv_at hl 0 rfl
    | 3, hv => cases hv; exact absurd rfl hn
    | 4, hv => cases hv; exact absurd rfl hn
    | 5, hv => cases hv; exact absurd rfl hn
    | 6, hv => cases hv; exact absurd rfl hn
    | 7, hv => cases hv; exact absurd rfl hn
    | 8, hv => cases hv; exact absurd rfl hn
    | 9, hv => cases hv; exact absurd rfl hn
    | 10, hv => cases hv; exact absurd rfl hn
    | 11, hv => cases hv; exact absurd rfl hn
    | 12, hv => cases hv; exact absurd rfl hn
    | 13, hv => cases hv; exact absurd rfl hn
    | 14, hv => cases hv; exact absurd rfl hn
    | 15, hv => cases hv; exact absurd rfl hn
    | 16, hv => cases hv; exact absurd rfl hn
    | 17, hv => cases hv; exact absurd rfl hn
    | 18, hv => cases hv; exact absurd rfl hn
    | 19, hv => cases hv; exact absurd rfl hn
    | 20, hv => cases hv; exact absurd rfl hn
    | i + 21, hv => cases hv
