/-! ===== the places and the world ===== -/
theorem am_sh_lt {k : Nat} {x : Nat × List (Option Nat)} (h : am_sh k = .inl x) : k < am_NP := by
  unfold am_sh at h
  cases hb : Nat.blt k am_NP with
  | true => exact Nat.blt_eq.mp hb
  | false => rw [hb] at h; cases h
theorem oci_spec {k ci : Nat} (h : oci k = ci) (hc : ci < 99) : am_sh k = .inl (ci, ofs k) ∧ k < am_NP := by
  unfold oci at h
  unfold ofs
  cases hs : am_sh k with
  | inl x =>
    rw [hs] at h
    exact ⟨by rw [← h], am_sh_lt hs⟩
  | inr x =>
    rw [hs] at h
    have h : 99 = ci := h
    omega
theorem oty_spec {k t : Nat} (h : oty k = t) (hc : t < 5) : am_sh k = .inr (t, oln k) ∧ k < am_NP := by
  unfold oty at h
  unfold oln
  cases hs : am_sh k with
  | inl x =>
    rw [hs] at h
    have h : 99 = t := h
    omega
  | inr x =>
    rw [hs] at h
    refine ⟨by rw [← h], ?_⟩
    unfold am_sh at hs
    cases hb : Nat.blt k am_NP with
    | true => exact Nat.blt_eq.mp hb
    | false =>
      rw [hb] at hs
      have hs : (Sum.inr (99, 0) : (Nat × List (Option Nat)) ⊕ (Nat × Nat)) = .inr x := hs
      cases hs
      have h : 99 = t := h
      omega
theorem wd_get {ad : Nat → Nat} {cA : Nat → ClassId} {M : Mem} {L : LMem} {k : Nat} (h : k < am_NP) : (wd ad cA M L)[k]? = some (ad k, cel ad cA M L k) := by
  simp [wd, h]
theorem wd_len {ad : Nat → Nat} {cA : Nat → ClassId} {M : Mem} {L : LMem} : (wd ad cA M L).length = am_NP := by simp [wd]
theorem wd_none {ad : Nat → Nat} {cA : Nat → ClassId} {M : Mem} {L : LMem} {k : Nat} (h : am_NP ≤ k) : (wd ad cA M L)[k]? = none := by
  rw [List.getElem?_eq_none_iff, wd_len]; exact h
theorem wd_set {ad : Nat → Nat} {cA : Nat → ClassId} {M M' : Mem} {L L' : LMem} {k : Nat} (h : k < am_NP) {e : va_E} (he : e = cel ad cA M' L' k) (hn : ∀ j, j < am_NP → j ≠ k → cel ad cA M' L' j = cel ad cA M L j) : (wd ad cA M L).set k (ad k, e) = wd ad cA M' L' := by
  apply List.ext_getElem?
  intro j
  by_cases hj : j < am_NP
  · by_cases hjk : j = k
    · subst hjk
      rw [List.getElem?_set_self (by rw [wd_len]; exact hj), wd_get hj, he]
    · rw [List.getElem?_set_ne (fun q => hjk q.symm), wd_get hj, wd_get hj, hn j hj hjk]
  · have hj : am_NP ≤ j := Nat.le_of_not_lt hj
    rw [wd_none hj, List.getElem?_eq_none_iff, List.length_set, wd_len]
    exact hj
theorem cel_inl {ad : Nat → Nat} {cA : Nat → ClassId} {M : Mem} {L : LMem} {k : Nat} {x : Nat × List (Option Nat)} (h : am_sh k = .inl x) : cel ad cA M L k = .inr (x.1, (List.range x.2.length).map fun j => cvl ad (fv M k j (lopt x.2 j))) := by
  unfold cel; rw [h]
theorem cel_inr {ad : Nat → Nat} {cA : Nat → ClassId} {M : Mem} {L : LMem} {k : Nat} {x : Nat × Nat} (h : am_sh k = .inr x) : cel ad cA M L k = .inl (cA x.1, x.2, if x.1 = 2 then .inr (.inl L) else if x.1 = 4 then .inr (.inr (.inr (.inr fun i => if i < x.2 then some (ad (k + 1 + i)) else none))) else .inl (M k)) := by
  unfold cel; rw [h]
theorem cel_congr {ad : Nat → Nat} {cA : Nat → ClassId} {M M' : Mem} {L : LMem} {k : Nat} (h : M' k = M k) : cel ad cA M' L k = cel ad cA M L k := by
  cases hs : am_sh k with
  | inl x =>
    rw [cel_inl hs, cel_inl hs]
    have hf : ∀ j o, fv M' k j o = fv M k j o := fun j o => by
      cases o with
      | some t => rfl
      | none => show Value.int _ = Value.int _; rw [h]
    simp only [hf]
  | inr x => rw [cel_inr hs, cel_inr hs, h]
theorem mput_ne {M : Mem} {k i j : Nat} {v : Int32} (h : j ≠ k) : mput M k i v j = M j := by
  funext b
  simp [mput, h]
theorem mput_at {M : Mem} {k i : Nat} {v : Int32} : mput M k i v k = upd (M k) i v := by
  funext b
  simp [mput, upd]
theorem mcpy_ne {M : Mem} {ks kd sp dp n j : Nat} (h : j ≠ kd) : mcpy M ks kd sp dp n j = M j := by
  simp [mcpy, h]
theorem mcpy_at {M : Mem} {ks kd sp dp n : Nat} : mcpy M ks kd sp dp n kd = va_cpy (M ks) (M kd) sp dp n := by
  simp [mcpy]
theorem only_long : ∀ k, k < am_NP → ∀ n, am_sh k = .inr (2, n) → k = 56 := by
  have h : (List.range am_NP).all (fun k => match am_sh k with
    | .inr x => !(Nat.beq x.1 2) || Nat.beq k 56
    | .inl _ => true) = true := by decide +kernel
  intro k hk n hs
  have h1 := List.all_eq_true.mp h k (List.mem_range.mpr hk)
  rw [hs] at h1
  simpa using h1
/-! ===== the locals ===== -/
theorem lset_eq : ∀ (lo : List Value) (i : Nat) (v : Value), lset lo i v = lo.set i v
  | [], _, _ => rfl
  | _ :: _, 0, _ => rfl
  | a :: r, n + 1, v => by
    show a :: lset r n v = a :: r.set n v
    rw [lset_eq r n v]
theorem llt_spec : ∀ (lo : List Value) (i : Nat), llt lo i = true → i < lo.length
  | [], _, h => by cases h
  | _ :: _, 0, _ => Nat.succ_pos _
  | _ :: r, n + 1, h => Nat.succ_lt_succ (llt_spec r n h)
theorem lget_some : ∀ (lo : List Value) (i : Nat) (v : Value), lget lo i = v → v ≠ Value.null → lo[i]? = some v
  | [], _, _, h, hn => absurd h.symm hn
  | _ :: _, 0, _, h, _ => by rw [← h]; rfl
  | _ :: r, n + 1, v, h, hn => by
    rw [List.getElem?_cons_succ]
    exact lget_some r n v h hn
theorem lget_of : ∀ (lo : List Value) (i : Nat) (v : Value), lo[i]? = some v → lget lo i = v
  | [], _, _, h => by simp at h
  | _ :: _, 0, _, h => by cases h; rfl
  | _ :: r, n + 1, v, h => by
    rw [List.getElem?_cons_succ] at h
    exact lget_of r n v h
theorem cvl_cat (ad : Nat → Nat) (v : Value) : (cvl ad v).category = v.category := by cases v <;> rfl
theorem lok_spec {lo : List Value} {i : Nat} (h : lok lo i = true) : i < lo.length ∧ ∀ (j : Nat) (v : Value), j + 1 = i → lo[j]? = some v → ¬ v.category = 2 := by
  cases i with
  | zero => exact ⟨llt_spec _ _ h, fun j v q => by omega⟩
  | succ n =>
    have h : (isC1 (lget lo n) && llt lo (n + 1)) = true := h
    rw [Bool.and_eq_true] at h
    refine ⟨llt_spec _ _ h.2, fun j v q hv => ?_⟩
    have : j = n := by omega
    subst this
    have h1 := h.1
    rw [lget_of _ _ _ hv] at h1
    cases v <;> first | (intro q; cases q; done) | (cases h1)
def aso (ad : Nat → Nat) (lo : List Value) : List (Nat × Value) := (List.range lo.length).filterMap fun i => if lget lo i = Value.null then none else some (i, cvl ad (lget lo i))
theorem aso_mem {ad : Nat → Nat} {lo : List Value} {q : Nat × Value} (h : q ∈ aso ad lo) : ∃ v, lo[q.1]? = some v ∧ v ≠ Value.null ∧ q.2 = cvl ad v := by
  obtain ⟨i, -, hi⟩ := List.mem_filterMap.mp h
  by_cases hn : lget lo i = Value.null
  · rw [if_pos hn] at hi; cases hi
  · rw [if_neg hn] at hi
    cases hi
    exact ⟨_, lget_some _ _ _ rfl hn, hn, rfl⟩
theorem aso_in {ad : Nat → Nat} {lo : List Value} {i : Nat} {v : Value} (h : lo[i]? = some v) (hn : v ≠ Value.null) : (i, cvl ad v) ∈ aso ad lo := by
  refine List.mem_filterMap.mpr ⟨i, List.mem_range.mpr (List.getElem?_eq_some_iff.mp h).1, ?_⟩
  rw [lget_of _ _ _ h, if_neg hn]
theorem LOK.has {ad : Nat → Nat} {n : Nat} {ls : Array Slot} {lo : List Value} (h : LOK ad n ls lo) : lv_has ls n (aso ad lo) := by
  refine ⟨h.1, h.2.2.1, fun q hq => ?_⟩
  obtain ⟨v, h1, h2, h3⟩ := aso_mem hq
  rw [h3]
  exact h.2.2.2 _ _ h1 h2
theorem LOK.at {ad : Nat → Nat} {n : Nat} {ls : Array Slot} {lo : List Value} (h : LOK ad n ls lo) {i : Nat} {v : Value} (hv : lget lo i = v) (hn : v ≠ Value.null) : ls[i]? = some (Slot.val (cvl ad v)) := h.2.2.2 _ _ (lget_some _ _ _ hv hn) hn
theorem LOK.set1 {ad : Nat → Nat} {n : Nat} {ls ls' : Array Slot} {lo : List Value} (h : LOK ad n ls lo) {i : Nat} {v : Value} (hk : lok lo i = true) (h' : lv_has ls' n ((i, cvl ad v) :: (aso ad lo).filter (fun q => !(q.1 == i) && !(q.1 + 1 == i && q.2.category == 2)))) : LOK ad n ls' (lset lo i v) := by
  obtain ⟨hi, hc⟩ := lok_spec hk
  rw [lset_eq]
  refine ⟨h'.1, by rw [List.length_set]; exact h.2.1, h'.2.1, fun j w hw hn => ?_⟩
  by_cases hj : j = i
  · subst hj
    rw [List.getElem?_set_self hi] at hw
    cases hw
    exact h'.2.2 (j, cvl ad v) List.mem_cons_self
  · rw [List.getElem?_set_ne (fun q => hj q.symm)] at hw
    refine h'.2.2 (j, cvl ad w) (List.mem_cons_of_mem _ (List.mem_filter.mpr ⟨aso_in hw hn, ?_⟩))
    have h1 : ¬ (j + 1 = i ∧ (cvl ad w).category = 2) := fun q => hc j w q.1 hw (by rw [← cvl_cat ad w]; exact q.2)
    by_cases h2 : j + 1 = i
    · have h3 : ¬ (cvl ad w).category = 2 := fun q => h1 ⟨h2, q⟩
      simp [hj, h3]
    · simp [hj, h2]
theorem LOK.set2 {ad : Nat → Nat} {n : Nat} {ls ls' : Array Slot} {lo : List Value} (h : LOK ad n ls lo) {i : Nat} {v : Value} (hk : lok lo i = true) (hk2 : llt lo (i + 1) = true) (h' : lv_has ls' n ((i, cvl ad v) :: (aso ad lo).filter (fun q => !(q.1 == i) && (!(q.1 == i + 1) && !(q.1 + 1 == i && q.2.category == 2))))) : LOK ad n ls' (lset (lset lo i v) (i + 1) .null) := by
  obtain ⟨hi, hc⟩ := lok_spec hk
  have hi2 := llt_spec _ _ hk2
  rw [lset_eq, lset_eq]
  refine ⟨h'.1, by rw [List.length_set, List.length_set]; exact h.2.1, h'.2.1, fun j w hw hn => ?_⟩
  by_cases hj2 : j = i + 1
  · subst hj2
    rw [List.getElem?_set_self (by rw [List.length_set]; exact hi2)] at hw
    cases hw
    exact absurd rfl hn
  rw [List.getElem?_set_ne (fun q => hj2 q.symm)] at hw
  by_cases hj : j = i
  · subst hj
    rw [List.getElem?_set_self hi] at hw
    cases hw
    exact h'.2.2 (j, cvl ad v) List.mem_cons_self
  · rw [List.getElem?_set_ne (fun q => hj q.symm)] at hw
    refine h'.2.2 (j, cvl ad w) (List.mem_cons_of_mem _ (List.mem_filter.mpr ⟨aso_in hw hn, ?_⟩))
    have h1 : ¬ (j + 1 = i ∧ (cvl ad w).category = 2) := fun q => hc j w q.1 hw (by rw [← cvl_cat ad w]; exact q.2)
    by_cases h2 : j + 1 = i
    · have h3 : ¬ (cvl ad w).category = 2 := fun q => h1 ⟨h2, q⟩
      simp [hj, hj2, h3]
    · simp [hj, hj2, h2]
theorem csum_eq (ad : Nat → Nat) : ∀ st : List Value, ((st.map (cvl ad)).map fun v => v.category).sum = csum st
  | [] => rfl
  | v :: r => by
    rw [List.map_cons, List.map_cons, List.sum_cons, csum_eq ad r, cvl_cat]
    rfl
/-! ===== the tables ===== -/
theorem am_in {w : Cond} (h : w ∈ lw_tbl) (hg : goodWord w = true) : w ∈ am_WG := List.mem_filter.mpr ⟨h, hg⟩
theorem am_t1 {w : Cond} (h : w ∈ tables_1) : w ∈ lw_tbl := List.mem_append_right (k2_sels lw_privs) h
def am_flok (q : Nat × Nat × Nat × Nat × Nat) : Bool := match vwCl[q.2.2.1]? with
  | some r => decide (tables_1[q.2.2.2.2]? = some (.fieldLink (am_C q.1) q.2.1 (r.2.1 q.2.2.2.1).1 (r.2.1 q.2.2.2.1).2.1 (r.2.1 q.2.2.2.1).2.2.1)) && Nat.blt q.2.2.2.1 r.2.2 && Nat.blt q.2.2.1 11 && Nat.blt q.2.2.2.1 64
  | none => false
set_option maxRecDepth 100000 in
theorem am_FL_ok : am_FL.all am_flok = true := by decide +kernel
set_option maxRecDepth 100000 in
theorem am_CT_ok : am_CT.all (fun q => decide (tables_1[q.2.2.2]? = some (.constant (am_C q.1) q.2.1 (Int32.ofInt q.2.2.1)))) = true := by decide +kernel
set_option maxRecDepth 100000 in
theorem am_CL_ok : am_CL.all (fun q => decide (tables_1[q.2.2.2]? = some (.constantLong (am_C q.1) q.2.1 (Int64.ofNat q.2.2.1)))) = true := by decide +kernel
def am_spN : Nat → MethodName
  | 0 => Lib.Math.max.name
  | 1 => Lib.Math.min.name
  | _ => arraycopyName
set_option maxRecDepth 100000 in
theorem am_SP_ok : am_SP.all (fun q => decide (tables_1[q.2.2.2]? = some (.methodLink (am_C q.1) q.2.1 (am_spN q.2.2.1)) ∧ q.2.2.1 < 3)) = true := by decide +kernel
set_option maxRecDepth 100000 in
theorem am_PF_ok : am_PF.all (fun q => match vwCl[q.1]? with
  | some r => decide ((r.2.1 q.2.1).2.2.2 = false) && decide (parseFieldDescriptor (r.2.1 q.2.1).2.2.1 = some (if q.2.2 = 0 then .int else .boolean))
  | none => false) = true := by decide +kernel
/-! ===== one instruction ===== -/
theorem find_ok {α : Type} {l : List α} {p f : α → Bool} (h : l.all f = true) {x : α} (hx : l.find? p = some x) : f x = true ∧ p x = true := ⟨List.all_eq_true.mp h x (List.mem_of_find?_eq_some hx), List.find?_some hx⟩
theorem am_fl_spec {own i ci k : Nat} (h : am_fl own i = some (ci, k)) : ∃ r : vw_C, vwCl[ci]? = some r ∧ Cond.fieldLink (am_C own) i (r.2.1 k).1 (r.2.1 k).2.1 (r.2.1 k).2.2.1 ∈ am_WG ∧ k < r.2.2 ∧ ci < 11 ∧ k < 64 := by
  unfold am_fl at h
  obtain ⟨q, hq, he⟩ := Option.map_eq_some_iff.mp h
  obtain ⟨h1, h2⟩ := find_ok am_FL_ok hq
  cases he
  simp only [Bool.and_eq_true] at h2
  have e1 := Nat.eq_of_beq_eq_true h2.1
  have e2 := Nat.eq_of_beq_eq_true h2.2
  unfold am_flok at h1
  split at h1
  · rename_i r hr
    simp only [Bool.and_eq_true, decide_eq_true_eq] at h1
    refine ⟨r, hr, ?_, Nat.blt_eq.mp h1.1.1.2, Nat.blt_eq.mp h1.1.2, Nat.blt_eq.mp h1.2⟩
    rw [← e1, ← e2]
    exact am_in (am_t1 (List.mem_of_getElem? h1.1.1.1)) rfl
  · cases h1
theorem am_ct_spec {own i : Nat} {v : Int} (h : am_ct own i = some v) : Cond.constant (am_C own) i (Int32.ofInt v) ∈ am_WG := by
  unfold am_ct at h
  obtain ⟨q, hq, he⟩ := Option.map_eq_some_iff.mp h
  obtain ⟨h1, h2⟩ := find_ok am_CT_ok hq
  cases he
  simp only [Bool.and_eq_true] at h2
  have e1 := Nat.eq_of_beq_eq_true h2.1
  have e2 := Nat.eq_of_beq_eq_true h2.2
  simp only [decide_eq_true_eq] at h1
  rw [← e1, ← e2]
  exact am_in (am_t1 (List.mem_of_getElem? h1)) rfl
theorem am_cl_spec {own i v : Nat} (h : am_cl own i = some v) : Cond.constantLong (am_C own) i (Int64.ofNat v) ∈ am_WG := by
  unfold am_cl am_find3 at h
  obtain ⟨q, hq, he⟩ := Option.map_eq_some_iff.mp h
  obtain ⟨h1, h2⟩ := find_ok am_CL_ok hq
  cases he
  simp only [Bool.and_eq_true] at h2
  have e1 := Nat.eq_of_beq_eq_true h2.1
  have e2 := Nat.eq_of_beq_eq_true h2.2
  simp only [decide_eq_true_eq] at h1
  rw [← e1, ← e2]
  exact am_in (am_t1 (List.mem_of_getElem? h1)) rfl
theorem am_sp_spec {own i w : Nat} (h : am_sp own i = some w) : w < 3 ∧ Cond.methodLink (am_C own) i (am_spN w) ∈ am_WG := by
  unfold am_sp am_find3 at h
  obtain ⟨q, hq, he⟩ := Option.map_eq_some_iff.mp h
  obtain ⟨h1, h2⟩ := find_ok am_SP_ok hq
  cases he
  simp only [Bool.and_eq_true] at h2
  have e1 := Nat.eq_of_beq_eq_true h2.1
  have e2 := Nat.eq_of_beq_eq_true h2.2
  simp only [decide_eq_true_eq] at h1
  refine ⟨h1.2, ?_⟩
  rw [← e1, ← e2]
  exact am_in (am_t1 (List.mem_of_getElem? h1.1)) rfl
theorem am_pf_spec {ci k b : Nat} (h : am_pf ci k = b) (hb : b < 2) {r : vw_C} (hr : vwCl[ci]? = some r) : (r.2.1 k).2.2.2 = false ∧ parseFieldDescriptor (r.2.1 k).2.2.1 = some (if b = 0 then .int else .boolean) := by
  unfold am_pf at h
  split at h
  · rename_i q hq
    obtain ⟨h1, h2⟩ := find_ok am_PF_ok hq
    simp only [Bool.and_eq_true] at h2
    have e1 := Nat.eq_of_beq_eq_true h2.1
    have e2 := Nat.eq_of_beq_eq_true h2.2
    simp only [e1, hr, Bool.and_eq_true, decide_eq_true_eq, e2, h] at h1
    exact h1
  · omega
set_option maxRecDepth 100000 in
theorem am_words : vwCl.all (fun r => (u_ws r.1 r.2.1 r.2.2).all (fun w => decide (w ∈ tables_1) && goodWord w)) = true := by decide +kernel
theorem am_ws {ci : Nat} {r : vw_C} (hr : vwCl[ci]? = some r) : ∀ w ∈ u_ws r.1 r.2.1 r.2.2, w ∈ am_WG := by
  intro w hw
  have h1 := List.all_eq_true.mp (List.all_eq_true.mp am_words r (List.mem_of_getElem? hr)) w hw
  simp only [Bool.and_eq_true, decide_eq_true_eq] at h1
  exact am_in (am_t1 h1.1) h1.2
theorem am_desc : ∀ r ∈ vwCl, (∃ ty0 : Nat → FieldType, ∀ k, k < r.2.2 → parseFieldDescriptor (r.2.1 k).2.2.1 = some (ty0 k)) ∧ ∀ a, a < r.2.2 → ∀ b, b < r.2.2 → a ≠ b → (r.2.1 a).2.1 ≠ (r.2.1 b).2.1 :=
  List.forall_mem_cons.mpr ⟨⟨⟨_, tyX0_ok⟩, nmX0⟩, List.forall_mem_cons.mpr ⟨⟨⟨_, tyX1_ok⟩, nmX1⟩, List.forall_mem_cons.mpr ⟨⟨⟨_, tyX2_ok⟩, nmX2⟩, List.forall_mem_cons.mpr ⟨⟨⟨_, tyX3_ok⟩, nmX3⟩, List.forall_mem_cons.mpr ⟨⟨⟨_, tyX4_ok⟩, nmX4⟩, List.forall_mem_cons.mpr ⟨⟨⟨_, tyX5_ok⟩, nmX5⟩, List.forall_mem_cons.mpr ⟨⟨⟨_, tyX6_ok⟩, nmX6⟩, List.forall_mem_cons.mpr ⟨⟨⟨_, tyX7_ok⟩, nmX7⟩, List.forall_mem_cons.mpr ⟨⟨⟨_, tyX8_ok⟩, nmX8⟩, List.forall_mem_cons.mpr ⟨⟨⟨_, tyX9_ok⟩, nmX9⟩, fun _ h => absurd h List.not_mem_nil⟩⟩⟩⟩⟩⟩⟩⟩⟩⟩
set_option maxRecDepth 100000 in
theorem am_sys : ∀ w ∈ ([.static Lib.Math.max.name, .initialized "java/lang/Math", .code Lib.Math.max.name Lib.Math.max.code 2 (some .int), .static Lib.Math.min.name, .code Lib.Math.min.name Lib.Math.min.code 2 (some .int), .native arraycopyName, .static arraycopyName, .initialized "java/lang/System"] : List Jvm.Cond), w ∈ am_WG := by
  have h : ([.static Lib.Math.max.name, .initialized "java/lang/Math", .code Lib.Math.max.name Lib.Math.max.code 2 (some .int), .static Lib.Math.min.name, .code Lib.Math.min.name Lib.Math.min.code 2 (some .int), .native arraycopyName, .static arraycopyName, .initialized "java/lang/System"] : List Jvm.Cond).all (fun w => decide (w ∈ tables_1) && goodWord w) = true := by decide +kernel
  intro w hw
  have h1 := List.all_eq_true.mp h w hw
  simp only [Bool.and_eq_true, decide_eq_true_eq] at h1
  exact am_in (am_t1 h1.1) h1.2
theorem am_D {ad : Nat → Nat} {cA : Nat → ClassId} {M : Mem} {L : LMem} (hinj : ∀ i j, i < am_NP → j < am_NP → ad i = ad j → i = j) : va_D (am_AD ad) (wd ad cA M L) := by
  have key : ∀ (k : Nat) (q : Nat × va_E), (wd ad cA M L)[k]? = some q → k < am_NP ∧ q.1 = ad k := by
    intro k q hk
    have hl : k < am_NP := by
      have := (List.getElem?_eq_some_iff.mp hk).1
      rwa [wd_len] at this
    rw [wd_get hl] at hk
    cases hk
    exact ⟨hl, rfl⟩
  refine ⟨fun i j x z hi hj hxz => ?_, fun k q hk => ?_⟩
  · obtain ⟨h1, h2⟩ := key i x hi
    obtain ⟨h3, h4⟩ := key j z hj
    exact hinj i j h1 h3 (h2.symm.trans (hxz.trans h4))
  · obtain ⟨h1, h2⟩ := key k q hk
    exact ⟨k, h1, h2⟩
