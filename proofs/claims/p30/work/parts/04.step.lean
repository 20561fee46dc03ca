/-! ===== an instruction of the abstract machine is one of the real one ===== -/
section STEP
variable {E : VE} {μ : MD} {y pc : Nat} {Q : QQ} {p : Program} {e : Env} {s : State} {m : MethodId} {args : Array Value} {below : List Frame} {meth : Method} {c : Code} {lo st : List Value} {M : Mem} {L : LMem}
theorem am_cl_lt {ci : Nat} {r : vw_C} (h : vwCl[ci]? = some r) : r ∈ vwCl := List.mem_of_getElem? h
theorem gx_get (C : Ctx E y p s m args meth c) {i n : Nat} (hd : decode (am_B y) pc = .ok (.getfield i, 3)) (hr : am_fl (am_O y) i = some (n / 64, n % 64)) {k : Nat} (h1 : oci k = n / 64) (h2 : n % 64 < (ofs k).length)
    (hk : GG E μ y Q p e s m args below meth c (pc + 3) lo (fv M k (n % 64) (lopt (ofs k) (n % 64)) :: st) M L) : GG E μ y Q p e s m args below meth c pc lo (.ref k :: st) M L := by
  intro ls H locs hl hP hS
  obtain ⟨hx, hb, -, -, hown, hts, -, hK, -, -, -⟩ := C
  obtain ⟨r, hr1, hw, hlt, hci, -⟩ := am_fl_spec hr
  obtain ⟨hs, hkN⟩ := oci_spec h1 (by omega)
  refine va_get (D := E.2.1) (ci := n / 64) (a := E.2.2.1 k) (ws := wd E.2.2.1 E.2.2.2.1 M L) (cl := vwCl) (tys := am_tys E.2.2.2.1) (C := r.1) (T := r.2.1) (N := r.2.2) hx hb hts (am_ws hr1) hown hK hP k (by rw [wd_get hkN, cel_inl hs]) hr1 (n % 64) hlt (hts _ hw) (fun _ h9 => h9) (v := cvl E.2.2.1 (fv M k (n % 64) (lopt (ofs k) (n % 64)))) ?_ hd (hk ls H locs hl hP hS)
  rw [List.getElem?_map, List.getElem?_range h2]
  rfl
theorem gx_put (C : Ctx E y p s m args meth c) {i n b : Nat} (hd : decode (am_B y) pc = .ok (.putfield i, 3)) (hr : am_fl (am_O y) i = some (n / 64, n % 64)) {k : Nat} {x : Int32} (h1 : oci k = n / 64) (h2 : n % 64 < (ofs k).length) (h3 : lopt (ofs k) (n % 64) = none) (h4 : am_pf (n / 64) (n % 64) = b) (hb2 : b < 2) (hx01 : b = 1 → x = 0 ∨ x = 1)
    (hk : GG E μ y Q p e s m args below meth c (pc + 3) lo st (mput M k (n % 64) x) L) : GG E μ y Q p e s m args below meth c pc lo (.int x :: .ref k :: st) M L := by
  intro ls H locs hl hP hS
  obtain ⟨hx, hb, -, -, hown, hts, -, hK, -, hinj, -⟩ := C
  obtain ⟨r, hr1, hw, hlt, hci, -⟩ := am_fl_spec hr
  obtain ⟨hs, hkN⟩ := oci_spec h1 (by omega)
  obtain ⟨hfin, hty⟩ := am_pf_spec h4 hb2 hr1
  obtain ⟨⟨ty0, hty0⟩, hnm⟩ := am_desc r (am_cl_lt hr1)
  have hD : va_D (am_AD E.2.2.1) (wd E.2.2.1 E.2.2.2.1 M L) := am_D hinj
  have hv : narrow (if b = 0 then .int else .boolean) (.int x) = .int x ∧ fits (if b = 0 then .int else .boolean) (.int x) = true := by
    by_cases hb0 : b = 0
    · rw [if_pos hb0]; exact ⟨rfl, rfl⟩
    · rw [if_neg hb0]
      rcases hx01 (by omega) with rfl | rfl <;> exact ⟨by decide, by decide⟩
  refine va_put (D := E.2.1) (ci := n / 64) (a := E.2.2.1 k) (ws := wd E.2.2.1 E.2.2.2.1 M L) (cl := vwCl) (tys := am_tys E.2.2.2.1) (C := r.1) (T := r.2.1) (N := r.2.2) (v := .int x) hx hb hts (am_ws hr1) ty0 hty0 hnm hown hK hP hD hS k (by rw [wd_get hkN, cel_inl hs]) hr1 (n % 64) hlt (hts _ hw) (fun _ h9 => h9) hfin hty hv.1 hv.2 (by rw [List.length_map, List.length_range]; exact h2) hd (fun H1 locs1 hP1 hD1 hS1 => ?_)
  have he : (wd E.2.2.1 E.2.2.2.1 M L).set k (E.2.2.1 k, .inr (n / 64, ((List.range (ofs k).length).map fun j => cvl E.2.2.1 (fv M k j (lopt (ofs k) j))).set (n % 64) (.int x))) = wd E.2.2.1 E.2.2.2.1 (mput M k (n % 64) x) L := by
    refine wd_set hkN ?_ (fun j _ hj => cel_congr (mput_ne hj))
    rw [cel_inl hs]
    refine congrArg Sum.inr (congrArg (Prod.mk (n / 64)) (List.ext_getElem? fun j => ?_))
    by_cases hj : j < (ofs k).length
    · by_cases hjn : j = n % 64
      · subst hjn
        rw [List.getElem?_set_self (by rw [List.length_map, List.length_range]; exact hj), List.getElem?_map]
        show some (Value.int x) = ((List.range (ofs k).length)[n % 64]?).map (fun j => cvl E.2.2.1 (fv (mput M k (n % 64) x) k j (lopt (ofs k) j)))
        rw [List.getElem?_range hj]
        show some (Value.int x) = some (cvl E.2.2.1 (fv (mput M k (n % 64) x) k (n % 64) (lopt (ofs k) (n % 64))))
        rw [h3]
        simp [fv, mput, cvl]
      · rw [List.getElem?_set_ne (fun q => hjn q.symm), List.getElem?_map, List.getElem?_map]
        show ((List.range (ofs k).length)[j]?).map _ = ((List.range (ofs k).length)[j]?).map (fun j => cvl E.2.2.1 (fv (mput M k (n % 64) x) k j (lopt (ofs k) j)))
        rw [List.getElem?_range hj]
        have hf : fv (mput M k (n % 64) x) k j (lopt (ofs k) j) = fv M k j (lopt (ofs k) j) := by
          cases lopt (ofs k) j with
          | some t => rfl
          | none => show Value.int _ = Value.int _; simp [mput, hjn]
        simp only [Option.map_some, hf]
    · have hj : (ofs k).length ≤ j := Nat.le_of_not_lt hj
      rw [List.getElem?_eq_none_iff.mpr (by simpa using hj), List.getElem?_eq_none_iff.mpr (by simpa using hj)]
  have hP2 : va_P E.2.1 vwCl ((wd E.2.2.1 E.2.2.2.1 M L).set k (E.2.2.1 k, .inr (n / 64, ((List.range (ofs k).length).map fun j => cvl E.2.2.1 (fv M k j (lopt (ofs k) j))).set (n % 64) (.int x)))) H1 := hP1
  rw [he] at hP2
  exact hk ls H1 locs1 hl hP2 hS1
theorem am_int {k : Nat} {t : Nat} (h : oty k = t) (ht : t < 5) (h2 : ¬ t = 2) (h4 : ¬ t = 4) {ad : Nat → Nat} {cA : Nat → ClassId} {M : Mem} {L : LMem} : cel ad cA M L k = .inl (cA t, oln k, .inl (M k)) := by
  rw [cel_inr (oty_spec h ht).1]
  simp only [h2, h4, if_false]
theorem am_get_int {k t : Nat} (h : oty k = t) (ht : t < 5) (h2 : ¬ t = 2) (h4 : ¬ t = 4) {ad : Nat → Nat} {cA : Nat → ClassId} {M : Mem} {L : LMem} : (wd ad cA M L)[k]? = some (ad k, .inl (cA t, oln k, .inl (M k))) := by
  rw [wd_get (oty_spec h ht).2, am_int h ht h2 h4]
theorem gx_iald (C : Ctx E y p s m args meth c) (hd : decode (am_B y) pc = .ok (.iaload, 1)) {k : Nat} {i : Int32} (ha : aok k 0 i)
    (hk : GG E μ y Q p e s m args below meth c (pc + 1) lo (.int (M k i.toNatClampNeg) :: st) M L) : GG E μ y Q p e s m args below meth c pc lo (.int i :: .ref k :: st) M L := by
  intro ls H locs hl hP hS
  obtain ⟨hx, hb, -, -, hown, hts, -, hK, -, -, -⟩ := C
  exact va_iald (D := E.2.1) (a := E.2.2.1 k) (cl := vwCl) (tys := am_tys E.2.2.2.1) hx hb hK hP k 0 (am_get_int ha.1 (by decide) (by decide) (by decide)) rfl ha.2 hd (hk ls H locs hl hP hS)
theorem gx_bald (C : Ctx E y p s m args meth c) (hd : decode (am_B y) pc = .ok (.baload, 1)) {k : Nat} {i : Int32} (ha : aok k 1 i ∨ aok k 3 i)
    (hk : GG E μ y Q p e s m args below meth c (pc + 1) lo (.int (M k i.toNatClampNeg) :: st) M L) : GG E μ y Q p e s m args below meth c pc lo (.int i :: .ref k :: st) M L := by
  intro ls H locs hl hP hS
  obtain ⟨hx, hb, -, -, hown, hts, -, hK, -, -, -⟩ := C
  rcases ha with ha | ha
  · exact va_zald (D := E.2.1) (a := E.2.2.1 k) (cl := vwCl) (tys := am_tys E.2.2.2.1) hx hb hK hP k 1 (am_get_int ha.1 (by decide) (by decide) (by decide)) rfl ha.2 hd (hk ls H locs hl hP hS)
  · exact va_bald (D := E.2.1) (a := E.2.2.1 k) (cl := vwCl) (tys := am_tys E.2.2.2.1) hx hb hK hP k 3 (am_get_int ha.1 (by decide) (by decide) (by decide)) rfl ha.2 hd (hk ls H locs hl hP hS)
theorem gx_lald (C : Ctx E y p s m args meth c) (hd : decode (am_B y) pc = .ok (.laload, 1)) {k : Nat} {i : Int32} (ha : aok k 2 i)
    (hk : GG E μ y Q p e s m args below meth c (pc + 1) lo (.long (L i.toNatClampNeg) :: st) M L) : GG E μ y Q p e s m args below meth c pc lo (.int i :: .ref k :: st) M L := by
  intro ls H locs hl hP hS
  obtain ⟨hx, hb, -, -, hown, hts, -, hK, -, -, -⟩ := C
  exact va_lald (D := E.2.1) (a := E.2.2.1 k) (cl := vwCl) (tys := am_tys E.2.2.2.1) (f := L) hx hb hK hP k 2 (by rw [wd_get (oty_spec ha.1 (by decide)).2, cel_inr (oty_spec ha.1 (by decide)).1]; rfl) rfl ha.2 hd (hk ls H locs hl hP hS)
theorem gx_aald (C : Ctx E y p s m args meth c) (hd : decode (am_B y) pc = .ok (.aaload, 1)) {k : Nat} {i : Int32} (ha : aok k 4 i)
    (hk : GG E μ y Q p e s m args below meth c (pc + 1) lo (.ref (k + 1 + i.toNatClampNeg) :: st) M L) : GG E μ y Q p e s m args below meth c pc lo (.int i :: .ref k :: st) M L := by
  intro ls H locs hl hP hS
  obtain ⟨hx, hb, -, -, hown, hts, -, hK, -, -, -⟩ := C
  obtain ⟨hs, hkN⟩ := oty_spec ha.1 (by decide)
  have hlt : i.toNatClampNeg < oln k := Nat.not_le.mp fun q => ha.2 (Or.inr q)
  have hcell := hP k _ (wd_get hkN)
  rw [cel_inr hs] at hcell
  have hcell : H[E.2.2.1 k]? = some (vp_cell (E.2.2.2.1 4) (oln k, .inr (.inr (.inr (.inr fun i => if i < oln k then some (E.2.2.1 (k + 1 + i)) else none))))) := hcell
  exact W.aald (v := .ref (E.2.2.1 (k + 1 + i.toNatClampNeg))) (ty := .array .int) hx hb hcell ((hK.2 4 _ rfl).1 (oln k) (fun j => va_rf (if j < oln k then some (E.2.2.1 (k + 1 + j)) else none))) rfl (fun q => by cases q) (by show ¬ (i < 0 ∨ (arrV _ _ _).slots.size ≤ _); rw [arrV_size]; exact ha.2) (by show (arrV _ _ _).slots[_]? = _; rw [arrV_read _ _ hlt]; show some (va_rf (if i.toNatClampNeg < oln k then _ else none)) = _; rw [if_pos hlt]; rfl) rfl rfl hd (hk ls H locs hl hP hS)
theorem set_int {k t : Nat} (h : oty k = t) (ht : t < 5) (h2 : ¬ t = 2) (h4 : ¬ t = 4) {ad : Nat → Nat} {cA : Nat → ClassId} {M M' : Mem} {L : LMem} {f : Nat → Int32} (hf : M' k = f) (hn : ∀ j, j ≠ k → M' j = M j) : (wd ad cA M L).set k (ad k, .inl (cA t, oln k, .inl f)) = wd ad cA M' L :=
  wd_set (oty_spec h ht).2 (by rw [am_int h ht h2 h4, hf]) (fun j _ hj => cel_congr (hn j hj))
theorem gx_iast (C : Ctx E y p s m args meth c) (hd : decode (am_B y) pc = .ok (.iastore, 1)) {k : Nat} {i x : Int32} (ha : aok k 0 i)
    (hk : GG E μ y Q p e s m args below meth c (pc + 1) lo st (mput M k i.toNatClampNeg x) L) : GG E μ y Q p e s m args below meth c pc lo (.int x :: .int i :: .ref k :: st) M L := by
  intro ls H locs hl hP hS
  obtain ⟨hx, hb, -, -, hown, hts, -, hK, -, hinj, -⟩ := C
  refine va_iast (D := E.2.1) (a := E.2.2.1 k) (cl := vwCl) (tys := am_tys E.2.2.2.1) hx hb hK hP (am_D hinj) hS k 0 (am_get_int ha.1 (by decide) (by decide) (by decide)) rfl ha.2 hd (fun H1 locs1 hP1 hD1 hS1 => ?_)
  have h7 := hP1
  rw [set_int (M' := mput M k i.toNatClampNeg x) ha.1 (by decide) (by decide) (by decide) mput_at (fun j hj => mput_ne hj)] at h7
  exact hk ls H1 locs1 hl h7 hS1
theorem gx_zast (C : Ctx E y p s m args meth c) (hd : decode (am_B y) pc = .ok (.bastore, 1)) {k : Nat} {i x : Int32} (ha : aok k 1 i)
    (hk : GG E μ y Q p e s m args below meth c (pc + 1) lo st (mput M k i.toNatClampNeg (vp_nar .boolean x)) L) : GG E μ y Q p e s m args below meth c pc lo (.int x :: .int i :: .ref k :: st) M L := by
  intro ls H locs hl hP hS
  obtain ⟨hx, hb, -, -, hown, hts, -, hK, -, hinj, -⟩ := C
  refine va_zast (D := E.2.1) (a := E.2.2.1 k) (cl := vwCl) (tys := am_tys E.2.2.2.1) hx hb hK hP (am_D hinj) hS k 1 (am_get_int ha.1 (by decide) (by decide) (by decide)) rfl ha.2 hd (fun H1 locs1 hP1 hD1 hS1 => ?_)
  have h7 := hP1
  rw [set_int (M' := mput M k i.toNatClampNeg (vp_nar .boolean x)) ha.1 (by decide) (by decide) (by decide) mput_at (fun j hj => mput_ne hj)] at h7
  exact hk ls H1 locs1 hl h7 hS1
theorem gx_bast (C : Ctx E y p s m args meth c) (hd : decode (am_B y) pc = .ok (.bastore, 1)) {k : Nat} {i x : Int32} (ha : aok k 3 i)
    (hk : GG E μ y Q p e s m args below meth c (pc + 1) lo st (mput M k i.toNatClampNeg (vp_nar .byte x)) L) : GG E μ y Q p e s m args below meth c pc lo (.int x :: .int i :: .ref k :: st) M L := by
  intro ls H locs hl hP hS
  obtain ⟨hx, hb, -, -, hown, hts, -, hK, -, hinj, -⟩ := C
  refine va_bast (D := E.2.1) (a := E.2.2.1 k) (cl := vwCl) (tys := am_tys E.2.2.2.1) hx hb hK hP (am_D hinj) hS k 3 (am_get_int ha.1 (by decide) (by decide) (by decide)) rfl ha.2 hd (fun H1 locs1 hP1 hD1 hS1 => ?_)
  have h7 := hP1
  rw [set_int (M' := mput M k i.toNatClampNeg (vp_nar .byte x)) ha.1 (by decide) (by decide) (by decide) mput_at (fun j hj => mput_ne hj)] at h7
  exact hk ls H1 locs1 hl h7 hS1
theorem gx_last (C : Ctx E y p s m args meth c) (hd : decode (am_B y) pc = .ok (.lastore, 1)) {k : Nat} {i : Int32} {x : Int64} (ha : aok k 2 i)
    (hk : GG E μ y Q p e s m args below meth c (pc + 1) lo st M (vp_updL L i.toNatClampNeg x)) : GG E μ y Q p e s m args below meth c pc lo (.long x :: .int i :: .ref k :: st) M L := by
  intro ls H locs hl hP hS
  obtain ⟨hx, hb, -, -, hown, hts, -, hK, -, hinj, -⟩ := C
  obtain ⟨hs, hkN⟩ := oty_spec ha.1 (by decide)
  refine va_last (D := E.2.1) (a := E.2.2.1 k) (cl := vwCl) (tys := am_tys E.2.2.2.1) (f := L) hx hb hK hP (am_D hinj) hS k 2 (by rw [wd_get hkN, cel_inr hs]; rfl) rfl ha.2 hd (fun H1 locs1 hP1 hD1 hS1 => ?_)
  have h7 := hP1
  rw [wd_set (M' := M) (L' := vp_updL L i.toNatClampNeg x) hkN (by rw [cel_inr hs]; rfl) (fun j hjN hj => ?_)] at h7
  · exact hk ls H1 locs1 hl h7 hS1
  · have hk56 := only_long k hkN _ hs
    cases hq : am_sh j with
    | inl z => rw [cel_inl hq, cel_inl hq]
    | inr z =>
      rw [cel_inr hq, cel_inr hq]
      have : ¬ z.1 = 2 := fun h => hj (by
        obtain ⟨z1, z2⟩ := z
        have h : z1 = 2 := h
        subst h
        rw [only_long j hjN _ hq, hk56])
      simp only [this, if_false]
theorem gx_alen (C : Ctx E y p s m args meth c) (hd : decode (am_B y) pc = .ok (.arraylength, 1)) {k : Nat} (ha : oty k < 5)
    (hk : GG E μ y Q p e s m args below meth c (pc + 1) lo (.int (Int32.ofNat (oln k)) :: st) M L) : GG E μ y Q p e s m args below meth c pc lo (.ref k :: st) M L := by
  intro ls H locs hl hP hS
  obtain ⟨hx, hb, -, -, hown, hts, -, hK, -, -, -⟩ := C
  obtain ⟨hs, hkN⟩ := oty_spec rfl ha
  have ht : (am_tys E.2.2.2.1)[oty k]? = some (E.2.2.2.1 (oty k), ([.int, .boolean, .long, .byte, .array .int] : List FieldType).getD (oty k) .int) := by
    revert ha
    generalize oty k = t
    intro ha
    match t, ha with
    | 0, _ => rfl
    | 1, _ => rfl
    | 2, _ => rfl
    | 3, _ => rfl
    | 4, _ => rfl
  exact va_alen (D := E.2.1) (a := E.2.2.1 k) (cl := vwCl) (tys := am_tys E.2.2.2.1) (x := (oln k, if oty k = 2 then .inr (.inl L) else if oty k = 4 then .inr (.inr (.inr (.inr fun i => if i < oln k then some (E.2.2.1 (k + 1 + i)) else none))) else .inl (M k))) hx hb hK hP k (oty k) (by rw [wd_get hkN, cel_inr hs]) ht rfl hd (hk ls H locs hl hP hS)
theorem gx_copy {d : Nat} (C : Ctx E y p s m args meth c) {i : Nat} (hd : decode (am_B y) pc = .ok (.invokestatic i, 3)) (hr : am_sp (am_O y) i = some 2) {ks kd : Nat} {sp dp n : Int32} (h1 : oty ks = 0) (h2 : oty kd = 0) (h3 : ¬ sp < 0) (h4 : ¬ dp < 0) (h5 : ¬ n < 0) (h6 : sp.toNatClampNeg + n.toNatClampNeg ≤ oln ks) (h7 : dp.toNatClampNeg + n.toNatClampNeg ≤ oln kd) (hc8 : csum st ≤ 8)
    (hk : GG E (nm d) y Q p e s m args below meth c (pc + 3) lo st (mcpy M ks kd sp.toNatClampNeg dp.toNatClampNeg n.toNatClampNeg) L) : GG E (nm d) y Q p e s m args below meth c pc lo (.int n :: .int dp :: .ref kd :: .int sp :: .ref ks :: st) M L := by
  intro ls H locs hl hP hS
  obtain ⟨hx, hb, -, hml, hown, hts, -, hK, -, hinj, -⟩ := C
  refine va_copyi (D := E.2.1) (cl := vwCl) (tys := am_tys E.2.2.2.1) (ty := .int) hx hb (by rw [hml, hl.1]) hown (hts _ (am_sp_spec hr).2) (hts _ (am_sys _ (by simp))) (hts _ (am_sys _ (by simp))) (hts _ (am_sys _ (by simp))) hK hP (am_D hinj) hS ks kd 0 0 (am_get_int h1 (by decide) (by decide) (by decide)) (am_get_int h2 (by decide) (by decide) (by decide)) rfl rfl rfl h3 h4 h5 h6 h7 (fun _ _ => rfl) (Nat.succ_pos _) ?_ hd (fun H1 locs1 hP1 hD1 hS1 => ?_)
  · rw [csum_eq]
    show csum st + (nativeFrameWords "java/lang/System" "arraycopy" 5 + 11) ≤ 64 * (d + 1)
    have : nativeFrameWords "java/lang/System" "arraycopy" 5 = 7 := by decide +kernel
    omega
  · have h8 := hP1
    rw [set_int (M' := mcpy M ks kd sp.toNatClampNeg dp.toNatClampNeg n.toNatClampNeg) h2 (by decide) (by decide) (by decide) mcpy_at (fun j hj => mcpy_ne hj)] at h8
    exact hk ls H1 locs1 hl h8 hS1
end STEP
