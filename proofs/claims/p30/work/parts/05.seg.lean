/-! ===== straight stretches ===== -/
section SEG
variable {E : VE} {μ : MD} {y pc : Nat} {Q : QQ} {p : Program} {e : Env} {s : State} {m : MethodId} {args : Array Value} {below : List Frame} {meth : Method} {c : Code} {lo st : List Value} {M : Mem} {L : LMem}
/-- no method of the library's own -/
def nosp : Instr → Bool
  | .invokestatic _ => false
  | _ => true
set_option maxHeartbeats 4000000 in
theorem ex_sound (C : Ctx E y p s m args meth c) {j i : Instr} {len : Nat} (hd : decode (am_B y) pc = .ok (j, len)) (hr : am_res (am_O y) j = some (i, len)) {K : KK} (h : ex i lo st M L K) (hm : (∃ d, μ = nm d) ∨ nosp i = true)
    (hk : ∀ lo st M L, K lo st M L → GG E μ y Q p e s m args below meth c (pc + len) lo st M L) : GG E μ y Q p e s m args below meth c pc lo st M L := by
  have hx := C.1
  have hb := C.2.1
  have hml := C.2.2.2.1
  have hown := C.2.2.2.2.1
  have hts := C.2.2.2.2.2.1
  cases j with
  | iconst n =>
    cases hr
    intro ls H locs hl hP hS
    exact lv_iconst hx hb hd rfl (hk _ _ _ _ h ls H locs hl hP hS)
  | bipush n =>
    simp only [am_res] at hr
    split at hr
    · rename_i hq
      cases hr
      intro ls H locs hl hP hS
      exact lv_bipush hx hb hd hq (hk _ _ _ _ h ls H locs hl hP hS)
    · cases hr
  | sipush n =>
    simp only [am_res] at hr
    split at hr
    · rename_i hq
      cases hr
      intro ls H locs hl hP hS
      exact lv_sipush hx hb hd hq (hk _ _ _ _ h ls H locs hl hP hS)
    · cases hr
  | ldc i =>
    obtain ⟨v, hv, he⟩ := Option.map_eq_some_iff.mp hr
    cases he
    intro ls H locs hl hP hS
    exact lv_ldc hx hb hown (hts _ (am_ct_spec hv)) hd (hk _ _ _ _ h ls H locs hl hP hS)
  | ldc_w i =>
    obtain ⟨v, hv, he⟩ := Option.map_eq_some_iff.mp hr
    cases he
    intro ls H locs hl hP hS
    exact lv_ldcw hx hb hown (hts _ (am_ct_spec hv)) hd (hk _ _ _ _ h ls H locs hl hP hS)
  | ldc2_w i => exact absurd hr (by simp [am_res, am_cl, am_find3, am_CL])
  | lconst n =>
    cases hr
    intro ls H locs hl hP hS
    exact lv_lconst hx hb hd rfl (hk _ _ _ _ h ls H locs hl hP hS)
  | iload_n k =>
    cases hr
    obtain ⟨x, hx1, h⟩ := isI_inv h
    intro ls H locs hl hP hS
    exact lv_iload_n hx hb hd rfl (hl.at hx1 (by intro q; cases q)) (hk _ _ _ _ h ls H locs hl hP hS)
  | iload k =>
    cases hr
    obtain ⟨x, hx1, h⟩ := isI_inv h
    intro ls H locs hl hP hS
    exact lv_iload hx hb hd (hl.at hx1 (by intro q; cases q)) (hk _ _ _ _ h ls H locs hl hP hS)
  | aload_n k =>
    cases hr
    obtain ⟨x, hx1, h⟩ := isR_inv h
    intro ls H locs hl hP hS
    exact lv_aload_n hx hb hd rfl (hl.at hx1 (by intro q; cases q)) (hk _ _ _ _ h ls H locs hl hP hS)
  | aload k =>
    cases hr
    obtain ⟨x, hx1, h⟩ := isR_inv h
    intro ls H locs hl hP hS
    exact lv_aload hx hb hd (hl.at hx1 (by intro q; cases q)) (hk _ _ _ _ h ls H locs hl hP hS)
  | lload_n k =>
    cases hr
    obtain ⟨x, hx1, h⟩ := isJ_inv h
    intro ls H locs hl hP hS
    exact lv_lload_n hx hb hd rfl (hl.at hx1 (by intro q; cases q)) (hk _ _ _ _ h ls H locs hl hP hS)
  | lload k =>
    cases hr
    obtain ⟨x, hx1, h⟩ := isJ_inv h
    intro ls H locs hl hP hS
    exact lv_lload hx hb hd (hl.at hx1 (by intro q; cases q)) (hk _ _ _ _ h ls H locs hl hP hS)
  | istore_n k =>
    cases hr
    obtain ⟨x, st, rfl, h⟩ := pI_inv h
    obtain ⟨hq, h⟩ := bif_inv h
    intro ls H locs hl hP hS
    exact lv_istore_n hx hb hd rfl hl.has (by rw [← hl.2.1]; exact (lok_spec hq).1) rfl (fun ls' hl' => hk _ _ _ _ h ls' H locs (hl.set1 hq hl') hP hS)
  | istore k =>
    cases hr
    obtain ⟨x, st, rfl, h⟩ := pI_inv h
    obtain ⟨hq, h⟩ := bif_inv h
    intro ls H locs hl hP hS
    exact lv_istore hx hb hd hl.has (by rw [← hl.2.1]; exact (lok_spec hq).1) rfl (fun ls' hl' => hk _ _ _ _ h ls' H locs (hl.set1 hq hl') hP hS)
  | astore_n k =>
    cases hr
    obtain ⟨x, st, rfl, h⟩ := pR_inv h
    obtain ⟨hq, h⟩ := bif_inv h
    intro ls H locs hl hP hS
    exact lv_astore_n hx hb hd rfl hl.has (by rw [← hl.2.1]; exact (lok_spec hq).1) rfl (fun ls' hl' => hk _ _ _ _ h ls' H locs (hl.set1 hq hl') hP hS)
  | astore k =>
    cases hr
    obtain ⟨x, st, rfl, h⟩ := pR_inv h
    obtain ⟨hq, h⟩ := bif_inv h
    intro ls H locs hl hP hS
    exact lv_astore hx hb hd hl.has (by rw [← hl.2.1]; exact (lok_spec hq).1) rfl (fun ls' hl' => hk _ _ _ _ h ls' H locs (hl.set1 hq hl') hP hS)
  | lstore_n k =>
    cases hr
    obtain ⟨x, st, rfl, h⟩ := pJ_inv h
    obtain ⟨hq, h⟩ := bif_inv h
    rw [Bool.and_eq_true] at hq
    intro ls H locs hl hP hS
    exact lv_lstore_n hx hb hd rfl hl.has (by rw [← hl.2.1]; exact llt_spec _ _ hq.2) rfl (fun ls' hl' => hk _ _ _ _ h ls' H locs (hl.set2 hq.1 hq.2 hl') hP hS)
  | lstore k =>
    cases hr
    obtain ⟨x, st, rfl, h⟩ := pJ_inv h
    obtain ⟨hq, h⟩ := bif_inv h
    rw [Bool.and_eq_true] at hq
    intro ls H locs hl hP hS
    exact lv_lstore hx hb hd hl.has (by rw [← hl.2.1]; exact llt_spec _ _ hq.2) rfl (fun ls' hl' => hk _ _ _ _ h ls' H locs (hl.set2 hq.1 hq.2 hl') hP hS)
  | iinc i n =>
    cases hr
    obtain ⟨x, hx1, h⟩ := isI_inv h
    obtain ⟨hq, h⟩ := bif_inv h
    intro ls H locs hl hP hS
    obtain ⟨k, hk1⟩ := List.getElem?_of_mem (aso_in (ad := E.2.2.1) (lget_some _ _ _ hx1 (by intro q; cases q)) (by intro q; cases q))
    exact lv_iinc hx hb hd hl.has hk1 rfl (by rw [← hl.2.1]; exact (lok_spec hq).1) rfl (fun ls' hl' => hk _ _ _ _ h ls' H locs (hl.set1 hq hl') hP hS)
  | iadd =>
    cases hr
    obtain ⟨v1, st, rfl, h⟩ := pI_inv h
    obtain ⟨v2, st, rfl, h⟩ := pI_inv h
    intro ls H locs hl hP hS
    exact lv_iadd hx hb hd (hk _ _ _ _ h ls H locs hl hP hS)
  | isub =>
    cases hr
    obtain ⟨v1, st, rfl, h⟩ := pI_inv h
    obtain ⟨v2, st, rfl, h⟩ := pI_inv h
    intro ls H locs hl hP hS
    exact lv_isub hx hb hd (hk _ _ _ _ h ls H locs hl hP hS)
  | imul =>
    cases hr
    obtain ⟨v1, st, rfl, h⟩ := pI_inv h
    obtain ⟨v2, st, rfl, h⟩ := pI_inv h
    intro ls H locs hl hP hS
    exact lv_imul hx hb hd (hk _ _ _ _ h ls H locs hl hP hS)
  | iand =>
    cases hr
    obtain ⟨v1, st, rfl, h⟩ := pI_inv h
    obtain ⟨v2, st, rfl, h⟩ := pI_inv h
    intro ls H locs hl hP hS
    exact lv_iand hx hb hd (hk _ _ _ _ h ls H locs hl hP hS)
  | ior =>
    cases hr
    obtain ⟨v1, st, rfl, h⟩ := pI_inv h
    obtain ⟨v2, st, rfl, h⟩ := pI_inv h
    intro ls H locs hl hP hS
    exact lv_ior hx hb hd (hk _ _ _ _ h ls H locs hl hP hS)
  | ixor =>
    cases hr
    obtain ⟨v1, st, rfl, h⟩ := pI_inv h
    obtain ⟨v2, st, rfl, h⟩ := pI_inv h
    intro ls H locs hl hP hS
    exact lv_ixor hx hb hd (hk _ _ _ _ h ls H locs hl hP hS)
  | ishl =>
    cases hr
    obtain ⟨v1, st, rfl, h⟩ := pI_inv h
    obtain ⟨v2, st, rfl, h⟩ := pI_inv h
    intro ls H locs hl hP hS
    exact lv_ishl hx hb hd (hk _ _ _ _ h ls H locs hl hP hS)
  | ishr =>
    cases hr
    obtain ⟨v1, st, rfl, h⟩ := pI_inv h
    obtain ⟨v2, st, rfl, h⟩ := pI_inv h
    intro ls H locs hl hP hS
    exact lv_ishr hx hb hd (hk _ _ _ _ h ls H locs hl hP hS)
  | idiv =>
    cases hr
    obtain ⟨v1, st, rfl, h⟩ := pI_inv h
    obtain ⟨v2, st, rfl, h⟩ := pI_inv h
    intro ls H locs hl hP hS
    exact lv_idiv hx hb hd h.1 (hk _ _ _ _ h.2 ls H locs hl hP hS)
  | irem =>
    cases hr
    obtain ⟨v1, st, rfl, h⟩ := pI_inv h
    obtain ⟨v2, st, rfl, h⟩ := pI_inv h
    intro ls H locs hl hP hS
    exact lv_irem hx hb hd h.1 (hk _ _ _ _ h.2 ls H locs hl hP hS)
  | iushr =>
    cases hr
    obtain ⟨v1, st, rfl, h⟩ := pI_inv h
    obtain ⟨v2, st, rfl, h⟩ := pI_inv h
    intro ls H locs hl hP hS
    exact lv_iushr hx hb hd rfl (hk _ _ _ _ h ls H locs hl hP hS)
  | lshl =>
    cases hr
    obtain ⟨v1, st, rfl, h⟩ := pI_inv h
    obtain ⟨v2, st, rfl, h⟩ := pJ_inv h
    intro ls H locs hl hP hS
    exact lv_lshl hx hb hd rfl (hk _ _ _ _ h ls H locs hl hP hS)
  | lor =>
    cases hr
    obtain ⟨v1, st, rfl, h⟩ := pJ_inv h
    obtain ⟨v2, st, rfl, h⟩ := pJ_inv h
    intro ls H locs hl hP hS
    exact lv_lor hx hb hd (hk _ _ _ _ h ls H locs hl hP hS)
  | land =>
    cases hr
    obtain ⟨v1, st, rfl, h⟩ := pJ_inv h
    obtain ⟨v2, st, rfl, h⟩ := pJ_inv h
    intro ls H locs hl hP hS
    exact lv_land hx hb hd (hk _ _ _ _ h ls H locs hl hP hS)
  | lsub =>
    cases hr
    obtain ⟨v1, st, rfl, h⟩ := pJ_inv h
    obtain ⟨v2, st, rfl, h⟩ := pJ_inv h
    intro ls H locs hl hP hS
    exact lv_lsub hx hb hd (hk _ _ _ _ h ls H locs hl hP hS)
  | lcmp =>
    cases hr
    obtain ⟨v1, st, rfl, h⟩ := pJ_inv h
    obtain ⟨v2, st, rfl, h⟩ := pJ_inv h
    intro ls H locs hl hP hS
    exact W.lcmp hx hb hd (hk _ _ _ _ h ls H locs hl hP hS)
  | i2l =>
    cases hr
    obtain ⟨v1, st, rfl, h⟩ := pI_inv h
    intro ls H locs hl hP hS
    exact lv_i2l hx hb hd rfl (hk _ _ _ _ h ls H locs hl hP hS)
  | i2b =>
    cases hr
    obtain ⟨v1, st, rfl, h⟩ := pI_inv h
    intro ls H locs hl hP hS
    exact lv_i2b hx hb hd rfl (hk _ _ _ _ h ls H locs hl hP hS)
  | dup =>
    cases hr
    intro ls H locs hl hP hS
    cases st with
    | nil => exact False.elim h
    | cons v st => cases v <;> first | exact False.elim h | exact lv_dup hx hb hd rfl (hk _ _ _ _ h ls H locs hl hP hS)
  | dup2 =>
    cases hr
    obtain ⟨v1, st, rfl, h⟩ := pI_inv h
    obtain ⟨v2, st, rfl, h⟩ := pR_inv h
    intro ls H locs hl hP hS
    exact lv_dup2_11 hx hb hd rfl rfl (hk _ _ _ _ h ls H locs hl hP hS)
  | pop =>
    cases hr
    obtain ⟨v1, st, rfl, h⟩ := pI_inv h
    intro ls H locs hl hP hS
    exact lv_pop hx hb hd rfl (hk _ _ _ _ h ls H locs hl hP hS)
  | getfield i =>
    obtain ⟨⟨ci, k⟩, hv, he⟩ := Option.map_eq_some_iff.mp hr
    cases he
    obtain ⟨-, -, -, hci, hk64⟩ := am_fl_spec hv
    have e1 : (64 * ci + k) / 64 = ci := by omega
    have e2 : (64 * ci + k) % 64 = k := by omega
    obtain ⟨k1, st, rfl, h⟩ := pR_inv h
    obtain ⟨hq, h⟩ := bif_inv h
    rw [Bool.and_eq_true] at hq
    exact gx_get (n := 64 * ci + k) C hd (by rw [e1, e2]; exact hv) (Nat.eq_of_beq_eq_true hq.1) (Nat.blt_eq.mp hq.2) (hk _ _ _ _ h)
  | putfield i =>
    obtain ⟨⟨ci, k⟩, hv, he⟩ := Option.map_eq_some_iff.mp hr
    cases he
    obtain ⟨-, -, -, hci, hk64⟩ := am_fl_spec hv
    have e1 : (64 * ci + k) / 64 = ci := by omega
    have e2 : (64 * ci + k) % 64 = k := by omega
    obtain ⟨x, st, rfl, h⟩ := pI_inv h
    obtain ⟨k1, st, rfl, h⟩ := pR_inv h
    obtain ⟨hq, h⟩ := bif_inv h
    rw [Bool.and_eq_true, Bool.and_eq_true] at hq
    have hn : lopt (ofs k1) ((64 * ci + k) % 64) = none := by
      cases hz : lopt (ofs k1) ((64 * ci + k) % 64) with
      | none => rfl
      | some t => rw [hz] at hq; cases hq.2
    rcases bif_inv2 h with ⟨h4, h⟩ | ⟨-, h⟩
    · exact gx_put (n := 64 * ci + k) (b := 0) C hd (by rw [e1, e2]; exact hv) (Nat.eq_of_beq_eq_true hq.1.1) (Nat.blt_eq.mp hq.1.2) hn (Nat.eq_of_beq_eq_true h4) (by decide) (fun q => by cases q) (hk _ _ _ _ h)
    · obtain ⟨h4, h⟩ := bif_inv h
      exact gx_put (n := 64 * ci + k) (b := 1) C hd (by rw [e1, e2]; exact hv) (Nat.eq_of_beq_eq_true hq.1.1) (Nat.blt_eq.mp hq.1.2) hn (Nat.eq_of_beq_eq_true h4) (by decide) (fun _ => h.1) (hk _ _ _ _ h.2)
  | iaload =>
    cases hr
    obtain ⟨i, st, rfl, h⟩ := pI_inv h
    obtain ⟨k, st, rfl, h⟩ := pR_inv h
    exact gx_iald C hd h.1 (hk _ _ _ _ h.2)
  | baload =>
    cases hr
    obtain ⟨i, st, rfl, h⟩ := pI_inv h
    obtain ⟨k, st, rfl, h⟩ := pR_inv h
    exact gx_bald C hd h.1 (hk _ _ _ _ h.2)
  | laload =>
    cases hr
    obtain ⟨i, st, rfl, h⟩ := pI_inv h
    obtain ⟨k, st, rfl, h⟩ := pR_inv h
    exact gx_lald C hd h.1 (hk _ _ _ _ h.2)
  | aaload =>
    cases hr
    obtain ⟨i, st, rfl, h⟩ := pI_inv h
    obtain ⟨k, st, rfl, h⟩ := pR_inv h
    exact gx_aald C hd h.1 (hk _ _ _ _ h.2)
  | iastore =>
    cases hr
    obtain ⟨x, st, rfl, h⟩ := pI_inv h
    obtain ⟨i, st, rfl, h⟩ := pI_inv h
    obtain ⟨k, st, rfl, h⟩ := pR_inv h
    exact gx_iast C hd h.1 (hk _ _ _ _ h.2)
  | lastore =>
    cases hr
    obtain ⟨x, st, rfl, h⟩ := pJ_inv h
    obtain ⟨i, st, rfl, h⟩ := pI_inv h
    obtain ⟨k, st, rfl, h⟩ := pR_inv h
    exact gx_last C hd h.1 (hk _ _ _ _ h.2)
  | bastore =>
    cases hr
    obtain ⟨x, st, rfl, h⟩ := pI_inv h
    obtain ⟨i, st, rfl, h⟩ := pI_inv h
    obtain ⟨k, st, rfl, h⟩ := pR_inv h
    rcases h with h | h
    · exact gx_zast C hd h.1 (hk _ _ _ _ h.2)
    · exact gx_bast C hd h.1 (hk _ _ _ _ h.2)
  | arraylength =>
    cases hr
    obtain ⟨k, st, rfl, h⟩ := pR_inv h
    obtain ⟨hq, h⟩ := bif_inv h
    exact gx_alen C hd (Nat.blt_eq.mp hq) (hk _ _ _ _ h)
  | invokestatic i =>
    obtain ⟨w, hv, he⟩ := Option.map_eq_some_iff.mp hr
    cases he
    obtain ⟨hw3, hlink⟩ := am_sp_spec hv
    obtain ⟨d, rfl⟩ : ∃ d, μ = nm d := by
      rcases hm with hm | hm
      · exact hm
      · cases hm
    match w, hw3, h, hv, hlink with
    | 0, _, h, hv, hlink =>
      obtain ⟨v1, st, rfl, h⟩ := pI_inv h
      obtain ⟨v2, st, rfl, h⟩ := pI_inv h
      obtain ⟨hq, h⟩ := bif_inv h
      intro ls H locs hl hP hS
      refine va_mmax hx hb (by rw [hml, hl.1]) hown (hts _ hlink) (hts _ (am_sys _ (by simp))) (hts _ (am_sys _ (by simp))) (hts _ (am_sys _ (by simp))) (show 1 ≤ (am_rm d).frames from Nat.succ_pos _) ?_ (Nat.zero_le _) (Nat.zero_le _) hd (hk _ _ _ _ h ls H locs hl hP hS)
      rw [csum_eq]
      have := Nat.le_of_ble_eq_true hq
      show csum st + 13 ≤ 64 * (d + 1)
      omega
    | 1, _, h, hv, hlink =>
      obtain ⟨v1, st, rfl, h⟩ := pI_inv h
      obtain ⟨v2, st, rfl, h⟩ := pI_inv h
      obtain ⟨hq, h⟩ := bif_inv h
      intro ls H locs hl hP hS
      refine va_mmin hx hb (by rw [hml, hl.1]) hown (hts _ hlink) (hts _ (am_sys _ (by simp))) (hts _ (am_sys _ (by simp))) (hts _ (am_sys _ (by simp))) (show 1 ≤ (am_rm d).frames from Nat.succ_pos _) ?_ (Nat.zero_le _) (Nat.zero_le _) hd (hk _ _ _ _ h ls H locs hl hP hS)
      rw [csum_eq]
      have := Nat.le_of_ble_eq_true hq
      show csum st + 13 ≤ 64 * (d + 1)
      omega
    | 2, _, h, hv, hlink =>
      obtain ⟨n, st, rfl, h⟩ := pI_inv h
      obtain ⟨dp, st, rfl, h⟩ := pI_inv h
      obtain ⟨kd, st, rfl, h⟩ := pR_inv h
      obtain ⟨sp, st, rfl, h⟩ := pI_inv h
      obtain ⟨ks, st, rfl, h⟩ := pR_inv h
      obtain ⟨hq, h⟩ := bif_inv h
      obtain ⟨⟨h1, h2, h3, h4, h5, h6, h7⟩, h⟩ := h
      exact gx_copy C hd hv h1 h2 h3 h4 h5 h6 h7 (Nat.le_of_ble_eq_true hq) (hk _ _ _ _ h)
  | _ => exact absurd hr (by simp [am_res])
theorem seg_sound (C : Ctx E y p s m args meth c) {K : KK} {pc' : Nat} : ∀ (is : List Instr) (pc : Nat) (lo st : List Value) (M : Mem) (L : LMem), ((∃ d, μ = nm d) ∨ is.all nosp = true) → segc (am_B y) (am_O y) is pc = some pc' → exs is lo st M L K →
    (∀ lo st M L, K lo st M L → GG E μ y Q p e s m args below meth c pc' lo st M L) → GG E μ y Q p e s m args below meth c pc lo st M L := by
  intro is
  induction is with
  | nil =>
    intro pc lo st M L _ hs h hk
    cases hs
    exact hk _ _ _ _ h
  | cons i is ih =>
    intro pc lo st M L hm hs h hk
    have hm1 : (∃ d, μ = nm d) ∨ nosp i = true := hm.imp id (fun h => by
      rw [List.all_cons, Bool.and_eq_true] at h
      exact h.1)
    have hm2 : (∃ d, μ = nm d) ∨ is.all nosp = true := hm.imp id (fun h => by
      rw [List.all_cons, Bool.and_eq_true] at h
      exact h.2)
    unfold segc at hs
    split at hs
    · rename_i off hd
      split at hs
      · rename_i hq
        obtain ⟨rfl, hge⟩ := hq
        have hG := ih _ lo st M L hm2 hs (show exs is lo st M L K from h) hk
        intro ls H locs hl hP hS
        exact lv_goto C.1 C.2.1 (off := off) hd (by omega) (hG ls H locs hl hP hS)
      · cases hs
    · rename_i j len hne hd
      split at hs
      · rename_i hq
        exact ex_sound C hd hq (show ex i lo st M L (fun lo st M L => exs is lo st M L K) from h) hm1 (fun lo st M L h1 => ih _ lo st M L hm2 hs h1 hk)
      · cases hs
    · cases hs
theorem wp_seg {d : Nat} (is : List Instr) {pc' : Nat} (hs : segc (am_B y) (am_O y) is pc = some pc') (h : exs is lo st M L (fun lo st M L => Wp E d y pc' lo st M L Q)) : Wp E d y pc lo st M L Q :=
  fun p e s m args below meth c C => seg_sound C is pc lo st M L (Or.inl ⟨d, rfl⟩) hs h (fun lo st M L h1 => h1 p e s m args below meth c C)
theorem wr_seg (is : List Instr) {pc' : Nat} (hs : segc (am_B LAW) (am_O LAW) is pc = some pc') (hn : is.all nosp = true) (h : exs is lo st M L (fun lo st M L => Wr E pc' lo st M L)) : Wr E pc lo st M L :=
  fun p e s m args below meth c C => seg_sound C is pc lo st M L (Or.inr hn) hs h (fun lo st M L h1 => h1 p e s m args below meth c C)
end SEG
