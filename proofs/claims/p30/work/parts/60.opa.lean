/-! ===== the class's answers to the law's calls ===== -/
theorem nI_neg {n : Nat} {x : Int32} (h : n < 2 ^ 31) (hx : x < 0) : ¬ nI n = x := fun e => nI_pos h (by rw [e]; exact hx)
theorem cell_in (sc : SCT) {k n : Nat} (hk : k < 1000) (hn0 : 0 < n) (hn : n < 1000) : ∃ c, c < n ∧ f_L_cell sc (nI k) (nI n) = nI c := by
  unfold f_L_cell
  by_cases c : nI sc.1 = 0
  · rw [if_pos c, show Int32.ofInt 37 = nI 37 from rfl, show Int32.ofInt 5 = nI 5 from rfl, pk_mul, nI_add, pk_rem (by omega) hn0 (by omega)]
    exact ⟨_, Nat.mod_lt _ hn0, rfl⟩
  · rw [if_neg c]
    obtain ⟨j, hj, e⟩ := pk_andE ((sc.2 (nI k - nI k / nI sc.1 * nI sc.1).toNatClampNeg) >>> ((nI k - nI k / Int32.ofInt 7 * Int32.ofInt 7) &&& 31)) (m := Int32.ofInt 4194303) 22 (by decide)
    rw [e, pk_rem (by omega) hn0 (by omega)]
    exact ⟨_, Nat.mod_lt _ hn0, rfl⟩
theorem cell_ok {k n : Nat} (hk : k < 1000) (hn0 : 0 < n) (hn : n < 1000) : CellOK (nI k) (nI n) := ⟨k, n, hk, hn0, hn, rfl, rfl⟩
section OPS
variable {M : Mem} {L : LMem} {s : Stt} {np : Nat} {pd : Nat → Nat} {K : Int32 → Mem → LMem → Prop}
theorem u_wayL (hI : INVs M s np pd) {a b : Nat} (ha : a < 8) (hb : b < 8) (hab : a ≠ b)
    (kk1 : lab (sH s) (Int32.ofInt 0) b a / 16 ≤ sG s 0 → lab (sH s) (Int32.ofInt 0) b a < 1048576 → ∀ M1, Fr cScr M M1 → K (nI (lab (sH s) (Int32.ofInt 0) b a / 16)) M1 L)
    (kk0 : ¬ lab (sH s) (Int32.ofInt 0) b a / 16 ≤ sG s 0 → ∀ M1, Fr cScr M M1 → K (Int32.ofInt (-6)) M1 L) : P_X9_way (nI a) (nI b) (Int32.ofInt (-1)) M L K := by
  unfold P_X9_way
  refine br_1 (tw_1 ha hb hab M) (s_find hI (Int32.ofInt 0) ha hb (fun c cI M1 hF1 hI1 hR => br_1 rfl (br_t rfl ?_)) (fun c M1 hF1 _ => br_0 rfl (kk0 c M1 (cRt_scr hF1))))
  rw [hR.2.1, (s_wl hI.1 ha hb cI).1]
  exact kk1 c cI M1 (cRt_scr hF1)
theorem u_wayN (hI : INVs M s np pd) {a b : Nat} (ha : a < 8) (hb : b < 8) (hab : a ≠ b)
    (kk1 : lab (sH s) (Int32.ofInt 0) b a / 16 ≤ sG s 0 → lab (sH s) (Int32.ofInt 0) b a < 1048576 → ∀ M1, Fr cScr M M1 → K (nI (lab (sH s) (Int32.ofInt 0) b a % 16)) M1 L)
    (kk0 : ¬ lab (sH s) (Int32.ofInt 0) b a / 16 ≤ sG s 0 → ∀ M1, Fr cScr M M1 → K (Int32.ofInt (-6)) M1 L) : P_X9_way (nI a) (nI b) (Int32.ofInt (-2)) M L K := by
  unfold P_X9_way
  refine br_1 (tw_1 ha hb hab M) (s_find hI (Int32.ofInt 0) ha hb (fun c cI M1 hF1 hI1 hR => br_1 rfl (br_f (by decide) (br_t rfl ?_))) (fun c M1 hF1 _ => br_0 rfl (kk0 c M1 (cRt_scr hF1))))
  rw [hR.1]
  exact kk1 c cI M1 (cRt_scr hF1)
theorem u_wayI (hI : INVs M s np pd) {a b i : Nat} (ha : a < 8) (hb : b < 8) (hab : a ≠ b) (hc : lab (sH s) (Int32.ofInt 0) b a / 16 ≤ sG s 0) (hi : i < lab (sH s) (Int32.ofInt 0) b a % 16)
    (kk1 : ∀ M1, Fr cScr M M1 → K (nI (tb (sH s) (Int32.ofInt 0) (lab (sH s) (Int32.ofInt 0) b) a i)) M1 L) : P_X9_way (nI a) (nI b) (nI i) M L K := by
  unfold P_X9_way
  refine br_1 (tw_1 ha hb hab M) (s_find hI (Int32.ofInt 0) ha hb (fun c cI M1 hF1 hI1 hR => ?_) (fun c => absurd hc c))
  have h7 := (s_wok hI.1 ha hb cI).1
  refine br_1 rfl (br_f (nI_neg (by omega) (by decide)) (br_f (nI_neg (by omega) (by decide)) (br_f (nI_pos (by omega)) ?_)))
  rw [hR.1]
  refine br_f (nI_ge hi (by omega)) ⟨pk_in i 8 (by omega), ?_⟩
  rw [nI_clamp (by omega), hR.2.2.2.1 i hi]
  exact kk1 M1 (cRt_scr hF1)
theorem u_far (hI : INVs M s np pd) {a b : Nat} (ha : a < 8) (hb : b < 8) (hab : a ≠ b)
    (kk : ∀ M1, Fr cScr M M1 → K (nI (dc (sH s) (Int32.ofInt 0) (sG s 0) a b)) M1 L) : P_X9_far (nI a) (nI b) M L K := by
  have hc60 := hI.1.2.2.1.2
  unfold P_X9_far
  refine br_1 (tw_1 ha hb hab M) (s_find hI (Int32.ofInt 0) ha hb (fun c cI M1 hF1 hI1 hR => br_1 rfl ?_) (fun c M1 hF1 _ => br_0 rfl ?_))
  · rw [hR.2.1, (s_wl hI.1 ha hb cI).1]
    have h := kk M1 (cRt_scr hF1)
    rw [dc, dv_lo cI, cut, if_pos c] at h
    exact h
  · have h := kk M1 (cRt_scr hF1)
    have e : dc (sH s) (Int32.ofInt 0) (sG s 0) a b = 99 := by
      unfold dc cut
      by_cases cI : lab (sH s) (Int32.ofInt 0) b a < 1048576
      · rw [dv_lo cI, if_neg c]
      · rw [dv_hi cI, if_neg (by omega)]
    rw [e] at h
    exact h
theorem dc_way (hS : SOK s) {a b : Nat} : (lab (sH s) (Int32.ofInt 0) b a / 16 ≤ sG s 0 → dc (sH s) (Int32.ofInt 0) (sG s 0) a b = lab (sH s) (Int32.ofInt 0) b a / 16) ∧ (¬ lab (sH s) (Int32.ofInt 0) b a / 16 ≤ sG s 0 → dc (sH s) (Int32.ofInt 0) (sG s 0) a b = 99) := by
  have hc60 := hS.2.2.1.2
  constructor
  · intro c
    rw [dc, dv_lo (fin_of hS c), cut, if_pos c]
  · intro c
    unfold dc cut
    by_cases cI : lab (sH s) (Int32.ofInt 0) b a < 1048576
    · rw [dv_lo cI, if_neg c]
    · rw [dv_hi cI, if_neg (by omega)]
theorem ldv_at {h : Hse} {bar : Int32} {D : Nat → Nat} {x car m i : Nat} (hi : i ≤ m) (hne : ∀ j, j < i → rm h bar D x j ≠ rm h bar D x i) : ∀ j f, j + f = m + 1 → j ≤ i → ldv h bar D x car (rm h bar D x i) f j = nI (car - wl h bar D x i) := by
  intro j f
  induction f generalizing j with
  | zero => intro h1 h2; omega
  | succ f ih =>
    intro h1 h2
    rw [ldv]
    by_cases e : j = i
    · subst e
      rw [if_pos rfl]
    · rw [if_neg (hne j (by omega))]
      exact ih (j + 1) (by omega) (by omega)
theorem u_loud (hI : INVs M s np pd) {a b i : Nat} (ha : a < 8) (hb : b < 8) (hab : a ≠ b) (hc : lab (sH s) (Int32.ofInt 0) b a / 16 ≤ sG s 0) (hi : i ≤ lab (sH s) (Int32.ofInt 0) b a % 16)
    (kk1 : ∀ M1, Fr cScr M M1 → K (nI (sG s 0 - wl (sH s) (Int32.ofInt 0) (lab (sH s) (Int32.ofInt 0) b) a i)) M1 L) : P_X9_loud (nI a) (nI b) (nI (rm (sH s) (Int32.ofInt 0) (lab (sH s) (Int32.ofInt 0) b) a i)) M L K := by
  have hS := hI.1
  have cI0 := fin_of hS hc
  have hr := (s_wok hS ha hb cI0).2.2 i hi
  unfold P_X9_loud
  refine br_1 (tw_1 ha hb hab M) (br_1 (ro_1 hr M) (s_find hI (Int32.ofInt 0) ha hb (fun c cI M1 hF1 hI1 hR => br_1 rfl ?_) (fun c => absurd hc c)))
  have hW := s_wok hS ha hb cI
  have hwl := s_wl hS ha hb cI
  refine h_loudness hS.1 hS.2.1 hI1.2.1.hc hR hW hr hS.2.2.1.2 hI1.2.1.car (fun i hi => Nat.le_trans (hwl.2 i hi) c) ?_
  rw [ldv_at hi (fun j hj e => ?_) 0 _ (by omega) (by omega)]
  · exact kk1 M1 (cRt_scr hF1)
  · have hD := lab_is hS.1 (Int32.ofInt 0) b
    have r1 := (rm_in hS.1 hD hb ha cI j (by omega)).2.2.1
    have r2 := (rm_in hS.1 hD hb ha cI i hi).2.2.1
    rw [e] at r1
    omega
theorem u_heard (hI : INVs M s np pd) {a b : Nat} (ha : a < 8) (hb : b < 8) (hab : a ≠ b)
    (kk1 : lab (sH s) (Int32.ofInt 0) b a / 16 ≤ sG s 0 → lab (sH s) (Int32.ofInt 0) b a < 1048576 → ∀ M1, Fr cScr M M1 → K (nI (hvn (sH s) (Int32.ofInt 0) (lab (sH s) (Int32.ofInt 0) b) a (lab (sH s) (Int32.ofInt 0) b a % 16) (sG s 1) (lab (sH s) (Int32.ofInt 0) b a % 16))) M1 L)
    (kk0 : ¬ lab (sH s) (Int32.ofInt 0) b a / 16 ≤ sG s 0 → ∀ M1, Fr cScr M M1 → K (Int32.ofInt (-6)) M1 L) : P_X9_heard (nI a) (nI b) M L K := by
  have hS := hI.1
  unfold P_X9_heard
  refine br_1 (tw_1 ha hb hab M) (s_find hI (Int32.ofInt 0) ha hb (fun c cI M1 hF1 hI1 hR => br_1 rfl ?_) (fun c M1 hF1 _ => br_0 rfl (kk0 c M1 (cRt_scr hF1))))
  have hW := s_wok hS ha hb cI
  rw [hI1.2.1.sto]
  refine h_hear hS.1 hS.2.1 hI1.2.1.hc hR hW ?_
  rw [(hvn_eq hS.2.2.2.1 hW.2.2 _ (Nat.le_refl _)).1]
  exact kk1 c cI M1 (cRt_scr hF1)
/-- frame of set, know, clear, call, house -/
def cKp : Nat → Nat → Bool := fun p _ => Nat.ble p 13
theorem cKp_o {p i : Nat} (h : 13 < p) : cKp p i = false := nlf h
theorem u_set1 (hI : INVs M s np pd) {v : Nat} (hv : v < 256) (kk : ∀ M1, Fr cKp M M1 → INVs M1 (sGu s 1 v) np pd → K (nI (sG s 1)) M1 L) : P_X9_set (Int32.ofInt 1) (nI v) M L K := by
  obtain ⟨hS, hC, -, hP, h68, -⟩ := id hI
  unfold P_X9_set
  refine br_f one_ne (br_t rfl (br_1 (wi_1 (k := v) (a := 0) (b := 255) (Nat.zero_le _) (by omega) (by decide) rfl rfl rfl M) ?_))
  rw [hC.sto]
  refine kk _ ((Fr.rf _ _).put rfl) ⟨SOK_set1 hS hv, (KpC_set1 (v := v) hC : KpN _ _), trivial, hP.eq' (mp_p _ (by decide)) (fun i => mp_p _ (by decide)), ?_, trivial⟩
  rw [mp_p _ (by decide)]; exact h68
theorem u_know (hI : INVs M s np pd) {r v : Nat} (hr : r < 8) (hv : v < 256) (kk : ∀ M1, Fr cKp M M1 → INVs M1 (sNu s r v) np pd → K (nI (sN s r)) M1 L) : P_X9_know (nI r) (nI v) M L K := by
  obtain ⟨hS, hC, -, hP, h68, -⟩ := id hI
  unfold P_X9_know
  refine br_1 (ro_1 hr M) (br_1 (wi_1 (k := v) (a := 0) (b := 255) (Nat.zero_le _) (by omega) (by decide) rfl rfl rfl M) ⟨pk_in r 8 hr, ?_⟩)
  have er : (nI r).toNatClampNeg = r := nI_clamp (by omega)
  rw [er, hC.kno r hr]
  refine kk _ ((Fr.rf _ _).put rfl) ⟨?_, (?_ : KpN _ _), trivial, hP.eq' (mp_p _ (by decide)) (fun i => mp_p _ (by decide)), (mp_p _ (by decide)).trans h68, trivial⟩
  · obtain ⟨a1, a2, a3, a4, a5, a6, a7, a8, a9⟩ := hS
    refine ⟨a1, a2, a3, a4, a5, a6, a7, fun q hq => ?_, a9⟩
    show fup s.2.2.1 r v q < 256
    by_cases e : q = r
    · rw [e, fup_s]; omega
    · rw [fup_n e]; exact a8 q hq
  · obtain ⟨h1, h2, h3, h4, h5, h6, h7, h8, h9⟩ := hC
    refine ⟨?_, fun t ht => ?_, ?_, ?_, ?_, ?_, ?_, fun q hq => ?_, fun c hc => ?_⟩
    · simp (discharger := decide) only [mp_p]; exact h1
    · simp (discharger := decide) only [mp_p]; exact h2 t ht
    · simp (discharger := decide) only [mp_p]; exact h3
    · simp (discharger := decide) only [mp_p]; exact h4
    · simp (discharger := decide) only [mp_p]; exact h5
    · simp (discharger := decide) only [mp_p]; exact h6
    · simp (discharger := decide) only [mp_p]; exact h7
    · show mput M 9 r (nI v) 9 q = nI (fup s.2.2.1 r v q)
      by_cases e : q = r
      · rw [e, fup_s, mp_s]
      · rw [fup_n e, mp_i _ e]; exact h8 q hq
    · simp (discharger := decide) only [mp_p]; exact h9 c hc
theorem u_clear (hI : INVs M s np pd) (kk : ∀ M1, Fr cKp M M1 → INVs M1 (sGu s 2 0) np pd → K (nI (sG s 2)) M1 L) : P_X9_clear M L K := by
  obtain ⟨hS, hC, -, hP, h68, -⟩ := id hI
  unfold P_X9_clear
  rw [hC.wai]
  exact kk _ ((Fr.rf _ _).put rfl) ⟨SOK_set2 hS (by omega), (KpC_set2 (v := 0) hC (by omega) : KpN _ _), trivial, hP.eq' (mp_p _ (by decide)) (fun i => mp_p _ (by decide)), (mp_p _ (by decide)).trans h68, trivial⟩
theorem u_told (hI : INVs M s np pd) {r : Nat} (hr : r < 8) (kk : K (nI (sN s r)) M L) : P_X9_told (Int32.ofInt 10 + nI r) M L K := by
  unfold P_X9_told
  rw [o10, nI_add]
  refine br_1 (wi_1 (k := 10 + r) (a := 10) (b := 17) (by omega) (by omega) (by decide) rfl rfl rfl M) ?_
  rw [pk_sub (by omega), hI.2.1.kno _ (by rw [nI_clamp (by omega)]; omega), nI_clamp (by omega), show 10 + r - 10 = r from by omega]
  exact ⟨pk_in r 8 hr, kk⟩
theorem u_wipe (hI : INVs M s np pd) (kk : ∀ M1, Fr (fun p _ => Nat.beq p 1) M M1 → INVs M1 s 0 pd → K (nI np) M1 L) : P_X9_wipe M L K := by
  obtain ⟨hS, hC, -, hP, h68, -⟩ := id hI
  obtain ⟨p1, p2, p3, p4⟩ := id hP
  unfold P_X9_wipe f_X5_empty g_X5_empty
  rw [p1]
  refine kk _ ((Fr.rf _ _).put rfl) ⟨hS, hC.eq (fun p i a b => mp_p _ (by omega)), trivial, ⟨?_, trivial, by omega, fun i hi => by omega⟩, (mp_p _ (by decide)).trans h68, trivial⟩
  rw [mp_s]; rfl
theorem u_say (hI : INVs M s np pd) {k : Nat} (h33 : 33 ≤ k) (h126 : k ≤ 126) (hnp : np < 60) (kk : ∀ M1, Fr (fun p _ => Nat.beq p 1 || Nat.beq p 2) M M1 → INVs M1 s (np + 1) (fup pd np k) → K (nI (np + 1)) M1 L) : P_X9_say (nI k) M L K := by
  obtain ⟨hS, hC, -, hP, h68, -⟩ := id hI
  obtain ⟨p1, p2, p3, p4⟩ := id hP
  unfold P_X9_say
  refine pk_lt k 33 (fun c => by omega) (fun _ => pk_le k 126 (fun _ => ?_) (fun c => by omega))
  have cc : M 1 1 < Int32.ofInt 60 := by rw [p1]; exact nI_lt (b := 60) hnp (by decide)
  refine ⟨fun _ => by rw [p1]; exact pk_in np 60 hnp, ?_⟩
  unfold f_X5_add g_X5_add
  rw [if_pos cc, if_pos cc]
  refine br_f (by decide) ?_
  rw [p1, nI_clamp (by omega), nI_s, mp_s]
  refine kk _ (((Fr.rf _ _).put rfl).put rfl) ⟨hS, hC.eq (fun p i a b => ?_), trivial, ⟨mp_s _ _ _ _, trivial, by omega, fun i hi => ?_⟩, ?_, trivial⟩
  · rw [mp_p _ (by omega), mp_p _ (by omega)]
  · rw [mp_p _ (by decide)]
    by_cases e : i = np
    · subst e
      rw [mp_s, fup_s]
      exact ⟨rfl, trivial, h33, h126⟩
    · rw [mp_i _ e, fup_n e]
      exact p4 i (by omega)
  · rw [mp_p _ (by decide), mp_p _ (by decide)]; exact h68
theorem u_call (hI : INVs M s np pd) {a b m d : Nat} (ha : a < 8) (hb : b < 8) (hab : a ≠ b) (m1 : 1 ≤ m) (m2 : m ≤ 9) (d1 : 1 ≤ d) (d2 : d ≤ 60) (hw : sG s 2 < 5) (kk : ∀ M1, Fr cKp M M1 → INVs M1 (sCu s a b m d) np pd → K (nI (sG s 2)) M1 L) : P_X9_call (nI a) (nI b) (nI m) (nI d) M L K := by
  obtain ⟨hS, hC, -, hP, h68, -⟩ := id hI
  unfold P_X9_call
  refine br_1 (tw_1 ha hb hab M) (br_1 (wi_1 (k := m) (a := 1) (b := 9) m1 m2 (by decide) rfl rfl rfl M) (br_1 (wi_1 (k := d) (a := 1) (b := 60) d1 d2 (by decide) rfl rfl rfl M) ⟨fun c => ?_, ?_⟩))
  · rw [hC.wai]
    exact pk_in (sG s 2) 5 hw
  · have cc : M 3 8 < Int32.ofInt 5 := by rw [hC.wai]; exact nI_lt (b := 5) hw (by decide)
    unfold f_X3_addWaiting g_X3_addWaiting
    rw [if_pos cc, if_pos cc, hC.wai, nI_s, nI_clamp (by omega)]
    refine br_f (by decide) ?_
    rw [mp_s, show nI (sG s 2 + 1) - Int32.ofInt 1 = nI (sG s 2) from nI_pred _]
    refine kk _ ((((((Fr.rf _ _).put rfl).put rfl).put rfl).put rfl).put rfl) ⟨?_, (?_ : KpN _ _), trivial, hP.eq' ?_ (fun i => ?_), ?_, trivial⟩
    · obtain ⟨a1, a2, a3, a4, a5, a6, a7, a8, a9⟩ := hS
      refine ⟨a1, a2, ?_, ?_, ?_, ?_, ?_, a8, fun q hq => ?_⟩
      · rw [sCu_g s a b m d (by decide)]; exact a3
      · rw [sCu_g s a b m d (by decide)]; exact a4
      · rw [sCu_w]; omega
      · rw [sCu_g s a b m d (by decide)]; exact a6
      · rw [sCu_g s a b m d (by decide)]; exact a7
      · rw [sCu_w] at hq
        by_cases e : q = sG s 2
        · rw [e, sCu_n, sCu_n, sCu_n, sCu_n]
          exact ⟨ha, hb, hab, ⟨m1, m2⟩, d1, d2⟩
        · rw [sCu_o s a b m d 0 e, sCu_o s a b m d 1 e, sCu_o s a b m d 2 e, sCu_o s a b m d 3 e]
          exact a9 q (by omega)
    · obtain ⟨h1, h2, h3, h4, h5, h6, h7, h8, h9⟩ := hC
      refine ⟨?_, fun t ht => ?_, ?_, ?_, ?_, ?_, ?_, fun q hq => ?_, fun q hq => ?_⟩
      · simp (discharger := decide) only [mp_p]; exact h1
      · simp (discharger := decide) only [mp_p]; exact h2 t ht
      · simp (discharger := decide) only [mp_p, mp_i]; rw [sCu_g s a b m d (by decide)]; exact h3
      · simp (discharger := decide) only [mp_p, mp_i]; rw [sCu_g s a b m d (by decide)]; exact h4
      · simp (discharger := decide) only [mp_p, mp_s]; rw [sCu_w]
      · simp (discharger := decide) only [mp_p, mp_i]; rw [sCu_g s a b m d (by decide)]; exact h6
      · simp (discharger := decide) only [mp_p, mp_i]; rw [sCu_g s a b m d (by decide)]; exact h7
      · simp (discharger := decide) only [mp_p]; exact h8 q hq
      · rw [sCu_w] at hq
        simp (discharger := decide) only [mp_p]
        by_cases e : q = sG s 2
        · rw [e, sCu_n, sCu_n, sCu_n, sCu_n]
          simp only [mp_s]
          exact ⟨rfl, rfl, rfl, rfl⟩
        · rw [sCu_o s a b m d 0 e, sCu_o s a b m d 1 e, sCu_o s a b m d 2 e, sCu_o s a b m d 3 e]
          rw [mp_i _ e, mp_i _ e, mp_i _ e, mp_i _ e]
          simp (discharger := decide) only [mp_p]
          exact h9 q (by omega)
    · simp (discharger := decide) only [mp_p]
    · simp (discharger := decide) only [mp_p]
    · simp (discharger := decide) only [mp_p]; exact h68
theorem u_tried (hI : INVs M s np pd) {a b : Nat} (ha : a < 8) (hb : b < 8) (hab : a ≠ b) (hc : lab (sH s) (Int32.ofInt 0) b a / 16 ≤ sG s 0) (h99 : sG s 4 < 99) {y : Int32}
    (kk : ∀ M1 c', (c' = sG s 3 &&& wm s a b ∨ c' = sdf (sG s 3) (wm s a b)) → (∀ p i, p ≠ 3 → cScr p i = false → M1 p i = M p i) → INVs M1 (sGu (sGu s 4 (sG s 4 + 1)) 3 c') np pd → K (nI (popN c')) M1 L) : P_X9_tried (nI a) (nI b) y M L K := by
  have hS := hI.1
  have hcn := hS.2.2.2.2.2.1
  unfold P_X9_tried
  refine br_1 (tw_1 ha hb hab M) (s_find hI (Int32.ofInt 0) ha hb (fun c cI M1 hF1 hI1 hR => br_1 rfl ?_) (fun c => absurd hc c))
  obtain ⟨hS1, hC1, -, hP1, h68, -⟩ := id hI1
  rw [hC1.tri, hC1.can, hR.2.2.1, wm_wb hS ha hb c]
  refine pk_lt (sG s 4) 99 (fun _ => ?_) (fun c9 => by omega)
  have fin : ∀ c', (c' = sG s 3 &&& wm s a b ∨ c' = sdf (sG s 3) (wm s a b)) → K (nI (popN c')) (mput (mput M1 3 9 (nI (sG s 4 + 1))) 3 10 (nI c')) L := by
    intro c' h
    have hle : c' ≤ sG s 3 := by
      rcases h with rfl | rfl
      · exact Nat.and_le_left
      · exact sdf_le _ _
    refine kk _ c' h (fun p i hp hq => ?_) ⟨SOK_set3 (SOK_set4 hS (by omega)) (by omega), (KpC_set3 (KpC_set4 hC1) : KpN _ _), trivial, hP1.eq' ?_ (fun i => ?_), ?_, trivial⟩
    · rw [mp_p _ hp, mp_p _ hp]; exact cRt_scr hF1 p i hq
    · simp (discharger := decide) only [mp_p]
    · simp (discharger := decide) only [mp_p]
    · simp (discharger := decide) only [mp_p]; exact h68
  refine br_c (fun _ => ?_) (fun _ => ?_)
  · rw [fa_and, nI_s, bitc (Nat.lt_of_le_of_lt Nat.and_le_left hcn)]
    exact fin _ (Or.inl rfl)
  · rw [sdf_i, nI_s, bitc (Nat.lt_of_le_of_lt (sdf_le _ _) hcn)]
    exact fin _ (Or.inr rfl)
theorem u_stop0 (hI : INVs M s np pd) (kk : K (nI (sG s 3)) M L) : P_X9_stopped (Int32.ofInt 0) M L K := by
  unfold P_X9_stopped
  refine br_1 (wi_1 (k := 0) (a := 0) (b := 2) (by omega) (by omega) (by decide) rfl rfl rfl M) (br_t rfl ?_)
  rw [hI.2.1.can]; exact kk
theorem u_stop1 (hI : INVs M s np pd) (kk : ∀ M1, Fr cScr M M1 → K (ntf s (sG s 3) 80).1 M1 L) : P_X9_stopped (Int32.ofInt 1) M L K := by
  have hS := hI.1
  unfold P_X9_stopped
  refine br_1 (wi_1 (k := 1) (a := 0) (b := 2) (by omega) (by omega) (by decide) rfl rfl rfl M) (br_f one_ne (h_gather hS hI.2.1.hc hI.2.1.car (fun M1 hF1 hm => br_t rfl ?_)))
  rw [(hI.scr (cGa_scr hF1)).2.1.can]
  exact h_nextTry hS hS.2.2.2.2.2.1 hm (kk M1 (cGa_scr hF1))
theorem u_stop2 (hI : INVs M s np pd) (kk0 : (sG s 3 = 0 ∨ 9999 ≤ tS s (sG s 3)) → ∀ M1, Fr cScr M M1 → K (Int32.ofInt (-6)) M1 L) (kk1 : sG s 3 ≠ 0 → tS s (sG s 3) < 9999 → ∀ M1, Fr cScr M M1 → K (nI (tS s (sG s 3))) M1 L) : P_X9_stopped (Int32.ofInt 2) M L K := by
  have hS := hI.1
  unfold P_X9_stopped
  refine br_1 (wi_1 (k := 2) (a := 0) (b := 2) (by omega) (by omega) (by decide) rfl rfl rfl M) (br_f (by decide) (h_gather hS hI.2.1.hc hI.2.1.car (fun M1 hF1 hm => br_f (by decide) ?_)))
  have hI1 := hI.scr (cGa_scr hF1)
  rw [hI1.2.1.can]
  exact h_cfew hS hS.2.2.2.2.2.1 hm hI1.2.2.2.2.1 (fun h M2 hF2 => kk0 h M2 ((cGa_scr hF1).tr hF2)) (fun h1 h2 M2 hF2 => kk1 h1 h2 M2 ((cGa_scr hF1).tr hF2))
end OPS
