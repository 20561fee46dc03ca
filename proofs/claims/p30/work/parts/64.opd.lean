/-! ===== the law's day: one call behind another ===== -/
section LDAY
variable {M : Mem} {L : LMem} {s : Stt} {np : Nat} {pd : Nat → Nat} {K : Int32 → Mem → LMem → Prop}
/-- the text of the day: each waiting call, and its minutes going by -/
def DTX (s : Stt) (pd : Nat → Nat) : Prop := ∀ c, c < sG s 2 → pd (5 * c) = 65 + sC s 0 c ∧ pd (5 * c + 1) = 65 + sC s 1 c ∧ pd (5 * c + 2) = 48 + sC s 2 c ∧ pd (5 * c + 3) = 46 ∧ pd (5 * c + 4) = 48 + sC s 2 c
theorem dfm_law (hS : SOK s) (hx : DTX s pd) : ∀ d j, j + d = sG s 2 → dfm (5 * sG s 2) pd (5 * sG s 2 - 5 * j) 0 (2 * j) (5 * j) = Int32.ofInt (-6) := by
  intro d
  have h5 := hS.2.2.2.2.1
  induction d with
  | zero =>
    intro j hj
    have e : j = sG s 2 := by omega
    subst e
    exact dfm_end rfl
  | succ d ih =>
    intro j hj
    obtain ⟨c1, c2, c3, c4, c5⟩ := hS.2.2.2.2.2.2.2.2 j (by omega)
    obtain ⟨p0, p1, p2, p3, p4⟩ := hx j (by omega)
    have ld : ∀ v, v < 8 → ltr (65 + v) = true := by decide
    have dg : ∀ v, 1 ≤ v → v ≤ 9 → dgt (48 + v) = true := fun v h1 h2 => by
      unfold dgt
      rw [Bool.and_eq_true]
      exact ⟨Nat.ble_eq.mpr (by omega), Nat.ble_eq.mpr (by omega)⟩
    rw [dfm_ltr (by omega) (by omega) (by rw [p0]; exact ld _ c1), dfm_oth (by omega) (by
      rw [show 5 * j + 1 - 1 = 5 * j by omega, p1, p0, ld _ c2, nbf (by omega)]; rfl), dfm_dgt (by omega) (by rw [show 5 * j + 1 + 1 = 5 * j + 2 by omega, p2]; exact dg _ c4.1 c4.2), dfm_dot (by omega) (by omega) (by rw [show 5 * j + 1 + 1 + 1 = 5 * j + 3 by omega]; exact p3), dfm_dgt (by omega) (by rw [show 5 * j + 1 + 1 + 1 + 1 = 5 * j + 4 by omega, p4]; exact dg _ c4.1 c4.2)]
    rw [show 5 * j + 1 + 1 + 1 + 1 + 1 = 5 * (j + 1) by omega, show 2 * j + 1 + 1 = 2 * (j + 1) by omega]
    exact ih (j + 1) (by omega)
theorem hvn_mono {h : Hse} {bar : Int32} {D : Nat → Nat} {x m sto sto' : Nat} (hs : ∀ r, sto'.testBit r = true → sto.testBit r = true) : ∀ i b, (hvn h bar D x m sto i).testBit b = true → (hvn h bar D x m sto' i).testBit b = true := by
  intro i
  induction i with
  | zero => intro b hb; exact hb
  | succ i ih =>
    intro b hb
    rw [hvn] at hb ⊢
    rw [Nat.testBit_or, Bool.or_eq_true] at hb ⊢
    rcases hb with hb | hb
    · refine Or.inl ?_
      by_cases ca : 0 < i ∧ sto.testBit (rm h bar D x i) = false
      · have ca2 : 0 < i ∧ sto'.testBit (rm h bar D x i) = false := ⟨ca.1, by
          cases e : sto'.testBit (rm h bar D x i) with
          | false => rfl
          | true => rw [hs _ e] at ca; exact absurd ca.2 (by decide)⟩
        rw [if_pos ca, Nat.testBit_or, Bool.or_eq_true] at hb
        rw [if_pos ca2, Nat.testBit_or, Bool.or_eq_true]
        exact hb.imp (ih b) id
      · rw [if_neg ca] at hb
        have h1 := ih b hb
        split
        · rw [Nat.testBit_or, h1]; rfl
        · exact h1
    · exact Or.inr hb
theorem cnt_0 {p : Nat → Bool} : ∀ n : Nat, (∀ i, i < n → p i = false) → cnt p n = 0 := by
  intro n
  induction n with
  | zero => intro _; rfl
  | succ n ih =>
    intro h
    rw [cnt, ih (fun i hi => h i (by omega)), h n (by omega)]
    rfl
theorem dbz_0 {A : DA} : ∀ j, (∀ c, c < j → dF A 0 c ≤ dt A) → dbz A j = 0 ∧ don A j = 0 ∧ dtw A j = 0 := by
  intro j
  induction j with
  | zero => intro _; exact ⟨rfl, rfl, rfl⟩
  | succ j ih =>
    intro h
    obtain ⟨h1, h2, h3⟩ := ih (fun c hc => h c (by omega))
    have h4 := h j (by omega)
    rw [dbz, don, dtw, if_neg (by omega), if_neg (by omega), if_neg (by omega)]
    exact ⟨h1, h2, h3⟩
/-- the day as far as j calls, all over -/
def DI (s : Stt) (A : DA) (j : Nat) : Prop := dn A = j ∧ dt A = sm (fun c => sC s 2 c) j ∧ dm A = (if j = 0 then 0 else 1) ∧ lsF A j = dt A ∧ ∀ c, c < j → dF A 0 c ≤ dt A ∧ (∀ r, (dF A 3 c).testBit r = true → (dF A 5 c).testBit r = true) ∧ (∀ b, (dF A 4 c).testBit b = true → (dF A 6 c).testBit b = true) ∧ ∀ b, (dF A 4 c).testBit b = true → b < 2
theorem knq_35 {A : DA} {Q : Nat → Prop} {r b : Nat} (hd : ∀ c, c < dn A → (∀ r, (dF A 3 c).testBit r = true → (dF A 5 c).testBit r = true) ∧ (∀ b, (dF A 4 c).testBit b = true → (dF A 6 c).testBit b = true)) (h : (knq s A 3 Q r).testBit b = true) : (knq s A 5 Q r).testBit b = true := by
  unfold knq at h ⊢
  rw [mk_bit, Bool.and_eq_true] at h ⊢
  refine ⟨h.1, ?_⟩
  rw [bdec_iff] at h ⊢
  rcases h.2 with h2 | ⟨c, c1, c2, c3, c4⟩
  · exact Or.inl h2
  · exact Or.inr ⟨c, c1, c2, (hd c c1).1 _ c3, (hd c c1).2 _ c4⟩
theorem knq_2 {A : DA} {Q : Nat → Prop} {r b : Nat} (hr : r < 8) (hN : ∀ r b, r < 8 → (sN s r).testBit b = true → b < 2) (hd : ∀ c, c < dn A → ∀ b, (dF A 4 c).testBit b = true → b < 2) (h : (knq s A 3 Q r).testBit b = true) : b < 2 := by
  unfold knq at h
  rw [mk_bit, Bool.and_eq_true] at h
  rw [bdec_iff] at h
  rcases h.2 with h2 | ⟨c, c1, c2, c3, c4⟩
  · exact hN r b hr h2
  · exact hd c c1 b c4
theorem knq_s {A : DA} {Q : Nat → Prop} {z r b : Nat} (hb : b < 8) (h : (sN s r).testBit b = true) : (knq s A z Q r).testBit b = true := by
  unfold knq
  rw [mk_bit, Bool.and_eq_true]
  exact ⟨decide_eq_true hb, by rw [bdec_iff]; exact Or.inl h⟩
theorem lsF_tick (A : DA) (m : Nat) : ∀ j, lsF (dtick A m) j = lsF A j := by
  intro j
  induction j with
  | zero => rfl
  | succ j ih => rw [lsF, lsF, ih]; rfl
theorem DI_step {A : DA} {j : Nat} (hS : SOK s) (hN : ∀ r b, r < 8 → (sN s r).testBit b = true → b < 2) (hj : j < sG s 2) (hh : hw s j) (hA : DI s A j) : dwhy s A (sC s 0 j) (sC s 1 j) = 0 ∧ DI s (dtick (dbeg s A (sC s 0 j) (sC s 1 j) (sC s 2 j)) (sC s 2 j)) (j + 1) := by
  obtain ⟨a1, a2, a3, a4, a5⟩ := hA
  obtain ⟨c1, c2, c3, c4, c5⟩ := hS.2.2.2.2.2.2.2.2 j hj
  obtain ⟨z1, z2, z3⟩ := dbz_0 (A := A) j (fun c hc => (a5 c hc).1)
  have zf : dfull s A = 0 := by
    unfold dfull
    rw [a1, z2, z3]
    show 0 &&& _ ||| 0 = 0
    rw [Nat.zero_and]; rfl
  constructor
  · unfold dwhy
    rw [a1, z1, zf]
    have hh : lab (sH s) (Int32.ofInt 0) (sC s 1 j) (sC s 0 j) / 16 ≤ sG s 0 := hh
    rw [if_pos hh, Nat.zero_testBit, Nat.zero_testBit, if_neg (by decide), if_neg (by decide)]
    exact if_pos hh
  · have old : ∀ f c, c < j → dF (dtick (dbeg s A (sC s 0 j) (sC s 1 j) (sC s 2 j)) (sC s 2 j)) f c = dF A f c := fun f c hc => dF_old (s := s) (A := A) (by omega)
    have new : ∀ f, dF (dtick (dbeg s A (sC s 0 j) (sC s 1 j) (sC s 2 j)) (sC s 2 j)) f j = dval s A (sC s 0 j) (sC s 1 j) (sC s 2 j) f := fun f => by
      have h := dF_new (s := s) (A := A) (x := sC s 0 j) (y := sC s 1 j) (m := sC s 2 j) (f := f)
      rw [a1] at h
      exact h
    have hdt : dt (dtick (dbeg s A (sC s 0 j) (sC s 1 j) (sC s 2 j)) (sC s 2 j)) = dt A + sC s 2 j := rfl
    have v0 : dval s A (sC s 0 j) (sC s 1 j) (sC s 2 j) 0 = dt A + sC s 2 j := rfl
    have hgo : dgo s A (sC s 0 j) (sC s 1 j) (sC s 2 j) = 1 := by
      unfold dgo
      rw [a1, cnt, cnt_0 j (fun c hc => ?_)]
      · unfold dFb
        rw [a1, if_pos rfl, v0, show Nat.blt (dt A) (dt A + sC s 2 j) = true from Nat.blt_eq.mpr (by omega)]
        rfl
      · unfold dFb
        rw [a1, if_neg (by omega)]
        have := (a5 c hc).1
        cases e : Nat.blt (dt A) (dF A 0 c) with
        | false => rfl
        | true => exact absurd (Nat.blt_eq.mp e) (by omega)
    refine ⟨?_, ?_, ?_, ?_, fun c hc => ?_⟩
    · show dn A + 1 = j + 1
      rw [a1]
    · rw [hdt, a2, sm_s]
    · show mx (dm A) (dgo s A (sC s 0 j) (sC s 1 j) (sC s 2 j)) = _
      rw [hgo, a3]
      by_cases e : j = 0
      · rw [if_pos e, if_neg (by omega)]; rfl
      · rw [if_neg e, if_neg (by omega)]; rfl
    · rw [lsF_tick, lsF]
      have h1 := (lsF_beg (s := s) (A := A) (x := sC s 0 j) (y := sC s 1 j) (m := sC s 2 j) j (by omega)).1
      have h2 : dF (dbeg s A (sC s 0 j) (sC s 1 j) (sC s 2 j)) 0 j = dt A + sC s 2 j := new 0
      rw [h1, h2, a4, hdt]
      unfold mx
      rw [if_pos (by omega)]
    · by_cases e : c = j
      · subst e
        rw [new, new, new, new, new, hdt, v0]
        refine ⟨Nat.le_refl _, fun r hr => ?_, fun b hb => ?_, fun b hb => ?_⟩
        · have hr : (dhv s A (sC s 0 c) (sC s 1 c) (sG s 1) ||| (2 ^ sC s 0 c ||| 2 ^ sC s 1 c)).testBit r = true := hr
          show (dhv s A (sC s 0 c) (sC s 1 c) 0 ||| (2 ^ sC s 0 c ||| 2 ^ sC s 1 c)).testBit r = true
          rw [Nat.testBit_or, Bool.or_eq_true] at hr ⊢
          exact hr.imp (hvn_mono (fun r h => by rw [Nat.zero_testBit] at h; exact absurd h (by decide)) _ r) id
        · exact knq_35 (fun c hc => ⟨(a5 c (by omega)).2.1, (a5 c (by omega)).2.2.1⟩) (show (knq s A 3 (tld A (dt A)) (sC s 0 c)).testBit b = true from hb)
        · exact knq_2 c1 hN (fun c hc => (a5 c (by omega)).2.2.2) (show (knq s A 3 (tld A (dt A)) (sC s 0 c)).testBit b = true from hb)
      · have hc : c < j := by omega
        rw [old _ c hc, old _ c hc, old _ c hc, old _ c hc, old _ c hc, hdt]
        have h := a5 c hc
        exact ⟨by omega, h.2⟩
theorem dX_law (hS : SOK s) (hN : ∀ r b, r < 8 → (sN s r).testBit b = true → b < 2) (hx : DTX s pd) (hh : ∀ c, c < sG s 2 → hw s c) : ∀ d j f A, j + d = sG s 2 → 2 * d ≤ f → DI s A j → ∃ A', DI s A' (sG s 2) ∧ dX s (5 * sG s 2) pd f (5 * j) A = (A', 0) := by
  intro d
  induction d with
  | zero =>
    intro j f A hj hf hA
    have e : j = sG s 2 := by omega
    subst e
    exact ⟨A, hA, dX_end (Nat.le_refl _)⟩
  | succ d ih =>
    intro j f A hj hf hA
    obtain ⟨f, rfl⟩ : ∃ f', f = f' + 1 + 1 := ⟨f - 2, by omega⟩
    obtain ⟨p0, p1, p2, p3, p4⟩ := hx j (by omega)
    obtain ⟨s1, s2⟩ := DI_step hS hN (show j < sG s 2 by omega) (hh j (by omega)) hA
    have e0 : pd (5 * j) - 65 = sC s 0 j := by omega
    have e1 : pd (5 * j + 1) - 65 = sC s 1 j := by omega
    have e2 : pd (5 * j + 2) - 48 = sC s 2 j := by omega
    have c1 := (hS.2.2.2.2.2.2.2.2 j (by omega)).1
    rw [dX_go (by omega) (by omega) (by rw [e0, e1]; exact s1), e0, e1, e2, dX_dot (by omega) (by exact p3), show 5 * j + 3 + 1 = 5 * j + 4 by omega, show pd (5 * j + 4) - 48 = sC s 2 j by omega, show 5 * j + 3 + 2 = 5 * (j + 1) by omega]
    exact ih (j + 1) f _ (by omega) (by omega) s2
theorem DI_0 : DI s dA0 0 := ⟨rfl, rfl, rfl, rfl, fun c hc => absurd hc (Nat.not_lt_zero c)⟩
theorem day_law (hS : SOK s) (hN : ∀ r b, r < 8 → (sN s r).testBit b = true → b < 2) (hx : DTX s pd) (hh : ∀ c, c < sG s 2 → hw s c) : ∃ A', DI s A' (sG s 2) ∧ dX s (5 * sG s 2) pd 100 0 dA0 = (A', 0) := dX_law hS hN hx hh (sG s 2) 0 100 dA0 (by omega) (by have := hS.2.2.2.2.1; omega) DI_0
theorem u_judge (hI : INVs M s (5 * sG s 2) pd) (hx : DTX s pd) {A : DA} (hR : dX s (5 * sG s 2) pd 100 0 dA0 = (A, 0)) (kk : ∀ M1, Fr cScr M M1 → K (Int32.ofInt (-6)) M1 L) : P_X9_judge (Int32.ofInt 0) M L K := by
  have hS := hI.1
  unfold P_X9_judge
  have hdf := dfm_law hS hx (sG s 2) 0 (by omega)
  refine br_1 (wi_1 (k := 0) (a := 0) (b := 1) (by omega) (by omega) (by decide) rfl rfl rfl M) (h_dayFault hI.2.2.2.1 (br_t hdf ?_))
  rw [hI.2.1.sto]
  refine h_run (z := 3) hS hS.2.2.2.1 (Or.inl ⟨rfl, rfl⟩) hI hdf (A, 0) hR.symm (fun M1 hF1 hE => br_0 hE.1 (kk M1 (cDy_scr hF1)))
theorem u_day0 (hI : INVs M s (5 * sG s 2) pd) (hx : DTX s pd) {A : DA} (hR : dX s (5 * sG s 2) pd 100 0 dA0 = (A, 0)) (kk : ∀ M1, Fr cScr M M1 → K (nI (lsF A (dn A))) M1 L) : P_X9_day (Int32.ofInt 0) M L K := by
  have hS := hI.1
  unfold P_X9_day
  have hdf := dfm_law hS hx (sG s 2) 0 (by omega)
  refine br_1 (wi_1 (k := 0) (a := 0) (b := 2) (by omega) (by omega) (by decide) rfl rfl rfl M) (h_dayFault hI.2.2.2.1 (br_t hdf ?_))
  rw [hI.2.1.sto]
  refine h_run (z := 3) hS hS.2.2.2.1 (Or.inl ⟨rfl, rfl⟩) hI hdf (A, 0) hR.symm (fun M1 hF1 hE => br_0 hE.1 (br_t rfl ?_))
  rw [hE.2.2.1]
  exact kk M1 (cDy_scr hF1)
theorem u_day1 (hI : INVs M s (5 * sG s 2) pd) (hx : DTX s pd) {A : DA} (hR : dX s (5 * sG s 2) pd 100 0 dA0 = (A, 0)) (kk : ∀ M1, Fr cScr M M1 → K (nI (dm A)) M1 L) : P_X9_day (Int32.ofInt 1) M L K := by
  have hS := hI.1
  unfold P_X9_day
  have hdf := dfm_law hS hx (sG s 2) 0 (by omega)
  refine br_1 (wi_1 (k := 1) (a := 0) (b := 2) (by omega) (by omega) (by decide) rfl rfl rfl M) (h_dayFault hI.2.2.2.1 (br_t hdf ?_))
  rw [hI.2.1.sto]
  refine h_run (z := 3) hS hS.2.2.2.1 (Or.inl ⟨rfl, rfl⟩) hI hdf (A, 0) hR.symm (fun M1 hF1 hE => br_0 hE.1 (br_f one_ne (br_t rfl ?_)))
  rw [hE.2.2.2.1]
  exact kk M1 (cDy_scr hF1)
theorem u_know0 (hI : INVs M s (5 * sG s 2) pd) (hx : DTX s pd) {A : DA} (hR : dX s (5 * sG s 2) pd 100 0 dA0 = (A, 0)) {r : Nat} (hr : r < 8) (kk : ∀ M1, Fr cScr M M1 → K (nI (knq s A 3 (fun _ => True) r)) M1 L) : P_X9_knows (nI r) (Int32.ofInt 0) M L K := by
  have hS := hI.1
  unfold P_X9_knows
  have hdf := dfm_law hS hx (sG s 2) 0 (by omega)
  refine br_1 (ro_1 hr M) (br_1 (wi_1 (k := 0) (a := 0) (b := 1) (by omega) (by omega) (by decide) rfl rfl rfl M) (h_dayFault hI.2.2.2.1 (br_t hdf (br_f (by decide) ?_))))
  rw [hI.2.1.sto]
  refine h_run (z := 3) hS hS.2.2.2.1 (Or.inl ⟨rfl, rfl⟩) hI hdf (A, 0) hR.symm (fun M1 hF1 hE => br_0 hE.1 ⟨pk_in r 8 hr, ?_⟩)
  rw [nI_clamp (by omega), hE.2.2.2.2.2 r hr]
  exact kk M1 (cDy_scr hF1)
theorem u_know1 (hI : INVs M s (5 * sG s 2) pd) (hx : DTX s pd) {A : DA} (hR : dX s (5 * sG s 2) pd 100 0 dA0 = (A, 0)) {r : Nat} (hr : r < 8) (kk : ∀ M1, Fr cScr M M1 → K (nI (knq s A 5 (fun _ => True) r)) M1 L) : P_X9_knows (nI r) (Int32.ofInt 1) M L K := by
  have hS := hI.1
  unfold P_X9_knows
  have hdf := dfm_law hS hx (sG s 2) 0 (by omega)
  refine br_1 (ro_1 hr M) (br_1 (wi_1 (k := 1) (a := 0) (b := 1) (by omega) (by omega) (by decide) rfl rfl rfl M) (h_dayFault hI.2.2.2.1 (br_t hdf (br_t rfl ?_))))
  refine h_run (z := 5) (sto := 0) hS (by decide) (Or.inr ⟨rfl, rfl⟩) hI hdf (A, 0) hR.symm (fun M1 hF1 hE => br_0 hE.1 ⟨pk_in r 8 hr, ?_⟩)
  rw [nI_clamp (by omega), hE.2.2.2.2.2 r hr]
  exact kk M1 (cDy_scr hF1)
end LDAY
