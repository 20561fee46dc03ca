/-! ===== the class's run of a day ===== -/
section RUN
variable {s : Stt} {A : DA} {z : Nat} {L : LMem} {np : Nat} {pd : Nat → Nat} {K : Mem → LMem → Prop}
theorem dF_new {x y m f : Nat} : dF (dbeg s A x y m) f (dn A) = dval s A x y m f := if_pos rfl
theorem dF_old {x y m f c : Nat} (h : c ≠ dn A) : dF (dbeg s A x y m) f c = dF A f c := if_neg h
theorem h_begin {i sto : Nat} (hS : SOK s) (hA : DOK s A i) (hi : i ≤ 57) (hz : (z = 3 ∧ sto = sG s 1) ∨ (z = 5 ∧ sto = 0)) {M : Mem} (hD : CD M s A z (tld A (dt A))) {x y m : Nat} (hx : x < 8) (hy : y < 8) (hm1 : 1 ≤ m) (hm : m ≤ 9) (hw : dwhy s A x y = 0) (hR : RT M (sH s) (nI (dfull s A)) (dD s A y) x (dD s A y x % 16)) (kk : ∀ M1, Fr cDy M M1 → M1 41 12 = M 41 12 → CD M1 s (dbeg s A x y m) z (tld (dbeg s A x y m) (dt A)) → K M1 L) : P_X0_beginCall (nI x) (nI y) (nI m) (nI (dhv s A x y sto)) M L K := by
  obtain ⟨d1, d2, d3, d4, d5, d6, d7⟩ := id hD
  obtain ⟨a1, a2, a3, a4⟩ := id hA
  obtain ⟨-, -, -, w4⟩ := why0 hw
  have cI : dD s A y x < 1048576 := fin_of hS w4
  have hW : WOK (sH s) (nI (dfull s A)) (dD s A y) x (dD s A y x % 16) := s_wok hS hx hy cI
  have h12 := hS.2.1
  have hwb : M 37 5 = nI (dtk s A x y) := by
    rw [hR.2.2.1]
    exact wb_n _ (fun i hi => by have := hW.2.1 i hi; omega)
  have hn : dn A < 20 := by omega
  have en : (nI (dn A)).toNatClampNeg = dn A := nI_clamp (by omega)
  have ex : (nI x).toNatClampNeg = x := nI_clamp (by omega)
  have hl600 := lsF_600 hA (dn A) (Nat.le_refl _)
  have hgo : dgo s A x y m ≤ 20 := by
    have := cnt_le (p := fun c => Nat.blt (dt A) (dFb s A x y m 0 c)) (q := fun _ => true) (dn A + 1) (fun _ _ _ => rfl)
    rw [cnt_all] at this
    exact Nat.le_trans this (by omega)
  have hz' : z = 3 ∨ z = 5 := hz.elim (fun h => Or.inl h.1) (fun h => Or.inr h.1)
  have vz : dval s A x y m z = dhv s A x y sto ||| (2 ^ x ||| 2 ^ y) ∧ dval s A x y m (z + 1) = knq s A z (tld A (dt A)) x := by
    rcases hz with ⟨rfl, rfl⟩ | ⟨rfl, rfl⟩
    · exact ⟨rfl, rfl⟩
    · exact ⟨rfl, rfl⟩
  unfold P_X0_beginCall
  rw [d1]
  refine pk_lt (dn A) 20 (fun _ => ⟨pk_in (dn A) 20 hn, pk_in x 8 hx, ?_⟩) (fun e => by omega)
  rw [en, ex, d2, d3, d5, hwb, d7 x hx, nI_add, show Int32.ofInt 1 = nI 1 from rfl, sh1 (by omega), sh1 (by omega), fa_or, fa_or, nI_add, mp_s, mp_s, fa_or, mx_i (by omega) (by omega), nar0b]
  generalize hM1 : mput (mput (mput (mput (mput (mput (mput (mput (mput M 42 (dn A) (nI (2 ^ x ||| 2 ^ y))) 43 (dn A) (nI (dt A + m))) 44 (dn A) (nI (dtk s A x y))) 45 (dn A) (nI (dhv s A x y sto ||| (2 ^ x ||| 2 ^ y)))) 46 (dn A) (nI (knq s A z (tld A (dt A)) x))) 47 (dn A) (bI false)) 41 9 (nI (mx (lsF A (dn A)) (dt A + m)))) 41 11 (nI (uF A (dn A) ||| dtk s A x y))) 41 7 (nI (dn A + 1)) = M1
  have hF1 : Fr cDy M M1 := by
    rw [← hM1]
    exact (((((((((Fr.rf _ _).put rfl).put rfl).put rfl).put rfl).put rfl).put rfl).put rfl).put rfl).put rfl
  have g7 : M1 41 7 = nI (dn A + 1) := by rw [← hM1, mp_s]
  have g8 : M1 41 8 = nI (dt A) := by rw [← hM1]; simp (discharger := decide) only [mp_i, mp_p]; exact d2
  have g9 : M1 41 9 = nI (mx (lsF A (dn A)) (dt A + m)) := by rw [← hM1]; simp (discharger := decide) only [mp_i, mp_p, mp_s]
  have g10 : M1 41 10 = nI (dm A) := by rw [← hM1]; simp (discharger := decide) only [mp_i, mp_p]; exact d4
  have g11 : M1 41 11 = nI (uF A (dn A) ||| dtk s A x y) := by rw [← hM1]; simp (discharger := decide) only [mp_i, mp_p, mp_s]
  have g12 : M1 41 12 = M 41 12 := by rw [← hM1]; simp (discharger := decide) only [mp_i, mp_p]
  have gc : ∀ c, c < dn A + 1 → M1 42 c = nI (dF (dbeg s A x y m) 1 c) ∧ M1 43 c = nI (dF (dbeg s A x y m) 0 c) ∧ M1 44 c = nI (dF (dbeg s A x y m) 2 c) ∧ M1 45 c = nI (dF (dbeg s A x y m) z c) ∧ M1 46 c = nI (dF (dbeg s A x y m) (z + 1) c) ∧ M1 47 c = bI (bdec (dF (dbeg s A x y m) 0 c ≤ dt A)) := by
    intro c hc
    rw [← hM1]
    simp (discharger := decide) only [mp_p]
    by_cases e : c = dn A
    · rw [e, mp_s, mp_s, mp_s, mp_s, mp_s, mp_s, dF_new, dF_new, dF_new, dF_new, dF_new, vz.1, vz.2]
      refine ⟨rfl, rfl, rfl, rfl, rfl, ?_⟩
      have e0 : dval s A x y m 0 = dt A + m := rfl
      rw [e0, bdec_f (by omega)]
    · rw [mp_i _ e, mp_i _ e, mp_i _ e, mp_i _ e, mp_i _ e, mp_i _ e, dF_old e, dF_old e, dF_old e, dF_old e, dF_old e]
      simp (discharger := decide) only [mp_p]
      exact d6 c (by omega)
  have gk : ∀ r, r < 8 → M1 48 r = nI (knq s (dbeg s A x y m) z (tld (dbeg s A x y m) (dt A)) r) := by
    intro r hr
    rw [knq_beg hm1 hz', ← hM1]
    simp (discharger := decide) only [mp_p]
    exact d7 r hr
  unfold P_X0_goingOn
  refine hl_going (t := dt A) (F := fun c => dF (dbeg s A x y m) 0 c) g7 (by omega) (fun c hc => (gc c hc).2.2.2.2.2) ?_ 100000 0 (by omega) (by omega)
  have eg : cnt (fun c => Nat.blt (dt A) (dF (dbeg s A x y m) 0 c)) (dn A + 1) = dgo s A x y m := rfl
  rw [eg, d4, mx_i (by omega) (by omega)]
  refine kk _ (hF1.put rfl) ?_ ⟨?_, ?_, ?_, ?_, ?_, fun c hc => ?_, fun r hr => ?_⟩
  · rw [mp_i _ (by decide)]; exact g12
  · rw [mp_i _ (by decide)]; exact g7
  · rw [mp_i _ (by decide)]; exact g8
  · rw [mp_i _ (by decide), g9]
    have e : lsF (dbeg s A x y m) (dn A + 1) = mx (lsF A (dn A)) (dt A + m) := by
      rw [lsF, (lsF_beg (dn A) (Nat.le_refl _)).1, dF_new]; rfl
    exact congrArg nI e.symm
  · rw [mp_s]; rfl
  · rw [mp_i _ (by decide), g11]
    have e : uF (dbeg s A x y m) (dn A + 1) = uF A (dn A) ||| dtk s A x y := by
      rw [uF, (lsF_beg (dn A) (Nat.le_refl _)).2, dF_new]; rfl
    exact congrArg nI e.symm
  · simp (discharger := decide) only [mp_p]
    exact gc c hc
  · rw [mp_p _ (by decide)]; exact gk r hr
theorem tick_CD {M : Mem} {Q : Nat → Prop} {m : Nat} (hD : CD M s A z Q) : CD (mput M 41 8 (nI (dt A + m))) s (dtick A m) z Q := by
  obtain ⟨d1, d2, d3, d4, d5, d6, d7⟩ := hD
  have el : ∀ j, lsF (dtick A m) j = lsF A j := by
    intro j
    induction j with
    | zero => rfl
    | succ j ih => rw [lsF, lsF, ih]; rfl
  have eu : ∀ j, uF (dtick A m) j = uF A j := by
    intro j
    induction j with
    | zero => rfl
    | succ j ih => rw [uF, uF, ih]; rfl
  refine ⟨(mp_i _ (by decide)).trans d1, mp_s _ _ _ _, ?_, (mp_i _ (by decide)).trans d4, ?_, fun c hc => ?_, fun r hr => (mp_p _ (by decide)).trans (d7 r hr)⟩
  · rw [mp_i _ (by decide), el]; exact d3
  · rw [mp_i _ (by decide), eu]; exact d5
  · simp (discharger := decide) only [mp_p]
    exact d6 c hc
/-- how a day ends: R's calls have begun, and the reason that the next can't -/
def DEnd (M : Mem) (s : Stt) (z : Nat) (R : DA × Nat) : Prop := M 41 12 = nI R.2 ∧ M 41 7 = nI (dn R.1) ∧ M 41 9 = nI (lsF R.1 (dn R.1)) ∧ M 41 10 = nI (dm R.1) ∧ M 41 11 = nI (uF R.1 (dn R.1)) ∧ ∀ r, r < 8 → M 48 r = nI (knq s R.1 z (fun _ => True) r)
theorem h_fin {i w : Nat} (hA : DOK s A i) (hi : i ≤ 60) (hz : z = 3 ∨ z = 5) {M : Mem} (hD : CD M s A z (tld A (dt A))) (h12 : M 41 12 = nI w) (kk : ∀ M1, Fr cDy M M1 → DEnd M1 s z (A, w) → K M1 L) : P_X0_endCalls (mput M 41 8 (if (M 41 8) < (M 41 9) then (M 41 9) else (M 41 8))) L K := by
  obtain ⟨d1, d2, d3, d4, d5, d6, d7⟩ := id hD
  have hl600 := lsF_600 hA (dn A) (Nat.le_refl _)
  have hdt := hA.1
  have h3 := hA.2.1
  rw [d2, d3, mx_i (by omega) (by omega)]
  have hmx := mx_le (dt A) (lsF A (dn A))
  obtain ⟨m, hm⟩ : ∃ m, mx (dt A) (lsF A (dn A)) = dt A + m := ⟨mx (dt A) (lsF A (dn A)) - dt A, by omega⟩
  rw [hm]
  have hD2 := tick_CD (m := m) hD
  have hA2 : DOK s (dtick A m) 200 := ⟨by show dt A + m ≤ _; omega, by show 3 * dn A ≤ _; omega, hA.2.2.1, hA.2.2.2⟩
  refine h_end (A := dtick A m) hA2 (by show dn A ≤ 20; omega) (by show dt A + m ≤ 1000; omega) hz (fun c _ h => by
    have h' : dF A 0 c ≤ dt A := h
    show dF A 0 c ≤ dt A + m
    omega) hD2 (fun M1 hF1 hD1 => kk M1 (((Fr.rf cDy M).put rfl).tr (cEn_Dy hF1)) ?_)
  obtain ⟨e1, e2, e3, e4, e5, e6, e7⟩ := hD1
  have el : ∀ j, lsF (dtick A m) j = lsF A j := by
    intro j
    induction j with
    | zero => rfl
    | succ j ih => rw [lsF, lsF, ih]; rfl
  have eu : ∀ j, uF (dtick A m) j = uF A j := by
    intro j
    induction j with
    | zero => rfl
    | succ j ih => rw [uF, uF, ih]; rfl
  refine ⟨?_, e1, ?_, e4, ?_, fun r hr => ?_⟩
  · rw [hF1 41 12 rfl, mp_i _ (by decide)]; exact h12
  · rw [e3, el]; rfl
  · rw [e5, eu]; rfl
  · rw [e7 r hr]
    refine congrArg nI (knq_ext (s := s) (A := A) (fun c hc => ⟨fun _ => trivial, fun _ => ?_⟩))
    have := lsF_le A (dn A) c hc
    show dF A 0 c ≤ dt A + m
    omega
theorem hl_run {M0 : Mem} {sto : Nat} (hS : SOK s) (hsto : sto < 256) (hz : (z = 3 ∧ sto = sG s 1) ∨ (z = 5 ∧ sto = 0)) (hI : INVs M0 s np pd) (R : DA × Nat) (kk : ∀ M, Fr cDy M0 M → DEnd M s z R → K M L) :
    ∀ (f k i g : Nat) (A : DA) (M : Mem), k ≤ 20 → 40 < f + k → np < g + i → i ≤ np → Fr cDy M0 M → DOK s A i → CD M s A z (tld A (dt A)) → M 41 12 = nI 0 → dfm np pd (np - i) 0 k i = Int32.ofInt (-6) → R = dX s np pd g i A → PL_X0_run_51 K f (nI sto) (nI i) (nI k) M L := by
  intro f
  induction f with
  | zero => intro k i g A M h1 h2; omega
  | succ f ih =>
    intro k i g A M hk hf hg hi hF hA hD h12 hdf hR
    have hIM := hI.scr (cDy_scr hF)
    have hP := hIM.2.2.2.1
    have p60 := hP.2.2.1
    have hz' : z = 3 ∨ z = 5 := hz.elim (fun h => Or.inl h.1) (fun h => Or.inr h.1)
    have done : np ≤ i → P_X0_endCalls (mput M 41 8 (if (M 41 8) < (M 41 9) then (M 41 9) else (M 41 8))) L (fun M_2 L_3 => K M_2 L_3) := fun h => by
      rw [dX_end h] at hR
      exact h_fin hA (by omega) hz' hD h12 (fun M1 hF1 hE => kk M1 (hF.tr hF1) (by rw [hR]; exact hE))
    unfold PL_X0_run_51
    refine pk_le 20 k (fun c1 => ?_) (fun c1 => pk_le np i (fun c2 => done c2) (fun c2 => br_0 h12 ?_) hP.1)
    · rcases Nat.lt_or_ge i np with e | e
      · have := (day_part hdf e p60).1
        omega
      · exact done e
    · obtain ⟨g, rfl⟩ : ∃ g', g = g' + 1 := ⟨g - 1, by omega⟩
      obtain ⟨k20, hpart⟩ := day_part hdf c2 p60
      have e1 : nI i + Int32.ofInt 1 = nI (i + 1) := nI_add i 1
      have e2 : nI i + Int32.ofInt 2 = nI (i + 2) := nI_add i 2
      have e3 : nI i + Int32.ofInt 3 = nI (i + 3) := nI_add i 3
      have e4 : nI k + Int32.ofInt 1 = nI (k + 1) := nI_add k 1
      have b126 := sg_lt hP i
      rw [sign_at hP (by omega), sg_in c2, e1, e2, e3, e4]
      rw [sg_in c2] at b126
      refine pk_eq _ 46 (fun c3 => ?_) (fun c3 => ?_) rfl rfl (by omega)
      · rcases hpart with ⟨-, q1, q2, q3⟩ | ⟨q0, -⟩
        · have hd9 := dgt_in2 q2
          rw [number_of hP q1 q2, hD.2.1, nI_add]
          have hA2 := dtick_ok hA (m := pd (i + 1) - 48) (by omega)
          refine h_end (A := dtick A (pd (i + 1) - 48)) hA2 (by show dn A ≤ 20; have := hA.2.1; omega) (by have := hA2.1; omega) hz' (fun c _ h => by
            have h' : dF A 0 c ≤ dt A := h
            show dF A 0 c ≤ dt A + _
            omega) (tick_CD hD) (fun M1 hF1 hD1 => ?_)
          rw [dX_dot c2 c3] at hR
          exact ih (k + 1) (i + 2) g _ M1 (by omega) (by omega) (by omega) (by omega) (hF.tr (((Fr.rf cDy M).put rfl).tr (cEn_Dy hF1))) hA2 hD1 (by rw [hF1 41 12 rfl, mp_i _ (by decide)]; exact h12) q3 hR
        · exact absurd c3 q0
      · rcases hpart with ⟨q0, -⟩ | ⟨-, q1, q2, q3, q4, q5, q6⟩
        · exact absurd q0 c3
        · have l1 := ltr_in q2
          have l2 := ltr_in q3
          have hd9 := dgt_in2 q5
          rw [room_of hP c2 q2, room_of hP (by omega) q3]
          unfold P_X0_whyNot
          have hn20 : dn A ≤ 20 := by have := hA.2.1; omega
          refine hl_why hS hA hn20 (by have := hA.1; omega) hIM hD (by omega) (by omega) (fun M1 hF1 hRT => ?_) 100000 0 (by omega) (by omega)
          have hw4 := dwhy_le (s := s) (A := A) (pd i - 65) (pd (i + 1) - 65)
          have hFd := cRt_Dy hF1
          refine pk_eq _ 0 (fun cw => ?_) (fun cw => ?_) rfl rfl (by omega)
          · have hD1 := hD.rt hF1
            have hI1 := hIM.scr (cRt_scr hF1)
            rw [cw]
            have hFp : Fr cDy M1 (mput M1 41 12 (nI 0)) := (Fr.rf _ _).put rfl
            have hIp := hI1.scr (cDy_scr hFp)
            have hDp : CD (mput M1 41 12 (nI 0)) s A z (tld A (dt A)) := by
              obtain ⟨d1, d2, d3, d4, d5, d6, d7⟩ := hD1
              refine ⟨(mp_i _ (by decide)).trans d1, (mp_i _ (by decide)).trans d2, (mp_i _ (by decide)).trans d3, (mp_i _ (by decide)).trans d4, (mp_i _ (by decide)).trans d5, fun c hc => ?_, fun r hr => (mp_p _ (by decide)).trans (d7 r hr)⟩
              simp (discharger := decide) only [mp_p]
              exact d6 c hc
            have hRp : RT (mput M1 41 12 (nI 0)) (sH s) (nI (dfull s A)) (dD s A (pd (i + 1) - 65)) (pd i - 65) (dD s A (pd (i + 1) - 65) (pd i - 65) % 16) := by
              obtain ⟨r1, r2, r3, r4, r5⟩ := hRT cw
              exact ⟨(mp_p _ (by decide)).trans r1, (mp_p _ (by decide)).trans r2, (mp_p _ (by decide)).trans r3, fun j hj => (mp_p _ (by decide)).trans (r4 j hj), fun j hj => (mp_p _ (by decide)).trans (r5 j hj)⟩
            obtain ⟨-, -, -, w4⟩ := why0 cw
            have hW : WOK (sH s) (nI (dfull s A)) (dD s A (pd (i + 1) - 65)) (pd i - 65) (dD s A (pd (i + 1) - 65) (pd i - 65) % 16) := s_wok hS (by omega) (by omega) (fin_of hS w4)
            refine h_hear hS.1 hS.2.1 hIp.2.1.hc hRp hW ?_
            rw [(hvn_eq hsto hW.2.2 _ (Nat.le_refl _)).1]
            have hPp := hIp.2.2.2.1
            rw [number_of hPp q1 q5]
            rw [dX_go c2 c3 cw] at hR
            refine h_begin (sto := sto) hS hA (by omega) hz hDp (by omega) (by omega) (by omega) (by omega) cw hRp (fun M2 hF2 h122 hD2 => ?_)
            refine ih (k + 1) (i + 3) g _ M2 (by omega) (by omega) (by omega) (by omega) (hF.tr (hFd.tr (hFp.tr hF2))) (dbeg_ok hS hA (by omega) (by omega) (by omega) (by omega) cw) hD2 ?_ q6 hR
            rw [h122, mp_s]
          · rw [dX_no c2 c3 cw] at hR
            have hFp : Fr cDy M1 (mput M1 41 12 (nI (dwhy s A (pd i - 65) (pd (i + 1) - 65)))) := (Fr.rf _ _).put rfl
            have hDp : CD (mput M1 41 12 (nI (dwhy s A (pd i - 65) (pd (i + 1) - 65)))) s A z (tld A (dt A)) := by
              obtain ⟨d1, d2, d3, d4, d5, d6, d7⟩ := hD.rt hF1
              refine ⟨(mp_i _ (by decide)).trans d1, (mp_i _ (by decide)).trans d2, (mp_i _ (by decide)).trans d3, (mp_i _ (by decide)).trans d4, (mp_i _ (by decide)).trans d5, fun c hc => ?_, fun r hr => (mp_p _ (by decide)).trans (d7 r hr)⟩
              simp (discharger := decide) only [mp_p]
              exact d6 c hc
            have hIp := (hIM.scr (cRt_scr hF1)).scr (cDy_scr hFp)
            have last : P_X0_endCalls (mput (mput M1 41 12 (nI (dwhy s A (pd i - 65) (pd (i + 1) - 65)))) 41 8 (if ((mput M1 41 12 (nI (dwhy s A (pd i - 65) (pd (i + 1) - 65)))) 41 8) < ((mput M1 41 12 (nI (dwhy s A (pd i - 65) (pd (i + 1) - 65)))) 41 9) then ((mput M1 41 12 (nI (dwhy s A (pd i - 65) (pd (i + 1) - 65)))) 41 9) else ((mput M1 41 12 (nI (dwhy s A (pd i - 65) (pd (i + 1) - 65)))) 41 8))) L (fun M_2 L_3 => K M_2 L_3) := h_fin hA (by omega) hz' hDp (mp_s _ _ _ _) (fun M2 hF2 hE => kk M2 (hF.tr (hFd.tr (hFp.tr hF2))) (by rw [hR]; exact hE))
            obtain ⟨f, rfl⟩ : ∃ f', f = f' + 1 := ⟨f - 1, by omega⟩
            unfold PL_X0_run_51
            refine br_c (fun _ => last) (fun _ => br_c (fun _ => last) (fun _ => ?_))
            rw [mp_s]
            refine pk_eq _ 0 (fun e => absurd e cw) (fun _ => ?_) rfl rfl (by omega)
            have l2 := last
            rw [mp_i _ (by decide), mp_i _ (by decide)] at l2 ⊢
            exact l2
end RUN

