/-! ===== stopped ===== -/
theorem cPt_scr {M M1 : Mem} (h : Fr cPt M M1) : Fr cScr M M1 := h.mono (fun p i hq => by
  have : ¬ (p = 65 ∨ p = 67) := fun e => by
    rcases e with rfl | rfl <;> exact nomatch (show true = false from hq)
  unfold cPt
  rw [nbf (by omega : p ≠ 65), nbf (by omega : p ≠ 67)]; rfl)
theorem cBd_scr {M M1 : Mem} (h : Fr cBd M M1) : Fr cScr M M1 := h.mono (fun p i hq => by
  unfold cBd
  by_cases e : p = 68
  · subst e
    by_cases e2 : i = 1
    · subst e2; rfl
    · have hq2 : (true && (true && !(true && Nat.beq i 1)) || _) = false := hq
      rw [nbf e2] at hq2
      exact nomatch (show true = false from hq2)
  · rw [nbf e]; rfl)
theorem cFw_scr {M M1 : Mem} (h : Fr cFw M M1) : Fr cScr M M1 := h.mono (fun p i hq => nbf (fun e => by subst e; exact nomatch (show true = false from hq)))
theorem cFm_scr {M M1 : Mem} (h : Fr cFm M M1) : Fr cScr M M1 := h.mono (fun p i hq => nbf (fun e => by subst e; exact nomatch (show true = false from hq)))
theorem h_cfew {M : Mem} {s : Stt} {L : LMem} {c : Nat} {K : Int32 → Mem → LMem → Prop} (hS : SOK s) (hc : c < 8192) (hm : mtx M 66 (wm s)) (h68 : M 68 1 = nI 0) (kk0 : (c = 0 ∨ 9999 ≤ tS s c) → ∀ M1, Fr cScr M M1 → K (Int32.ofInt (-6)) M1 L) (kk1 : c ≠ 0 → tS s c < 9999 → ∀ M1, Fr cScr M M1 → K (nI (tS s c)) M1 L) : P_X8_fewestTries (nI c) M L K := by
  unfold P_X8_fewestTries
  refine h_gatherParts hS hc hm (fun M1 n P hF1 hM1 hI hC => ?_)
  have hT := PtT_of hS hc hI hC
  have g1 := cPt_scr hF1
  refine pk_eq c 0 (fun c0 => kk0 (Or.inl c0) M1 g1) (fun c0 => ?_)
  have hP : ∀ i, i < n → P i < 8192 := fun i hi => (hT.2.2 i hi).1
  have p1 := pop_pos hc c0
  have p13 := popN_le c
  refine h_acp hM1 hc hP (fun hs => br_1 rfl ?_) (fun hs => br_0 rfl (kk0 (Or.inr ?_) M1 g1))
  · have hfin := tS_fin hT hs (popN c + 1) c (by omega) (sbs_rf hc) p1
    refine h_layBounds hc hM1 hP ((hF1 68 1 rfl).trans h68) (fun M2 best B hF2 hb1 hb2 hB hm2 => ?_)
    have g2 := g1.tr (cBd_scr hF2)
    unfold P_J7_fill_031fb
    refine hl_fill (M0 := M2) (fun M3 hF3 hz => ?_) 100000 0 M2 (by omega) (by omega) (Fr.rf _ _) (fun q hq => by omega)
    have g3 := g2.tr (cFw_scr hF3)
    by_cases c2 : popN c < 2
    · show PB_X8_fewestOf (P_X8_fewestOf 15) (nI c) (Int32.ofInt 0) M3 L _
      unfold PB_X8_fewestOf
      rw [bitc hc]
      refine pk_le (popN c) 1 (fun _ => ?_) (fun e => by omega)
      have e := kk1 c0 (by omega) M3 g3
      rw [tS_1 c2] at e
      exact e
    · obtain ⟨q, d, b1, b2, b3⟩ := two_bits hc (by omega)
      obtain ⟨i, i1, -⟩ := hs q d b1 b2 b3
      obtain ⟨j, j1, j2⟩ := hb2 (by omega)
      have hsj := (spl_iff hc).mp (hT.2.2 j j1).2
      have hM3 : PtM M3 n P := by
        have hx : ∀ p i, p ≠ 68 → p ≠ 69 → M3 p i = M1 p i := fun p i a b => by
          rw [hF3 p i (nbf b), hF2 p i (by unfold cBd; rw [nbf a]; rfl)]
        exact ⟨(hx 65 2 (by decide) (by decide)).trans hM1.1, hM1.2.1, fun i hi => (hx 67 i (by decide) (by decide)).trans (hM1.2.2 i hi)⟩
      refine h_few (M0 := M3) hc hM3 hT hs (by omega) hB hb1 (fun z z1 z2 => by rw [hF3 68 z rfl]; exact hm2 z z1 z2) 16 c 0 M3 _ (by omega) (sbs_rf hc) (by omega) (Fr.rf _ _) (fun S hS => Or.inl (hz S hS)) (fun M4 hF4 _ => kk1 c0 (by omega) M4 (g3.tr (cFw_scr hF4)))
  · refine Classical.byContradiction (fun h9 => hs (fun q d b1 b2 b3 => ?_))
    refine Classical.byContradiction (fun hn => h9 ?_)
    rw [tS_inf hT b3 (fun i hi => Classical.byContradiction (fun e => hn ⟨i, hi, e⟩)) (popN c + 1) c (by omega) (sbs_rf hc) b1 b2]
    exact Nat.le_refl _
theorem op_stopped : Op_stopped INV := by
  intro M L x1 hI
  obtain ⟨s, np, pd, hI⟩ := hI
  have hS := hI.1
  have hc := hS.2.2.2.2.2.1
  have iv : INV M L := ⟨s, np, pd, hI⟩
  show P_X9_stopped x1 M L (fun r M1 L1 => P_X10_stopped x1 M1 L1 (fun r2 M2 L2 => r2 = r ∧ INV M2 L2))
  unfold P_X9_stopped P_X10_stopped
  rcases wi_cases x1 0 2 (Int32.ofInt 0) (Int32.ofInt 2) (Int64.ofNat 0) (Int64.ofNat 2) with ⟨w, w1, w2, rfl, w3, w4⟩ | ⟨w1, w3, w4⟩
  · refine br_1 (w3 M) (br_c (fun c0 => br_1 (w4 _) (br_t c0 ⟨?_, iv⟩)) (fun c0 => ?_))
    · rw [hI.2.1.can, hI.2.2.1.can]
    · refine h_gather hS hI.2.1.hc hI.2.1.car (fun M1 hF1 hm1 => ?_)
      have hI1 := hI.scr (cGa_scr hF1)
      rw [hI1.2.1.can]
      refine br_c (fun c1 => ?_) (fun c1 => ?_)
      · refine h_nextTry hS hc hm1 (br_1 (w4 _) (br_f c0 (h_findTries hI1 (fun M2 hF2 hT => br_t c1 ?_))))
        have hI2 := hI1.scr (cTr_scr hF2)
        exact h_mnext hS hc hT hI2.2.2.1.can ⟨rfl, s, np, pd, hI2⟩
      · have md : ∀ (M2 : Mem) (r : Int32), INVs M2 s np pd → ((sG s 3 = 0 ∨ 9999 ≤ tS s (sG s 3)) → r = Int32.ofInt (-6)) → (sG s 3 ≠ 0 → tS s (sG s 3) < 9999 → r = nI (tS s (sG s 3))) → P_X10_findTries M2 L (fun M_3 L_4 => ((nI w = (Int32.ofInt 1) → P_X10_nextTry M_3 L_4 (fun v_11 M_9 L_10 => v_11 = r ∧ INV M_9 L_10)) ∧ (¬ (nI w = (Int32.ofInt 1)) → P_X10_fewestTries M_3 L_4 (fun v_8 M_6 L_7 => v_8 = r ∧ INV M_6 L_7)))) := by
          intro M2 r hI2 r0 r1
          refine h_findTries hI2 (fun M3 hF3 hT => br_f c1 ?_)
          have hI3 := hI2.scr (cTr_scr hF3)
          exact h_mfew hS hc hI3.2.2.1.can hT (fun e M4 hF4 => ⟨(r0 e).symm, s, np, pd, hI3.scr (cFm_scr hF4)⟩) (fun e e2 M4 hF4 => ⟨(r1 e e2).symm, s, np, pd, hI3.scr (cFm_scr hF4)⟩)
        refine h_cfew hS hc hm1 hI1.2.2.2.2.1.1 (fun e M2 hF2 => br_1 (w4 _) (br_f c0 (md M2 _ (hI1.scr hF2) (fun _ => rfl) (fun e1 e2 => ?_)))) (fun e e2 M2 hF2 => br_1 (w4 _) (br_f c0 (md M2 _ (hI1.scr hF2) (fun e3 => ?_) (fun _ _ => rfl))))
        · rcases e with e | e
          · exact absurd e e1
          · omega
        · rcases e3 with e3 | e3
          · exact absurd e3 e
          · omega
  · exact br_0 (w3 M) (br_0 (w4 M) ⟨rfl, iv⟩)
