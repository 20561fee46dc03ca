/-! ===== stopped ===== -/
theorem cPt_scr {M M1 : Mem} (h : Fr cPt M M1) : Fr cScr M M1 := h.mono (fun p i hq => by
  have : ¬ (p = 65 ∨ p = 67) := fun e => by
    rcases e with rfl | rfl <;> exact nomatch (show true = false from hq)
  unfold cPt
  rw [nbf (by omega : p ≠ 65), nbf (by omega : p ≠ 67)]; rfl)
theorem cBd_scr {M M1 : Mem} (h : Fr cBd M M1) : Fr cScr M M1 := h.mono (fun p i hq => by
  unfold cBd
  by_cases e : p = 68
  · subst e
    by_cases e2 : i = 1
    · subst e2; rfl
    · have hq2 : (true && (true && !(true && Nat.beq i 1))) = false := hq
      rw [nbf e2] at hq2
      exact nomatch (show true = false from hq2)
  · rw [nbf e]; rfl)
theorem cFw_scr {M M1 : Mem} (h : Fr cFw M M1) : Fr cScr M M1 := h.mono (fun p i hq => nbf (fun e => by subst e; exact nomatch (show true = false from hq)))
theorem h_cfew {M : Mem} {s : Stt} {L : LMem} {c : Nat} {K : Int32 → Mem → LMem → Prop} (hS : SOK s) (hc : c < 8192) (hm : mtx M 66 (wm s)) (h68 : M 68 1 = nI 0) (kk0 : (c = 0 ∨ 9999 ≤ tS s c) → ∀ M1, Fr cScr M M1 → K (Int32.ofInt (-6)) M1 L) (kk1 : c ≠ 0 → tS s c < 9999 → ∀ M1, Fr cScr M M1 → K (nI (tS s c)) M1 L) : P_X8_fewestTries (nI c) M L K := by
  unfold P_X8_fewestTries
  refine h_gatherParts hS hc hm (fun M1 n P hF1 hM1 hI hC => ?_)
  have hT := PtT_of hS hc hI hC
  have g1 := cPt_scr hF1
  refine pk_eq c 0 (fun c0 => kk0 (Or.inl c0) M1 g1) (fun c0 => ?_)
  have hP : ∀ i, i < n → P i < 8192 := fun i hi => (hT.2.2 i hi).1
  have p1 := pop_pos hc c0
  have p13 := popN_le c
  refine h_acp hM1 hc hP (fun hs => br_1 rfl ?_) (fun hs => br_0 rfl (kk0 (Or.inr ?_) M1 g1))
  · have hfin := tS_fin hT hs (popN c + 1) c (by omega) (sbs_rf hc) p1
    refine h_layBounds hc hM1 hP ((hF1 68 1 rfl).trans h68) (fun M2 best B hF2 hb1 hb2 hB hm2 => ?_)
    have g2 := g1.tr (cBd_scr hF2)
    unfold P_J7_fill_031fb
    refine hl_fill (M0 := M2) (fun M3 hF3 hz => ?_) 100000 0 M2 (by omega) (by omega) (Fr.rf _ _) (fun q hq => by omega)
    have g3 := g2.tr (cFw_scr hF3)
    by_cases c2 : popN c < 2
    · show PB_X8_fewestOf (P_X8_fewestOf 15) (nI c) (Int32.ofInt 0) M3 L _
      unfold PB_X8_fewestOf
      rw [bitc hc]
      refine pk_le (popN c) 1 (fun _ => ?_) (fun e => by omega)
      have e := kk1 c0 (by omega) M3 g3
      rw [tS_1 c2] at e
      exact e
    · obtain ⟨q, d, b1, b2, b3⟩ := two_bits hc (by omega)
      obtain ⟨i, i1, -⟩ := hs q d b1 b2 b3
      obtain ⟨j, j1, j2⟩ := hb2 (by omega)
      have hsj := (spl_iff hc).mp (hT.2.2 j j1).2
      have hM3 : PtM M3 n P := by
        have hx : ∀ p i, p ≠ 68 → p ≠ 69 → M3 p i = M1 p i := fun p i a b => by
          rw [hF3 p i (nbf b), hF2 p i (by unfold cBd; rw [nbf a]; rfl)]
        exact ⟨(hx 65 2 (by decide) (by decide)).trans hM1.1, hM1.2.1, fun i hi => (hx 67 i (by decide) (by decide)).trans (hM1.2.2 i hi)⟩
      refine h_few (M0 := M3) hc hM3 hT hs (by omega) hB hb1 (fun z z1 z2 => by rw [hF3 68 z rfl]; exact hm2 z z1 z2) 16 c 0 M3 _ (by omega) (sbs_rf hc) (by omega) (Fr.rf _ _) (fun S hS => Or.inl (hz S hS)) (fun M4 hF4 _ => kk1 c0 (by omega) M4 (g3.tr (cFw_scr hF4)))
  · refine Classical.byContradiction (fun h9 => hs (fun q d b1 b2 b3 => ?_))
    refine Classical.byContradiction (fun hn => h9 ?_)
    rw [tS_inf hT b3 (fun i hi => Classical.byContradiction (fun e => hn ⟨i, hi, e⟩)) (popN c + 1) c (by omega) (sbs_rf hc) b1 b2]
    exact Nat.le_refl _
