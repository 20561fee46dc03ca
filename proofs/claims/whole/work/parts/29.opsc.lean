/-! ===== know, call, told, tried, forget ===== -/
def sCu (s : Stt) (a b m d : Nat) : Stt := (s.1, fup s.2.1 2 (sG s 2 + 1), s.2.2.1, fun f c => if c = sG s 2 then (if f = 0 then a else if f = 1 then b else if f = 2 then m else d) else s.2.2.2 f c)
theorem sCu_w (s : Stt) (a b m d : Nat) : sG (sCu s a b m d) 2 = sG s 2 + 1 := fup_s s.2.1 2 _
theorem sCu_g (s : Stt) (a b m d : Nat) {i : Nat} (h : i ≠ 2) : sG (sCu s a b m d) i = sG s i := fup_n h
theorem sCu_o (s : Stt) (a b m d f : Nat) {c : Nat} (h : c ≠ sG s 2) : sC (sCu s a b m d) f c = sC s f c := if_neg h
theorem sCu_n (s : Stt) (a b m d f : Nat) : sC (sCu s a b m d) f (sG s 2) = (if f = 0 then a else if f = 1 then b else if f = 2 then m else d) := if_pos rfl
theorem op_know : Op_know INV := by
  intro M L x1 x2 hI
  obtain ⟨s, np, pd, hI⟩ := hI
  obtain ⟨hS, hC, hM, hP, hI0, hI1⟩ := id hI
  have iv : INV M L := ⟨s, np, pd, hI⟩
  show P_X9_know x1 x2 M L (fun r M1 L1 => P_X10_know x1 x2 M1 L1 (fun r2 M2 L2 => r2 = r ∧ INV M2 L2))
  unfold P_X9_know P_X10_know
  rcases ro_cases x1 with ⟨r, hr, rfl, h3, h4⟩ | ⟨h3, h4⟩
  · rcases wi_cases x2 0 255 (Int32.ofInt 0) (Int32.ofInt 255) (Int64.ofNat 0) (Int64.ofNat 255) with ⟨v, v1, v2, rfl, v3, v4⟩ | ⟨v1, v3, v4⟩
    · have hin : vp_in (nI r) 8 := pk_in r 8 hr
      refine br_1 (h3 M) (br_1 (v3 M) ⟨hin, br_1 (h4 _) (br_1 (v4 _) ⟨hin, ?_⟩)⟩)
      have er : (nI r).toNatClampNeg = r := nI_clamp (by omega)
      rw [er, mp_p _ (by decide), hC.kno r hr, hM.kno r hr]
      refine ⟨rfl, sNu s r v, np, pd, hI.now (((Fr.rf _ _).put rfl).put rfl) ?_ (?_ : KpN _ _) ?_ (hP.eq ?_ ?_ (fun i => ?_) (fun i => ?_))⟩
      · obtain ⟨a1, a2, a3, a4, a5, a6, a7, a8, a9⟩ := hS
        refine ⟨a1, a2, a3, a4, a5, a6, a7, fun q hq => ?_, a9⟩
        show fup s.2.2.1 r v q < 256
        by_cases e : q = r
        · rw [e, fup_s]; omega
        · rw [fup_n e]; exact a8 q hq
      · obtain ⟨h1, h2, h3, h4, h5, h6, h7, h8, h9⟩ := hC
        refine ⟨?_, fun t ht => ?_, ?_, ?_, ?_, ?_, ?_, fun q hq => ?_, fun c hc => ?_⟩
        · simp (discharger := decide) only [mp_p]; exact h1
        · simp (discharger := decide) only [mp_p]; exact h2 t ht
        · simp (discharger := decide) only [mp_p]; exact h3
        · simp (discharger := decide) only [mp_p]; exact h4
        · simp (discharger := decide) only [mp_p]; exact h5
        · simp (discharger := decide) only [mp_p]; exact h6
        · simp (discharger := decide) only [mp_p]; exact h7
        · simp (discharger := decide) only [mp_p]
          show mput M 9 r (nI v) 9 q = nI (fup s.2.2.1 r v q)
          by_cases e : q = r
          · rw [e, fup_s, mp_s]
          · rw [fup_n e, mp_i _ e]; exact h8 q hq
        · simp (discharger := decide) only [mp_p]; exact h9 c hc
      · obtain ⟨h1, h2, h3, h4, h5, h6, h7, h8, h9⟩ := hM
        refine ⟨?_, fun t ht => ?_, ?_, ?_, ?_, ?_, ?_, fun q hq => ?_, fun c hc => ?_⟩
        · simp (discharger := decide) only [mp_p]; exact h1
        · simp (discharger := decide) only [mp_p]; exact h2 t ht
        · simp (discharger := decide) only [mp_p]; exact h3
        · simp (discharger := decide) only [mp_p]; exact h4
        · simp (discharger := decide) only [mp_p]; exact h5
        · simp (discharger := decide) only [mp_p]; exact h6
        · simp (discharger := decide) only [mp_p]; exact h7
        · show mput (mput M 9 r (nI v)) 79 r (nI v) 79 q = nI (fup s.2.2.1 r v q)
          by_cases e : q = r
          · rw [e, fup_s, mp_s]
          · rw [fup_n e, mp_i _ e, mp_p _ (by decide)]; exact h8 q hq
        · simp (discharger := decide) only [mp_p]; exact h9 c hc
      · simp (discharger := decide) only [mp_p]
      · simp (discharger := decide) only [mp_p]
      · simp (discharger := decide) only [mp_p]
      · simp (discharger := decide) only [mp_p]
    · exact br_1 (h3 M) (br_0 (v3 M) (br_1 (h4 _) (br_0 (v4 _) ⟨rfl, iv⟩)))
  · exact br_0 (h3 M) (br_0 (h4 _) ⟨rfl, iv⟩)
theorem op_call : Op_call INV := by
  intro M L x1 x2 x3 x4 hI
  obtain ⟨s, np, pd, hI⟩ := hI
  obtain ⟨hS, hC, hM, hP, hI0, hI1⟩ := id hI
  have iv : INV M L := ⟨s, np, pd, hI⟩
  show P_X9_call x1 x2 x3 x4 M L (fun r M1 L1 => P_X10_call x1 x2 x3 x4 M1 L1 (fun r2 M2 L2 => r2 = r ∧ INV M2 L2))
  unfold P_X9_call P_X10_call
  rcases tw_cases x1 x2 with ⟨a, b, ha, hb, hab, rfl, rfl, h1, h2⟩ | ⟨h1, h2⟩
  · rcases wi_cases x3 1 9 (Int32.ofInt 1) (Int32.ofInt 9) (Int64.ofNat 1) (Int64.ofNat 9) with ⟨m, m1, m2, rfl, m3, m4⟩ | ⟨m1, m3, m4⟩
    · rcases wi_cases x4 1 60 (Int32.ofInt 1) (Int32.ofInt 60) (Int64.ofNat 1) (Int64.ofNat 60) with ⟨d, d1, d2, rfl, d3, d4⟩ | ⟨d1, d3, d4⟩
      · have hw5 := hS.2.2.2.2.1
        refine br_1 (h1 M) (br_1 (m3 M) (br_1 (d3 M) ⟨fun c => ?_, ?_⟩))
        · rw [hC.wai] at c ⊢
          exact pk_in (sG s 2) 5 ((nI_ltI (a := sG s 2) (b := 5) (by omega) (by omega)).mp c)
        · by_cases c : sG s 2 < 5
          · have cc : M 3 8 < Int32.ofInt 5 := by rw [hC.wai]; exact nI_lt (b := 5) c (by decide)
            unfold f_X3_addWaiting g_X3_addWaiting
            rw [if_pos cc, if_pos cc, hC.wai, nI_s, nI_clamp (by omega)]
            refine br_f (by decide) ?_
            refine br_1 (h2 _) (br_1 (m4 _) (br_1 (d4 _) ?_))
            simp (discharger := decide) only [mp_p, mp_s]
            rw [hM.wai, nI_clamp (by omega), nI_s]
            refine pk_eq (sG s 2) 5 (fun e => by omega) (fun _ => ⟨pk_in (sG s 2) 5 c, rfl, sCu s a b m d, np, pd, ?_⟩)
            refine hI.now (((((((((((Fr.rf _ _).put rfl).put rfl).put rfl).put rfl).put rfl).put rfl).put rfl).put rfl).put rfl).put rfl) ?_ (?_ : KpN _ _) ?_ (hP.eq ?_ ?_ (fun i => ?_) (fun i => ?_))
            · obtain ⟨a1, a2, a3, a4, a5, a6, a7, a8, a9⟩ := hS
              refine ⟨a1, a2, ?_, ?_, ?_, ?_, ?_, a8, fun q hq => ?_⟩
              · rw [sCu_g s a b m d (by decide)]; exact a3
              · rw [sCu_g s a b m d (by decide)]; exact a4
              · rw [sCu_w]; omega
              · rw [sCu_g s a b m d (by decide)]; exact a6
              · rw [sCu_g s a b m d (by decide)]; exact a7
              · rw [sCu_w] at hq
                by_cases e : q = sG s 2
                · rw [e, sCu_n, sCu_n, sCu_n, sCu_n]
                  exact ⟨ha, hb, hab, ⟨m1, m2⟩, d1, d2⟩
                · rw [sCu_o s a b m d 0 e, sCu_o s a b m d 1 e, sCu_o s a b m d 2 e, sCu_o s a b m d 3 e]
                  exact a9 q (by omega)
            · obtain ⟨h1, h2, h3, h4, h5, h6, h7, h8, h9⟩ := hC
              refine ⟨?_, fun t ht => ?_, ?_, ?_, ?_, ?_, ?_, fun q hq => ?_, fun q hq => ?_⟩
              · simp (discharger := decide) only [mp_p]; exact h1
              · simp (discharger := decide) only [mp_p]; exact h2 t ht
              · simp (discharger := decide) only [mp_p, mp_i]; rw [sCu_g s a b m d (by decide)]; exact h3
              · simp (discharger := decide) only [mp_p, mp_i]; rw [sCu_g s a b m d (by decide)]; exact h4
              · simp (discharger := decide) only [mp_p, mp_s]; rw [sCu_w]
              · simp (discharger := decide) only [mp_p, mp_i]; rw [sCu_g s a b m d (by decide)]; exact h6
              · simp (discharger := decide) only [mp_p, mp_i]; rw [sCu_g s a b m d (by decide)]; exact h7
              · simp (discharger := decide) only [mp_p]; exact h8 q hq
              · rw [sCu_w] at hq
                simp (discharger := decide) only [mp_p]
                by_cases e : q = sG s 2
                · rw [e, sCu_n, sCu_n, sCu_n, sCu_n]
                  simp only [mp_s]
                  exact ⟨rfl, rfl, rfl, rfl⟩
                · rw [sCu_o s a b m d 0 e, sCu_o s a b m d 1 e, sCu_o s a b m d 2 e, sCu_o s a b m d 3 e]
                  rw [mp_i _ e, mp_i _ e, mp_i _ e, mp_i _ e]
                  simp (discharger := decide) only [mp_p]
                  exact h9 q (by omega)
            · obtain ⟨h1, h2, h3, h4, h5, h6, h7, h8, h9⟩ := hM
              refine ⟨?_, fun t ht => ?_, ?_, ?_, ?_, ?_, ?_, fun q hq => ?_, fun q hq => ?_⟩
              · simp (discharger := decide) only [mp_p, mp_i]; exact h1
              · simp (discharger := decide) only [mp_p]; exact h2 t ht
              · simp (discharger := decide) only [mp_p, mp_i]; rw [sCu_g s a b m d (by decide)]; exact h3
              · simp (discharger := decide) only [mp_p, mp_i]; rw [sCu_g s a b m d (by decide)]; exact h4
              · simp (discharger := decide) only [mp_p, mp_s]; rw [sCu_w]
              · simp (discharger := decide) only [mp_p, mp_i]; rw [sCu_g s a b m d (by decide)]; exact h6
              · simp (discharger := decide) only [mp_p, mp_i]; rw [sCu_g s a b m d (by decide)]; exact h7
              · simp (discharger := decide) only [mp_p]; exact h8 q hq
              · rw [sCu_w] at hq
                simp (discharger := decide) only [mp_p]
                by_cases e : q = sG s 2
                · rw [e, sCu_n, sCu_n, sCu_n, sCu_n]
                  simp only [mp_s]
                  exact ⟨rfl, rfl, rfl, rfl⟩
                · rw [sCu_o s a b m d 0 e, sCu_o s a b m d 1 e, sCu_o s a b m d 2 e, sCu_o s a b m d 3 e]
                  rw [mp_i _ e, mp_i _ e, mp_i _ e, mp_i _ e]
                  simp (discharger := decide) only [mp_p]
                  exact h9 q (by omega)
            · simp (discharger := decide) only [mp_p]
            · simp (discharger := decide) only [mp_p, mp_i]
            · simp (discharger := decide) only [mp_p]
            · simp (discharger := decide) only [mp_p]
          · have cc : ¬ M 3 8 < Int32.ofInt 5 := by rw [hC.wai]; exact nI_nlt (b := 5) (by omega) (by omega)
            unfold f_X3_addWaiting g_X3_addWaiting
            rw [if_neg cc, if_neg cc]
            refine br_t rfl (br_1 (h2 _) (br_1 (m4 _) (br_1 (d4 _) ?_)))
            dsimp only
            rw [hM.wai]
            exact pk_eq (sG s 2) 5 (fun _ => ⟨rfl, iv⟩) (fun e => absurd (by omega) e)
      · exact br_1 (h1 M) (br_1 (m3 M) (br_0 (d3 M) (br_1 (h2 _) (br_1 (m4 _) (br_0 (d4 _) ⟨rfl, iv⟩)))))
    · exact br_1 (h1 M) (br_0 (m3 M) (br_1 (h2 _) (br_0 (m4 _) ⟨rfl, iv⟩)))
  · exact br_0 (h1 M) (br_0 (h2 _) ⟨rfl, iv⟩)
theorem op_told : Op_told INV := by
  intro M L x1 hI
  obtain ⟨s, np, pd, hI⟩ := hI
  obtain ⟨hS, hC, hM, hP, hI0, hI1⟩ := id hI
  have iv : INV M L := ⟨s, np, pd, hI⟩
  show P_X9_told x1 M L (fun r M1 L1 => P_X10_told x1 M1 L1 (fun r2 M2 L2 => r2 = r ∧ INV M2 L2))
  unfold P_X9_told P_X10_told
  rcases wi_cases x1 10 17 (Int32.ofInt 10) (Int32.ofInt 17) (Int64.ofNat 10) (Int64.ofNat 17) with ⟨k, k1, k2, rfl, k3, k4⟩ | ⟨k1, k3, k4⟩
  · have hin : vp_in (nI k - Int32.ofInt 10) 8 := by rw [o10, pk_sub (by omega)]; exact pk_in (k - 10) 8 (by omega)
    refine br_1 (k3 M) ⟨hin, br_1 (k4 _) ⟨hin, ?_, iv⟩⟩
    rw [o10, pk_sub (by omega), nI_clamp (by omega), hC.kno _ (by omega), hM.kno _ (by omega)]
  · refine br_0 (k3 M) ?_
    refine br_c (fun c0 => br_0 (k4 _) (br_t c0 ⟨?_, iv⟩)) (fun c0 => br_c (fun c1 => br_0 (k4 _) (br_f c0 (br_t c1 ⟨?_, iv⟩))) (fun c1 => br_c (fun c2 => br_0 (k4 _) (br_f c0 (br_f c1 (br_t c2 ⟨?_, iv⟩)))) (fun c2 => br_c (fun c3 => br_0 (k4 _) (br_f c0 (br_f c1 (br_f c2 (br_t c3 ⟨?_, iv⟩))))) (fun c3 => br_c (fun c4 => br_0 (k4 _) (br_f c0 (br_f c1 (br_f c2 (br_f c3 (br_t c4 ⟨?_, iv⟩)))))) (fun c4 => br_c (fun c5 => br_0 (k4 _) (br_f c0 (br_f c1 (br_f c2 (br_f c3 (br_f c4 (br_t c5 ⟨?_, iv⟩))))))) (fun c5 => br_0 (k4 _) (br_f c0 (br_f c1 (br_f c2 (br_f c3 (br_f c4 (br_f c5 ⟨rfl, iv⟩))))))))))))
    · rw [hP.1, hP.2.1]
    · exact hM.1.trans hC.hc.1.symm
    · rw [hC.car, hM.car]
    · rw [hC.sto, hM.sto]
    · rw [hC.wai, hM.wai]
    · rw [hC.tri, hM.tri]
theorem op_tried : Op_tried INV := by
  intro M L x1 x2 x3 hI h01
  obtain ⟨s, np, pd, hI⟩ := hI
  have hS := hI.1
  show P_X9_tried x1 x2 x3 M L (fun r M1 L1 => P_X10_tried x1 x2 x3 M1 L1 (fun r2 M2 L2 => r2 = r ∧ INV M2 L2))
  unfold P_X9_tried P_X10_tried
  rcases tw_cases x1 x2 with ⟨a, b, ha, hb, hab, rfl, rfl, h1, h2⟩ | ⟨h1, h2⟩
  · have h99 := hS.2.2.2.2.2.2.1
    have hcn := hS.2.2.2.2.2.1
    refine br_1 (h1 M) (s_find hI (Int32.ofInt 0) ha hb (fun c cI M1 hF1 hI1 hR => br_1 rfl ?_) (fun c M1 hF1 hI1 => br_0 rfl (br_1 (h2 _) (s_lay hI1 (Int32.ofInt 0) ha hb (fun c' => absurd c' c) (fun _ M2 hF2 hI2 h0 => br_0 rfl ⟨rfl, s, np, pd, hI2⟩)))))
    obtain ⟨hS1, hC1, hM1, hP1, hI01, hI11⟩ := id hI1
    rw [hC1.tri, hC1.can, hR.2.2.1]
    have hm7 := (s_wok hS ha hb cI).1
    refine pk_lt (sG s 4) 99 (fun c9 => ?_) (fun c9 => ?_)
    · have fin : ∀ (c' : Nat), c' ≤ sG s 3 → ∀ M2 : Mem, Fr cMw (mput (mput M1 3 9 (nI (sG s 4 + 1))) 3 10 (nI c')) M2 → INV (mput (mput M2 74 13 (nI c')) 74 14 (nI (sG s 4 + 1))) L := by
        intro c' hc' M2 hF2
        have hFn : Fr cNow M1 (mput (mput M2 74 13 (nI c')) 74 14 (nI (sG s 4 + 1))) := ((((((Fr.rf cNow M1).put rfl).put rfl).tr (cScr_now (cMw_scr hF2))).put rfl).put rfl)
        have hC2 : KpN (mput (mput M1 3 9 (nI (sG s 4 + 1))) 3 10 (nI c')) (sGu (sGu s 4 (sG s 4 + 1)) 3 c') := KpC_set3 (KpC_set4 hC1)
        have hM2 : KpM (mput (mput M2 74 13 (nI c')) 74 14 (nI (sG s 4 + 1))) (sGu (sGu s 4 (sG s 4 + 1)) 3 c') := by
          have e1 : KpM (mput (mput M1 74 14 (nI (sG s 4 + 1))) 74 13 (nI c')) (sGu (sGu s 4 (sG s 4 + 1)) 3 c') := KpM_set3 (KpM_set4 hM1)
          refine e1.eq (fun i hi => ?_) (fun p i q1 q2 => ?_)
          · rcases hi with rfl | rfl | rfl | rfl | rfl | rfl <;> simp (discharger := decide) only [mp_s, mp_i] <;> (rw [hF2 _ _ rfl]; simp (discharger := decide) only [mp_p])
          · rw [mp_p _ (by omega), mp_p _ (by omega), mp_p _ (by omega), mp_p _ (by omega)]
            rw [hF2 p i (by unfold cMw; rw [nbf (by omega : p ≠ 85), nbf (by omega : p ≠ 86), nbf (by omega : p ≠ 87), nbf (by omega : p ≠ 74)]; rfl), mp_p _ (by omega), mp_p _ (by omega)]
        refine ⟨sGu (sGu s 4 (sG s 4 + 1)) 3 c', np, pd, hI1.now hFn (SOK_set3 (SOK_set4 hS (by omega)) (by omega)) ?_ hM2 (hP1.eq ?_ ?_ (fun i => ?_) (fun i => ?_))⟩
        · refine KpC.eq (b := 3) (s := sGu (sGu s 4 (sG s 4 + 1)) 3 c') hC2 (fun p i q1 q2 => ?_)
          rw [mp_p _ (by omega), mp_p _ (by omega)]
          exact hF2 p i (by unfold cMw; rw [nbf (by omega : p ≠ 85), nbf (by omega : p ≠ 86), nbf (by omega : p ≠ 87), nbf (by omega : p ≠ 74)]; rfl)
        · rw [mp_p _ (by decide), mp_p _ (by decide), hF2 _ _ rfl, mp_p _ (by decide), mp_p _ (by decide)]
        · rw [mp_i _ (by decide), mp_i _ (by decide), hF2 _ _ rfl, mp_p _ (by decide), mp_p _ (by decide)]
        · rw [mp_p _ (by decide), mp_p _ (by decide), hF2 _ _ rfl, mp_p _ (by decide), mp_p _ (by decide)]
        · rw [mp_p _ (by decide), mp_p _ (by decide), hF2 _ _ rfl, mp_p _ (by decide), mp_p _ (by decide)]
      have hI3 : ∀ c' : Nat, c' ≤ sG s 3 → HM4 (mput (mput M1 3 9 (nI (sG s 4 + 1))) 3 10 (nI c')) (sH s) ∧ (mput (mput M1 3 9 (nI (sG s 4 + 1))) 3 10 (nI c')) 74 5 = nI (sG s 0) := by
        intro c' _
        refine ⟨⟨?_, fun t ht => ?_⟩, ?_⟩
        · rw [mp_p _ (by decide), mp_p _ (by decide)]; exact hM1.hm.1
        · simp (discharger := decide) only [mp_p]; exact hM1.hm.2 t ht
        · rw [mp_p _ (by decide), mp_p _ (by decide)]; exact hM1.car
      have md : ∀ (w : Int32) (c' : Nat), c' ≤ sG s 3 → nI (sG s 3) &&& w = nI c' → ∀ K2 : Int32 → Mem → LMem → Prop, (∀ M2, Fr cMw (mput (mput M1 3 9 (nI (sG s 4 + 1))) 3 10 (nI c')) M2 → MT M2 (sH s) (Int32.ofInt 0) (lab (sH s) (Int32.ofInt 0) b) a (lab (sH s) (Int32.ofInt 0) b a % 16) → K2 (nI 1) M2 L) → P_X10_layWay (nI a) (nI b) (Int32.ofInt 0) (mput (mput M1 3 9 (nI (sG s 4 + 1))) 3 10 (nI c')) L K2 := by
        intro w c' hc' hw K2 h
        obtain ⟨q1, q2⟩ := hI3 c' hc'
        exact h_layWay hS.1 q1 hb (lab_is hS.1 (Int32.ofInt 0) b) ha q2 hS.2.2.1.2 (fun _ M2 hF2 _ hT => h M2 hF2 hT) (fun c' => absurd c (by omega))
      have c99 : ∀ {A B : Prop}, B → (nI (sG s 4) = Int32.ofInt 99 → A) ∧ (¬ nI (sG s 4) = Int32.ofInt 99 → B) := fun h => pk_eq (sG s 4) 99 (fun e => by omega) (fun _ => h)
      have rd : ∀ (c' : Nat) (M2 : Mem), c' ≤ sG s 3 → Fr cMw (mput (mput M1 3 9 (nI (sG s 4 + 1))) 3 10 (nI c')) M2 → M2 74 14 = nI (sG s 4) ∧ M2 74 13 = nI (sG s 3) := by
        intro c' M2 _ hF2
        constructor
        · rw [hF2 74 14 rfl, mp_p _ (by decide), mp_p _ (by decide)]; exact hM1.tri
        · rw [hF2 74 13 rfl, mp_p _ (by decide), mp_p _ (by decide)]; exact hM1.can
      refine br_c (fun c3 => ?_) (fun c3 => ?_)
      · obtain ⟨c', hc', hw⟩ := and_lo (sG s 3) (wb (sH s) (Int32.ofInt 0) (lab (sH s) (Int32.ofInt 0) b) a (lab (sH s) (Int32.ofInt 0) b a % 16))
        rw [hw, nI_s, bitc (by omega)]
        refine br_1 (h2 _) (md _ c' hc' hw _ (fun M2 hF2 hT => br_1 rfl ?_))
        obtain ⟨r1, r2⟩ := rd c' M2 hc' hF2
        rw [r1, r2]
        refine c99 (br_t c3 (h_wayBits hT hm7 ?_))
        rw [hw, r1, nI_s]
        exact h_ones (by omega) ⟨rfl, fin c' hc' M2 hF2⟩
      · obtain ⟨c', hc', hw⟩ := and_lo (sG s 3) (wb (sH s) (Int32.ofInt 0) (lab (sH s) (Int32.ofInt 0) b) a (lab (sH s) (Int32.ofInt 0) b a % 16) ^^^ Int32.ofInt (-1))
        rw [hw, nI_s, bitc (by omega)]
        refine br_1 (h2 _) (md _ c' hc' hw _ (fun M2 hF2 hT => br_1 rfl ?_))
        obtain ⟨r1, r2⟩ := rd c' M2 hc' hF2
        rw [r1, r2]
        refine c99 (br_f c3 (h_wayBits hT hm7 ?_))
        rw [hw, r1, nI_s]
        exact h_ones (by omega) ⟨rfl, fin c' hc' M2 hF2⟩
    · refine br_1 (h2 _) (s_lay hI1 (Int32.ofInt 0) ha hb (fun _ _ M2 hF2 hI2 hM2 hT => br_1 rfl ?_) (fun c' => absurd c c'))
      rw [hI2.2.2.1.tri]
      exact pk_eq (sG s 4) 99 (fun _ => ⟨rfl, s, np, pd, hI2⟩) (fun e => absurd (by omega) e)
  · exact br_0 (h1 M) (br_0 (h2 M) ⟨rfl, s, np, pd, hI⟩)
