/-! ===== calls that ask for ways ===== -/
theorem cv10 {h : Hse} {bar : Int32} {to : Nat} (H : HOK h) {D : Nat → Nat} (hD : isLab h bar to 16 1048576 D) {x : Nat} (hx : x < 8) {car : Nat} (hc : car ≤ 60) : (cv (D x) / 10 ≤ car ↔ D x / 16 ≤ car) ∧ (D x / 16 ≤ car → cv (D x) / 10 = D x / 16) ∧ cv (D x) ≤ 9999 := by
  have hb : cv (D x) ≤ 9999 := (lab_10 H hD).2.1 x hx
  by_cases hI : D x < 1048576
  · have h7 := lab_fin H hD hx hI
    have e : cv (D x) / 10 = D x / 16 := by rw [cv_lo hI]; omega
    rw [e]
    exact ⟨Iff.rfl, fun _ => rfl, hb⟩
  · rw [cv_hi hI]
    exact ⟨by omega, by omega, by omega⟩
section WAYS
variable {M : Mem} {L : LMem} {s : Stt} {np : Nat} {pd : Nat → Nat} {K : Int32 → Mem → LMem → Prop}
theorem s_find (hI : INVs M s np pd) (bar : Int32) {a b : Nat} (ha : a < 8) (hb : b < 8)
    (kk1 : lab (sH s) bar b a / 16 ≤ sG s 0 → lab (sH s) bar b a < 1048576 → ∀ M1, Fr cRt M M1 → INVs M1 s np pd → RT M1 (sH s) bar (lab (sH s) bar b) a (lab (sH s) bar b a % 16) → K (nI 1) M1 L)
    (kk0 : ¬ lab (sH s) bar b a / 16 ≤ sG s 0 → ∀ M1, Fr cRt M M1 → INVs M1 s np pd → K (nI 0) M1 L) : P_X6_find (nI a) (nI b) bar M L K := by
  have hS := hI.1
  have hD := lab_is hS.1 bar b
  refine h_find hS.1 hS.2.1 hI.2.1.hc hb hD ha hI.2.1.car hS.2.2.1.2 (fun c M1 hF hR => kk1 c ?_ M1 hF (hI.scr (cRt_scr hF)) hR) (fun c M1 hF => kk0 (by omega) M1 hF (hI.scr (cRt_scr hF)))
  have := hS.2.2.1.2
  omega
theorem s_lay (hI : INVs M s np pd) (bar : Int32) {a b : Nat} (ha : a < 8) (hb : b < 8)
    (kk1 : lab (sH s) bar b a / 16 ≤ sG s 0 → lab (sH s) bar b a < 1048576 → ∀ M1, Fr cMw M M1 → INVs M1 s np pd → HM M1 (sH s) → MT M1 (sH s) bar (lab (sH s) bar b) a (lab (sH s) bar b a % 16) → K (nI 1) M1 L)
    (kk0 : ¬ lab (sH s) bar b a / 16 ≤ sG s 0 → ∀ M1, Fr cMw M M1 → INVs M1 s np pd → M1 74 20 = nI 0 → K (nI 0) M1 L) : P_X10_layWay (nI a) (nI b) bar M L K := by
  have hS := hI.1
  have hD := lab_is hS.1 bar b
  refine h_layWay hS.1 hI.2.2.1.hm hb hD ha hI.2.2.1.car hS.2.2.1.2 (fun c M1 hF h21 hR => kk1 c ?_ M1 hF (hI.scr (cMw_scr hF)) ⟨h21, (hI.scr (cMw_scr hF)).2.2.1.hm.2⟩ hR) (fun c M1 hF h0 => kk0 (by omega) M1 hF (hI.scr (cMw_scr hF)) h0)
  have := hS.2.2.1.2
  omega
theorem s_wok (hS : SOK s) {bar : Int32} {a b : Nat} (ha : a < 8) (hb : b < 8) (hD : lab (sH s) bar b a < 1048576) : WOK (sH s) bar (lab (sH s) bar b) a (lab (sH s) bar b a % 16) := WOK_of hS.1 (lab_is hS.1 bar b) hb ha hD
theorem s_wl (hS : SOK s) {bar : Int32} {a b : Nat} (ha : a < 8) (hb : b < 8) (hD : lab (sH s) bar b a < 1048576) : wl (sH s) bar (lab (sH s) bar b) a (lab (sH s) bar b a % 16) = lab (sH s) bar b a / 16 ∧ ∀ i, i ≤ lab (sH s) bar b a % 16 → wl (sH s) bar (lab (sH s) bar b) a i ≤ lab (sH s) bar b a / 16 := wl_in hS.1 (lab_is hS.1 bar b) hb ha hD
end WAYS
theorem in_lt (x : Int32) (n : Nat) (hn : n < 2 ^ 30) : (∃ k, k < n ∧ x = nI k ∧ ∀ M, f_X10_in M x.toInt64 (Int64.ofNat 0) ((nI n - Int32.ofInt 1).toInt64) = nI 1) ∨ ((x < 0 ∨ (¬ x < 0 ∧ nI n ≤ x)) ∧ ∀ M, f_X10_in M x.toInt64 (Int64.ofNat 0) ((nI n - Int32.ofInt 1).toInt64) = nI 0) := by
  have e0 : x.toInt64 < Int64.ofNat 0 ↔ x < 0 := wlt x 0
  have e1 : (nI n - Int32.ofInt 1).toInt64 < x.toInt64 ↔ nI n - Int32.ofInt 1 < x := wlt _ _
  have e2 : (nI n - Int32.ofInt 1).toInt = (n : Int) - 1 := pk_sub_toInt (b := 1) hn (by decide)
  unfold f_X10_in
  simp only [lg_cmp_lt, lg_cmp_gt, e0, e1]
  by_cases c0 : x < 0
  · exact Or.inr ⟨Or.inl c0, fun _ => by rw [if_pos c0]; rfl⟩
  · obtain ⟨k, hk, rfl⟩ := nI_of c0
    have e3 := nI_toInt hk
    by_cases c : k < n
    · refine Or.inl ⟨k, c, rfl, fun _ => ?_⟩
      rw [if_neg c0, if_neg (fun e => by have := Int32.lt_iff_toInt_lt.mp e; omega)]; rfl
    · refine Or.inr ⟨Or.inr ⟨c0, nI_le (by omega) hk⟩, fun _ => ?_⟩
      rw [if_neg c0, if_pos (Int32.lt_iff_toInt_lt.mpr (by omega))]; rfl
theorem op_way : Op_way INV := by
  intro M L x1 x2 x3 hI
  obtain ⟨s, np, pd, hI⟩ := hI
  have hS := hI.1
  show P_X9_way x1 x2 x3 M L (fun r M1 L1 => P_X10_way x1 x2 x3 M1 L1 (fun r2 M2 L2 => r2 = r ∧ INV M2 L2))
  unfold P_X9_way
  rcases tw_cases x1 x2 with ⟨a, b, ha, hb, hab, rfl, rfl, h1, h2⟩ | ⟨h1, h2⟩
  · refine br_1 (h1 M) (s_find hI (Int32.ofInt 0) ha hb (fun c cI M1 hF1 hI1 hR => br_1 rfl ?_) (fun c M1 hF1 hI1 => br_0 rfl ?_))
    · have hm7 := (s_wok hS ha hb cI).1
      have hwl := s_wl hS ha hb cI
      obtain ⟨q1, q2, q3, q4, q5⟩ := hR
      rw [hwl.1] at q2
      have md : ∀ K2 : Int32 → Mem → LMem → Prop, (∀ M2, INVs M2 s np pd → HM M2 (sH s) → MT M2 (sH s) (Int32.ofInt 0) (lab (sH s) (Int32.ofInt 0) b) a (lab (sH s) (Int32.ofInt 0) b a % 16) → (x3 = Int32.ofInt (-1) → P_X10_wayLength M2 L (fun v_12 M_10 L_11 => K2 v_12 M_10 L_11)) ∧ (¬ (x3 = (Int32.ofInt (-1))) → ((x3 = (Int32.ofInt (-2)) → K2 (M2 74 20) M2 L) ∧ (¬ (x3 = (Int32.ofInt (-2))) → (((f_X10_in M2 x3.toInt64 (Int64.ofNat 0) (((M2 74 20) - (Int32.ofInt 1)).toInt64)) = 0 → K2 (Int32.ofInt (-6)) M2 L) ∧ (¬ ((f_X10_in M2 x3.toInt64 (Int64.ofNat 0) (((M2 74 20) - (Int32.ofInt 1)).toInt64)) = 0) → (vp_in x3 8 ∧ K2 (M2 86 x3.toNatClampNeg) M2 L))))))) → P_X10_way (nI a) (nI b) x3 M1 L K2 := by
        intro K2 h
        unfold P_X10_way
        exact br_1 (h2 _) (s_lay hI1 (Int32.ofInt 0) ha hb (fun _ _ M2 hF2 hI2 hM2 hT => br_1 rfl (h M2 hI2 hM2 hT)) (fun c' => absurd c c'))
      refine br_c (fun c3 => ?_) (fun c3 => br_c (fun c4 => ?_) (fun c4 => br_c (fun c5 => ?_) (fun c5 => br_c (fun c6 => ?_) (fun c6 => ?_))))
      · refine md _ (fun M2 hI2 hM2 hT => br_t c3 (h_wayLength hS.1 hM2 hT (s_wok hS ha hb cI) ⟨?_, s, np, pd, hI2⟩))
        rw [hwl.1, q2]
      · refine md _ (fun M2 hI2 hM2 hT => br_f c3 (br_t c4 ⟨?_, s, np, pd, hI2⟩))
        rw [hT.1, q1]
      · refine md _ (fun M2 hI2 hM2 hT => br_f c3 (br_f c4 ?_))
        rw [hT.1]
        rcases in_lt x3 (lab (sH s) (Int32.ofInt 0) b a % 16) (by omega) with ⟨k, k1, rfl, k3⟩ | ⟨k1, k3⟩
        · exact absurd c5 (nI_pos (by omega))
        · exact br_0 (k3 _) ⟨rfl, s, np, pd, hI2⟩
      · refine md _ (fun M2 hI2 hM2 hT => br_f c3 (br_f c4 ?_))
        rw [hT.1]
        rw [q1] at c6
        rcases in_lt x3 (lab (sH s) (Int32.ofInt 0) b a % 16) (by omega) with ⟨k, k1, rfl, k3⟩ | ⟨k1, k3⟩
        · exact absurd c6 (nI_ge k1 (by omega))
        · exact br_0 (k3 _) ⟨rfl, s, np, pd, hI2⟩
      · rw [q1] at c6
        rcases in_lt x3 (lab (sH s) (Int32.ofInt 0) b a % 16) (by omega) with ⟨k, k1, rfl, k3⟩ | ⟨k1, k3⟩
        · have hin : vp_in (nI k) 8 := pk_in k 8 (by omega)
          refine ⟨hin, md _ (fun M2 hI2 hM2 hT => br_f c3 (br_f c4 ?_))⟩
          rw [hT.1]
          refine br_1 (k3 _) ⟨hin, ?_, s, np, pd, hI2⟩
          rw [nI_clamp (by omega), hT.2.1 k k1, q4 k k1]
        · rcases k1 with k1 | k1
          · exact absurd k1 c5
          · exact absurd k1.2 c6
    · unfold P_X10_way
      exact br_1 (h2 _) (s_lay hI1 (Int32.ofInt 0) ha hb (fun c' => absurd c' c) (fun _ M2 hF2 hI2 h0 => br_0 rfl ⟨rfl, s, np, pd, hI2⟩))
  · refine br_0 (h1 M) ?_
    unfold P_X10_way
    exact br_0 (h2 M) ⟨rfl, s, np, pd, hI⟩
theorem op_loud : Op_loud INV := by
  intro M L x1 x2 x3 hI
  obtain ⟨s, np, pd, hI⟩ := hI
  have hS := hI.1
  show P_X9_loud x1 x2 x3 M L (fun r M1 L1 => P_X10_loud x1 x2 x3 M1 L1 (fun r2 M2 L2 => r2 = r ∧ INV M2 L2))
  unfold P_X9_loud P_X10_loud
  rcases tw_cases x1 x2 with ⟨a, b, ha, hb, hab, rfl, rfl, h1, h2⟩ | ⟨h1, h2⟩
  · rcases ro_cases x3 with ⟨r, hr, rfl, h3, h4⟩ | ⟨h3, h4⟩
    · refine br_1 (h1 M) (br_1 (h3 M) (s_find hI (Int32.ofInt 0) ha hb (fun c cI M1 hF1 hI1 hR => br_1 rfl ?_) (fun c M1 hF1 hI1 => br_0 rfl ?_)))
      · have hW := s_wok hS ha hb cI
        have hwl := s_wl hS ha hb cI
        have w1 := hW.1
        have hc60 := hS.2.2.1.2
        have hle : ∀ i, i ≤ lab (sH s) (Int32.ofInt 0) b a % 16 → wl (sH s) (Int32.ofInt 0) (lab (sH s) (Int32.ofInt 0) b) a i ≤ sG s 0 := fun i hi => Nat.le_trans (hwl.2 i hi) c
        refine h_loudness hS.1 hS.2.1 hI1.2.1.hc hR hW hr hc60 hI1.2.1.car hle ?_
        refine br_1 (h2 _) (br_1 (h4 _) (s_lay hI1 (Int32.ofInt 0) ha hb (fun _ _ M2 hF2 hI2 hM2 hT => br_1 rfl ?_) (fun c' => absurd c c')))
        exact hl_loud hS.1 hM2 hT hW hr hc60 hle ⟨rfl, s, np, pd, hI2⟩ 100000 0 (lab (sH s) (Int32.ofInt 0) b a % 16 + 1) (M2 74 5) (by omega) (by omega) rfl (fun _ => hI2.2.2.1.car)
      · exact br_1 (h2 _) (br_1 (h4 _) (s_lay hI1 (Int32.ofInt 0) ha hb (fun c' => absurd c' c) (fun _ M2 hF2 hI2 h0 => br_0 rfl ⟨rfl, s, np, pd, hI2⟩)))
    · exact br_1 (h1 M) (br_0 (h3 M) (br_1 (h2 M) (br_0 (h4 M) ⟨rfl, s, np, pd, hI⟩)))
  · exact br_0 (h1 M) (br_0 (h2 M) ⟨rfl, s, np, pd, hI⟩)
theorem op_heard : Op_heard INV := by
  intro M L x1 x2 hI
  obtain ⟨s, np, pd, hI⟩ := hI
  have hS := hI.1
  show P_X9_heard x1 x2 M L (fun r M1 L1 => P_X10_heard x1 x2 M1 L1 (fun r2 M2 L2 => r2 = r ∧ INV M2 L2))
  unfold P_X9_heard P_X10_heard
  rcases tw_cases x1 x2 with ⟨a, b, ha, hb, hab, rfl, rfl, h1, h2⟩ | ⟨h1, h2⟩
  · refine br_1 (h1 M) (s_find hI (Int32.ofInt 0) ha hb (fun c cI M1 hF1 hI1 hR => br_1 rfl ?_) (fun c M1 hF1 hI1 => br_0 rfl ?_))
    · have hW := s_wok hS ha hb cI
      rw [hI1.2.1.sto]
      refine h_hear hS.1 hS.2.1 hI1.2.1.hc hR hW ?_
      refine br_1 (h2 _) (s_lay hI1 (Int32.ofInt 0) ha hb (fun _ _ M2 hF2 hI2 hM2 hT => br_1 rfl ?_) (fun c' => absurd c c'))
      rw [hI2.2.2.1.sto]
      exact h_heardBy hS.1 hM2 hT hW ⟨rfl, s, np, pd, hI2⟩
    · exact br_1 (h2 _) (s_lay hI1 (Int32.ofInt 0) ha hb (fun c' => absurd c' c) (fun _ M2 hF2 hI2 h0 => br_0 rfl ⟨rfl, s, np, pd, hI2⟩))
  · exact br_0 (h1 M) (br_0 (h2 M) ⟨rfl, s, np, pd, hI⟩)
theorem farOf_eq {M : Mem} {h : Hse} {bar : Int32} {to : Nat} (H : HOK h) {D : Nat → Nat} (hD : isLab h bar to 16 1048576 D) (hl : lbl M 85 (fun x => cv (D x))) {x car : Nat} (hx : x < 8) (hc : car ≤ 60) (hcar : M 74 5 = nI car) : f_X10_farOf M (nI x) = if D x / 16 ≤ car then nI (D x / 16) else nI 99 := by
  obtain ⟨h1, h2, h3⟩ := cv10 H hD hx hc
  have e : M 85 x = nI (cv (D x)) := hl x hx
  unfold f_X10_farOf
  rw [nI_clamp (by omega), e, o10, pk_div (by omega) (by omega) (by omega), hcar]
  by_cases c : D x / 16 ≤ car
  · rw [if_pos c, if_pos ((nI_leI (by omega) (by omega)).mpr (h1.mpr c)), h2 c]
  · rw [if_neg c, if_neg (fun e => c (h1.mp ((nI_leI (by omega) (by omega)).mp e)))]; rfl
theorem op_far : Op_far INV := by
  intro M L x1 x2 hI
  obtain ⟨s, np, pd, hI⟩ := hI
  have hS := hI.1
  show P_X9_far x1 x2 M L (fun r M1 L1 => P_X10_far x1 x2 M1 L1 (fun r2 M2 L2 => r2 = r ∧ INV M2 L2))
  unfold P_X9_far P_X10_far
  rcases tw_cases x1 x2 with ⟨a, b, ha, hb, hab, rfl, rfl, h1, h2⟩ | ⟨h1, h2⟩
  · have hc60 := hS.2.2.1.2
    have hD := lab_is hS.1 (Int32.ofInt 0) b
    have md : ∀ (M1 : Mem) (r : Int32), INVs M1 s np pd → r = (if lab (sH s) (Int32.ofInt 0) b a / 16 ≤ sG s 0 then nI (lab (sH s) (Int32.ofInt 0) b a / 16) else nI 99) → P_X10_findOff (nI b) (Int32.ofInt 0) (mput M1 74 21 (M1 74 4)) L (fun M_2 L_3 => ((vp_in (nI a) 8) ∧ (f_X10_farOf M_2 (nI a) = r ∧ INV M_2 L_3))) := by
      intro M1 r hI1 hr
      refine h_findOff hS.1 hI1.2.2.1.hm.now hb hD (fun M2 hF2 hl2 => ⟨pk_in a 8 ha, ?_, ?_⟩)
      · rw [hr]
        refine farOf_eq hS.1 hD hl2 ha hc60 ?_
        rw [hF2 74 5 rfl, mp_i _ (by decide)]
        exact hI1.2.2.1.car
      · exact ⟨s, np, pd, hI1.scr (cMw_scr (((Fr.rf cMw M1).put rfl).tr (cOff_Mw hF2)))⟩
    refine br_1 (h1 M) (s_find hI (Int32.ofInt 0) ha hb (fun c cI M1 hF1 hI1 hR => br_1 rfl (br_1 (h2 _) (md M1 _ hI1 ?_))) (fun c M1 hF1 hI1 => br_0 rfl (br_1 (h2 _) (md M1 _ hI1 ?_))))
    · rw [if_pos c, hR.2.1, (s_wl hS ha hb cI).1]
    · rw [if_neg c]; rfl
  · exact br_0 (h1 M) (br_0 (h2 M) ⟨rfl, s, np, pd, hI⟩)
