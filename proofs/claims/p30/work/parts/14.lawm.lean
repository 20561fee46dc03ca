/-! ===== the law's methods ===== -/
abbrev SCT : Type := Nat × (Nat → Int32)
def SCE (E : VE) (sc : SCT) : Prop := sc = E.2.2.2.2 ∧ sc.1 ≤ 260
def CellOK (x2 x3 : Int32) : Prop := ∃ k n, k < 1000 ∧ 0 < n ∧ n < 1000 ∧ x2 = nI k ∧ x3 = nI n
def f_L_cell (sc : SCT) (x2 x3 : Int32) : Int32 := if nI sc.1 = 0 then (x2 * Int32.ofInt 37 + Int32.ofInt 5) - (x2 * Int32.ofInt 37 + Int32.ofInt 5) / x3 * x3 else (((sc.2 (x2 - x2 / nI sc.1 * nI sc.1).toNatClampNeg) >>> ((x2 - x2 / Int32.ofInt 7 * Int32.ofInt 7) &&& 31)) &&& Int32.ofInt 4194303) - (((sc.2 (x2 - x2 / nI sc.1 * nI sc.1).toNatClampNeg) >>> ((x2 - x2 / Int32.ofInt 7 * Int32.ofInt 7) &&& 31)) &&& Int32.ofInt 4194303) / x3 * x3
theorem s_L_cell {E : VE} {d : Nat} {Q : QQ} {M : Mem} {L : LMem} {sc : SCT} (hsc : SCE E sc) (x2 x3 : Int32) (o : CellOK x2 x3) (hQ : Q (some (.int (f_L_cell sc x2 x3))) M L) : Wp E d 89 0 [.ref 75, .int x2, .int x3] [] M L Q := by
  obtain ⟨rfl, hL⟩ := hsc
  obtain ⟨k, n, hk, hn0, hn, rfl, rfl⟩ := o
  have hn0 : ¬ nI n = 0 := nI_ne0 hn0 (by omega)
  refine wp_seg (pc' := 1) [.aload 0] (by decide +kernel) (?_ : Wp E d 89 1 [.ref 75, .int (nI k), .int (nI n)] [.ref 75] M L Q)
  refine wm_slen (by decide +kernel) ?_
  refine wp_ifne (off := 12) 14 (by decide +kernel) (by decide) (fun c => ?_) (fun c => ?_)
  · rw [f_L_cell, if_neg c] at hQ
    have hL0 : ¬ E.2.2.2.2.1 = 0 := fun e => c (by rw [e]; rfl)
    refine wp_seg (pc' := 17) [.aload 0, .iload 1, .aload 0] (by decide +kernel) (?_ : Wp E d 89 17 [.ref 75, .int (nI k), .int (nI n)] [.ref 75, .int (nI k), .ref 75] M L Q)
    refine wm_slen (by decide +kernel) ?_
    refine wp_seg (pc' := 19) [.irem] (by decide +kernel) (show ¬ nI E.2.2.2.2.1 = 0 ∧ Wp E d 89 19 [.ref 75, .int (nI k), .int (nI n)] [.int (nI k - nI k / nI E.2.2.2.2.1 * nI E.2.2.2.2.1), .ref 75] M L Q from ⟨c, ?_⟩)
    refine wm_sld ?_ (by decide +kernel) ?_
    · rw [pk_rem (d := E.2.2.2.2.1) (by omega) (by omega) (by omega)]
      exact vp_in_nI (Nat.mod_lt _ (by omega)) (by omega)
    refine wp_seg (pc' := 24) [.iload 1, .iconst 7, .irem] (by decide +kernel) (show ¬ (Int32.ofInt 7) = 0 ∧ Wp E d 89 24 [.ref 75, .int (nI k), .int (nI n)] [.int (nI k - nI k / Int32.ofInt 7 * Int32.ofInt 7), .int (E.2.2.2.2.2 (nI k - nI k / nI E.2.2.2.2.1 * nI E.2.2.2.2.1).toNatClampNeg)] M L Q from ⟨by decide, ?_⟩)
    refine wp_seg (pc' := 28) [.ishr, .iconst 4194303, .iand] (by decide +kernel) (?_ : Wp E d 89 28 [.ref 75, .int (nI k), .int (nI n)] [.int (((E.2.2.2.2.2 (nI k - nI k / nI E.2.2.2.2.1 * nI E.2.2.2.2.1).toNatClampNeg) >>> ((nI k - nI k / Int32.ofInt 7 * Int32.ofInt 7) &&& 31)) &&& Int32.ofInt 4194303)] M L Q)
    refine wp_seg (pc' := 30) [.iload 2, .irem] (by decide +kernel) (show ¬ nI n = 0 ∧ Wp E d 89 30 [.ref 75, .int (nI k), .int (nI n)] [.int ((((E.2.2.2.2.2 (nI k - nI k / nI E.2.2.2.2.1 * nI E.2.2.2.2.1).toNatClampNeg) >>> ((nI k - nI k / Int32.ofInt 7 * Int32.ofInt 7) &&& 31)) &&& Int32.ofInt 4194303) - (((E.2.2.2.2.2 (nI k - nI k / nI E.2.2.2.2.1 * nI E.2.2.2.2.1).toNatClampNeg) >>> ((nI k - nI k / Int32.ofInt 7 * Int32.ofInt 7) &&& 31)) &&& Int32.ofInt 4194303) / nI n * nI n)] M L Q from ⟨hn0, ?_⟩)
    exact wp_iret (by decide +kernel) rfl hQ
  · rw [f_L_cell, if_pos c] at hQ
    refine wp_seg (pc' := 28) [.iload 1, .iconst 37, .imul, .iconst 5, .iadd, .goto 0] (by decide +kernel) (?_ : Wp E d 89 28 [.ref 75, .int (nI k), .int (nI n)] [.int (nI k * Int32.ofInt 37 + Int32.ofInt 5)] M L Q)
    refine wp_seg (pc' := 30) [.iload 2, .irem] (by decide +kernel) (show ¬ nI n = 0 ∧ Wp E d 89 30 [.ref 75, .int (nI k), .int (nI n)] [.int ((nI k * Int32.ofInt 37 + Int32.ofInt 5) - (nI k * Int32.ofInt 37 + Int32.ofInt 5) / nI n * nI n)] M L Q from ⟨hn0, ?_⟩)
    exact wp_iret (by decide +kernel) rfl hQ

def f_L_sign (M : Mem) (x1 : Int32) : Int32 := (if x1 = 0 then Int32.ofInt 45 else (if x1 = (Int32.ofInt 1) then Int32.ofInt 62 else (if x1 = (Int32.ofInt 2) then Int32.ofInt 126 else (if x1 = (Int32.ofInt 3) then Int32.ofInt 61 else Int32.ofInt 120))))
theorem s_L_sign {E : VE} {d : Nat} {Q : QQ} {L : LMem} (M : Mem) (x1 : Int32) (hQ : Q (some (.int (f_L_sign M x1))) M L) : Wp E d 90 0 [.int x1] [] M L Q := by
  refine wp_seg (pc' := 1) [.iload 0] (by decide +kernel) (?_ : Wp E d 90 1 [.int x1] [.int x1] M L Q)
  refine wp_ifne (off := 8) 9 (by decide +kernel) (by decide) (fun c_1 => ?_) (fun c_1 => ?_)
  · refine wp_seg (pc' := 11) [.iload 0, .iconst 1] (by decide +kernel) (?_ : Wp E d 90 11 [.int x1] [.int (Int32.ofInt 1), .int x1] M L Q)
    refine wp_icmpne (off := 8) 19 (by decide +kernel) (by decide) (fun c_2 => ?_) (fun c_2 => ?_)
    · refine wp_seg (pc' := 21) [.iload 0, .iconst 2] (by decide +kernel) (?_ : Wp E d 90 21 [.int x1] [.int (Int32.ofInt 2), .int x1] M L Q)
      refine wp_icmpne (off := 8) 29 (by decide +kernel) (by decide) (fun c_3 => ?_) (fun c_3 => ?_)
      · refine wp_seg (pc' := 31) [.iload 0, .iconst 3] (by decide +kernel) (?_ : Wp E d 90 31 [.int x1] [.int (Int32.ofInt 3), .int x1] M L Q)
        refine wp_icmpne (off := 8) 39 (by decide +kernel) (by decide) (fun c_4 => ?_) (fun c_4 => ?_)
        · refine wp_seg (pc' := 41) [.iconst 120] (by decide +kernel) (?_ : Wp E d 90 41 [.int x1] [.int (Int32.ofInt 120)] M L Q)
          exact wp_iret (by decide +kernel) rfl (by rw [f_L_sign, if_neg c_1, if_neg c_2, if_neg c_3, if_neg c_4] at hQ; exact hQ)
        · refine wp_seg (pc' := 41) [.iconst 61, .goto 0] (by decide +kernel) (?_ : Wp E d 90 41 [.int x1] [.int (Int32.ofInt 61)] M L Q)
          exact wp_iret (by decide +kernel) rfl (by rw [f_L_sign, if_neg c_1, if_neg c_2, if_neg c_3, if_pos c_4] at hQ; exact hQ)
      · refine wp_seg (pc' := 41) [.iconst 126, .goto 0] (by decide +kernel) (?_ : Wp E d 90 41 [.int x1] [.int (Int32.ofInt 126)] M L Q)
        exact wp_iret (by decide +kernel) rfl (by rw [f_L_sign, if_neg c_1, if_neg c_2, if_pos c_3] at hQ; exact hQ)
    · refine wp_seg (pc' := 41) [.iconst 62, .goto 0] (by decide +kernel) (?_ : Wp E d 90 41 [.int x1] [.int (Int32.ofInt 62)] M L Q)
      exact wp_iret (by decide +kernel) rfl (by rw [f_L_sign, if_neg c_1, if_pos c_2] at hQ; exact hQ)
  · refine wp_seg (pc' := 41) [.iconst 45, .goto 0] (by decide +kernel) (?_ : Wp E d 90 41 [.int x1] [.int (Int32.ofInt 45)] M L Q)
    exact wp_iret (by decide +kernel) rfl (by rw [f_L_sign, if_pos c_1] at hQ; exact hQ)

def f_L_leads (M : Mem) (x2 : Int32) (x3 : Int32) : Int32 := (if (M 74 ((((Int32.ofInt 4) * x2) + (Int32.ofInt 2)).toNatClampNeg)) = (Int32.ofInt 4) then Int32.ofInt (-1) else (if (M 74 (((Int32.ofInt 4) * x2).toNatClampNeg)) = x3 then M 74 ((((Int32.ofInt 4) * x2) + (Int32.ofInt 1)).toNatClampNeg) else (if (M 74 ((((Int32.ofInt 4) * x2) + (Int32.ofInt 1)).toNatClampNeg)) = x3 then (if (M 74 ((((Int32.ofInt 4) * x2) + (Int32.ofInt 2)).toNatClampNeg)) = (Int32.ofInt 1) then Int32.ofInt (-1) else M 74 (((Int32.ofInt 4) * x2).toNatClampNeg)) else Int32.ofInt (-1))))
theorem s_L_leads {E : VE} {d : Nat} {Q : QQ} {L : LMem} (M : Mem) (x2 : Int32) (x3 : Int32) (o_1 : vp_in (((Int32.ofInt 4) * x2) + (Int32.ofInt 2)) 48) (o_2 : ¬ ((M 74 ((((Int32.ofInt 4) * x2) + (Int32.ofInt 2)).toNatClampNeg)) = (Int32.ofInt 4)) → vp_in ((Int32.ofInt 4) * x2) 48) (o_3 : ¬ ((M 74 ((((Int32.ofInt 4) * x2) + (Int32.ofInt 2)).toNatClampNeg)) = (Int32.ofInt 4)) → ¬ ((M 74 (((Int32.ofInt 4) * x2).toNatClampNeg)) = x3) → vp_in (((Int32.ofInt 4) * x2) + (Int32.ofInt 1)) 48) (o_4 : ¬ ((M 74 ((((Int32.ofInt 4) * x2) + (Int32.ofInt 2)).toNatClampNeg)) = (Int32.ofInt 4)) → (M 74 (((Int32.ofInt 4) * x2).toNatClampNeg)) = x3 → vp_in (((Int32.ofInt 4) * x2) + (Int32.ofInt 1)) 48) (hQ : Q (some (.int (f_L_leads M x2 x3))) M L) : Wp E d 92 0 [.ref 74, .int x2, .int x3, .null] [] M L Q := by
  refine wp_seg (pc' := 7) [.aload 0, .iconst 4, .iload 1, .imul, .iconst 2, .iadd, .iaload] (by decide +kernel) (show aok 74 0 (((Int32.ofInt 4) * x2) + (Int32.ofInt 2)) ∧ Wp E d 92 7 [.ref 74, .int x2, .int x3, .null] [.int (M 74 ((((Int32.ofInt 4) * x2) + (Int32.ofInt 2)).toNatClampNeg))] M L Q from ⟨⟨rfl, (o_1)⟩, ?_⟩)
  refine wp_seg (pc' := 10) [.istore 3, .iload 3, .iconst 4] (by decide +kernel) (?_ : Wp E d 92 10 [.ref 74, .int x2, .int x3, .int (M 74 ((((Int32.ofInt 4) * x2) + (Int32.ofInt 2)).toNatClampNeg))] [.int (Int32.ofInt 4), .int (M 74 ((((Int32.ofInt 4) * x2) + (Int32.ofInt 2)).toNatClampNeg))] M L Q)
  refine wp_icmpne (off := 7) 17 (by decide +kernel) (by decide) (fun c_1 => ?_) (fun c_1 => ?_)
  · refine wp_seg (pc' := 22) [.aload 0, .iconst 4, .iload 1, .imul, .iaload] (by decide +kernel) (show aok 74 0 ((Int32.ofInt 4) * x2) ∧ Wp E d 92 22 [.ref 74, .int x2, .int x3, .int (M 74 ((((Int32.ofInt 4) * x2) + (Int32.ofInt 2)).toNatClampNeg))] [.int (M 74 (((Int32.ofInt 4) * x2).toNatClampNeg))] M L Q from ⟨⟨rfl, (o_2 c_1)⟩, ?_⟩)
    refine wp_seg (pc' := 23) [.iload 2] (by decide +kernel) (?_ : Wp E d 92 23 [.ref 74, .int x2, .int x3, .int (M 74 ((((Int32.ofInt 4) * x2) + (Int32.ofInt 2)).toNatClampNeg))] [.int x3, .int (M 74 (((Int32.ofInt 4) * x2).toNatClampNeg))] M L Q)
    refine wp_icmpne (off := 13) 36 (by decide +kernel) (by decide) (fun c_2 => ?_) (fun c_2 => ?_)
    · refine wp_seg (pc' := 43) [.aload 0, .iconst 4, .iload 1, .imul, .iconst 1, .iadd, .iaload] (by decide +kernel) (show aok 74 0 (((Int32.ofInt 4) * x2) + (Int32.ofInt 1)) ∧ Wp E d 92 43 [.ref 74, .int x2, .int x3, .int (M 74 ((((Int32.ofInt 4) * x2) + (Int32.ofInt 2)).toNatClampNeg))] [.int (M 74 ((((Int32.ofInt 4) * x2) + (Int32.ofInt 1)).toNatClampNeg))] M L Q from ⟨⟨rfl, (o_3 c_1 c_2)⟩, ?_⟩)
      refine wp_seg (pc' := 44) [.iload 2] (by decide +kernel) (?_ : Wp E d 92 44 [.ref 74, .int x2, .int x3, .int (M 74 ((((Int32.ofInt 4) * x2) + (Int32.ofInt 2)).toNatClampNeg))] [.int x3, .int (M 74 ((((Int32.ofInt 4) * x2) + (Int32.ofInt 1)).toNatClampNeg))] M L Q)
      refine wp_icmpne (off := 16) 60 (by decide +kernel) (by decide) (fun c_3 => ?_) (fun c_3 => ?_)
      · refine wp_seg (pc' := 61) [.iconst (-1)] (by decide +kernel) (?_ : Wp E d 92 61 [.ref 74, .int x2, .int x3, .int (M 74 ((((Int32.ofInt 4) * x2) + (Int32.ofInt 2)).toNatClampNeg))] [.int (Int32.ofInt (-1))] M L Q)
        exact wp_iret (by decide +kernel) rfl (by rw [f_L_leads, if_neg c_1, if_neg c_2, if_neg c_3] at hQ; exact hQ)
      · refine wp_seg (pc' := 49) [.iload 3, .iconst 1] (by decide +kernel) (?_ : Wp E d 92 49 [.ref 74, .int x2, .int x3, .int (M 74 ((((Int32.ofInt 4) * x2) + (Int32.ofInt 2)).toNatClampNeg))] [.int (Int32.ofInt 1), .int (M 74 ((((Int32.ofInt 4) * x2) + (Int32.ofInt 2)).toNatClampNeg))] M L Q)
        refine wp_icmpeq (off := 11) 60 (by decide +kernel) (by decide) (fun c_4 => ?_) (fun c_4 => ?_)
        · refine wp_seg (pc' := 61) [.iconst (-1)] (by decide +kernel) (?_ : Wp E d 92 61 [.ref 74, .int x2, .int x3, .int (M 74 ((((Int32.ofInt 4) * x2) + (Int32.ofInt 2)).toNatClampNeg))] [.int (Int32.ofInt (-1))] M L Q)
          exact wp_iret (by decide +kernel) rfl (by rw [f_L_leads, if_neg c_1, if_neg c_2, if_pos c_3, if_pos c_4] at hQ; exact hQ)
        · refine wp_seg (pc' := 57) [.aload 0, .iconst 4, .iload 1, .imul, .iaload] (by decide +kernel) (show aok 74 0 ((Int32.ofInt 4) * x2) ∧ Wp E d 92 57 [.ref 74, .int x2, .int x3, .int (M 74 ((((Int32.ofInt 4) * x2) + (Int32.ofInt 2)).toNatClampNeg))] [.int (M 74 (((Int32.ofInt 4) * x2).toNatClampNeg))] M L Q from ⟨⟨rfl, (o_2 c_1)⟩, ?_⟩)
          refine wp_seg (pc' := 61) [.goto 0] (by decide +kernel) (?_ : Wp E d 92 61 [.ref 74, .int x2, .int x3, .int (M 74 ((((Int32.ofInt 4) * x2) + (Int32.ofInt 2)).toNatClampNeg))] [.int (M 74 (((Int32.ofInt 4) * x2).toNatClampNeg))] M L Q)
          exact wp_iret (by decide +kernel) rfl (by rw [f_L_leads, if_neg c_1, if_neg c_2, if_pos c_3, if_neg c_4] at hQ; exact hQ)
    · refine wp_seg (pc' := 33) [.aload 0, .iconst 4, .iload 1, .imul, .iconst 1, .iadd, .iaload] (by decide +kernel) (show aok 74 0 (((Int32.ofInt 4) * x2) + (Int32.ofInt 1)) ∧ Wp E d 92 33 [.ref 74, .int x2, .int x3, .int (M 74 ((((Int32.ofInt 4) * x2) + (Int32.ofInt 2)).toNatClampNeg))] [.int (M 74 ((((Int32.ofInt 4) * x2) + (Int32.ofInt 1)).toNatClampNeg))] M L Q from ⟨⟨rfl, (o_4 c_1 c_2)⟩, ?_⟩)
      refine wp_seg (pc' := 61) [.goto 0] (by decide +kernel) (?_ : Wp E d 92 61 [.ref 74, .int x2, .int x3, .int (M 74 ((((Int32.ofInt 4) * x2) + (Int32.ofInt 2)).toNatClampNeg))] [.int (M 74 ((((Int32.ofInt 4) * x2) + (Int32.ofInt 1)).toNatClampNeg))] M L Q)
      exact wp_iret (by decide +kernel) rfl (by rw [f_L_leads, if_neg c_1, if_pos c_2] at hQ; exact hQ)
  · refine wp_seg (pc' := 61) [.iconst (-1), .goto 0] (by decide +kernel) (?_ : Wp E d 92 61 [.ref 74, .int x2, .int x3, .int (M 74 ((((Int32.ofInt 4) * x2) + (Int32.ofInt 2)).toNatClampNeg))] [.int (Int32.ofInt (-1))] M L Q)
    exact wp_iret (by decide +kernel) rfl (by rw [f_L_leads, if_pos c_1] at hQ; exact hQ)

def PL_L_house_166 (sc : SCT) (K : Int32 → Mem → LMem → Prop) (C_26 : Int32 → Int32 → Int32 → Int32 → Int32 → Mem → LMem → Prop) : Nat → Int32 → Int32 → Int32 → Int32 → Int32 → Int32 → Mem → LMem → Prop
  | 0, _, _, _, _, _, _, _, _ => False
  | n_ + 1, v2, v3, v5, v6, v7, v8, M, L => P_X9_say ((Int32.ofInt 65) + v8) M L (fun v_29 M_27 L_28 => ((v_29 = (((Int32.ofInt 4) * v7) + (Int32.ofInt 1)) → (vp_in (((Int32.ofInt 4) * v7) + (Int32.ofInt 2)) 48 ∧ P_X9_say (f_L_sign M_27 (M_27 74 ((((Int32.ofInt 4) * v7) + (Int32.ofInt 2)).toNatClampNeg))) M_27 L_28 (fun v_34 M_32 L_33 => ((v_34 = (((Int32.ofInt 4) * v7) + (Int32.ofInt 2)) → (vp_in (((Int32.ofInt 4) * v7) + (Int32.ofInt 1)) 48 ∧ P_X9_say ((Int32.ofInt 65) + (M_32 74 ((((Int32.ofInt 4) * v7) + (Int32.ofInt 1)).toNatClampNeg))) M_32 L_33 (fun v_39 M_37 L_38 => ((v_39 = (((Int32.ofInt 4) * v7) + (Int32.ofInt 3)) → (vp_in (((Int32.ofInt 4) * v7) + (Int32.ofInt 3)) 48 ∧ P_X9_say ((Int32.ofInt 48) + (M_37 74 ((((Int32.ofInt 4) * v7) + (Int32.ofInt 3)).toNatClampNeg))) M_37 L_38 (fun v_44 M_42 L_43 => ((v_44 = (((Int32.ofInt 4) * v7) + (Int32.ofInt 4)) → C_26 v2 v3 (v5 &&& (Int32.ofInt 1)) v6 (v7 + Int32.ofInt 1) M_42 L_43) ∧ (¬ (v_44 = (((Int32.ofInt 4) * v7) + (Int32.ofInt 4))) → C_26 v2 v3 (v5 &&& (Int32.ofInt 0)) v6 (v7 + Int32.ofInt 1) M_42 L_43))))) ∧ (¬ (v_39 = (((Int32.ofInt 4) * v7) + (Int32.ofInt 3))) → C_26 v2 v3 (v5 &&& (Int32.ofInt 0)) v6 (v7 + Int32.ofInt 1) M_37 L_38))))) ∧ (¬ (v_34 = (((Int32.ofInt 4) * v7) + (Int32.ofInt 2))) → C_26 v2 v3 (v5 &&& (Int32.ofInt 0)) v6 (v7 + Int32.ofInt 1) M_32 L_33))))) ∧ (¬ (v_29 = (((Int32.ofInt 4) * v7) + (Int32.ofInt 1))) → C_26 v2 v3 (v5 &&& (Int32.ofInt 0)) v6 (v7 + Int32.ofInt 1) M_27 L_28)))
theorem tl_L_house_166 {E : VE} {sc : SCT} (hsc : SCE E sc) {d : Nat} {Q : QQ} {K : Int32 → Mem → LMem → Prop} {C_26 : Int32 → Int32 → Int32 → Int32 → Int32 → Mem → LMem → Prop} (hK : ∀ (v : Int32) (M : Mem) (L : LMem), K v M L → Q (some (.int v)) M L) (hC_26 : ∀ (v2 : Int32) (v3 : Int32) (v5 : Int32) (v6 : Int32) (v7 : Int32) (M : Mem) (L : LMem), C_26 v2 v3 v5 v6 v7 M L → Wp E (d + 5) 91 26 [.ref 0, .ref 75, .int v2, .int v3, .ref 74, .int v5, .int v6, .int v7, .null, .null] [] M L Q) : ∀ (n_ : Nat) (v2 : Int32) (v3 : Int32) (v5 : Int32) (v6 : Int32) (v7 : Int32) (v8 : Int32) (M : Mem) (L : LMem), PL_L_house_166 sc K C_26 n_ v2 v3 v5 v6 v7 v8 M L → Wp E (d + 5) 91 166 [.ref 0, .ref 75, .int v2, .int v3, .ref 74, .int v5, .int v6, .int v7, .int v8, .null] [] M L Q := by
  intro n_
  induction n_ with
  | zero => intro v2 v3 v5 v6 v7 v8 M L hP; exact False.elim hP
  | succ n_ ih =>
    intro v2 v3 v5 v6 v7 v8 M L hP
    unfold PL_L_house_166 at hP
    refine wp_seg (pc' := 174) [.iload 5, .aload 0, .iconst 65, .iload 8, .iadd] (by decide +kernel) (?_ : Wp E (d + 5) 91 174 [.ref 0, .ref 75, .int v2, .int v3, .ref 74, .int v5, .int v6, .int v7, .int v8, .null] [.int ((Int32.ofInt 65) + v8), .ref 0, .int v5] M L Q)
    refine wp_callV 60 0 [.int ((Int32.ofInt 65) + v8)] (i := 20) (by decide +kernel) (by decide +kernel) (by decide +kernel) (by decide +kernel) rfl rfl rfl (rest := [.int v5]) rfl rfl ?_
    refine t_X9_say hP (fun v_29 M_27 L_28 hP => ?_)
    show Wp E (d + 5) 91 177 [.ref 0, .ref 75, .int v2, .int v3, .ref 74, .int v5, .int v6, .int v7, .int v8, .null] [.int v_29, .int v5] M_27 L_28 Q
    refine wp_seg (pc' := 183) [.iconst 4, .iload 7, .imul, .iconst 1, .iadd] (by decide +kernel) (?_ : Wp E (d + 5) 91 183 [.ref 0, .ref 75, .int v2, .int v3, .ref 74, .int v5, .int v6, .int v7, .int v8, .null] [.int (((Int32.ofInt 4) * v7) + (Int32.ofInt 1)), .int v_29, .int v5] M_27 L_28 Q)
    refine wp_icmpne (off := 82) 265 (by decide +kernel) (by decide) (fun c_30 => ?_) (fun c_30 => ?_)
    · have hP := hP.2 c_30
      refine wp_seg (pc' := 26) [.iconst 0, .iand, .istore 5, .iinc 7 1, .goto 0] (by decide +kernel) (?_ : Wp E (d + 5) 91 26 [.ref 0, .ref 75, .int v2, .int v3, .ref 74, .int (v5 &&& (Int32.ofInt 0)), .int v6, .int (v7 + Int32.ofInt 1), .int v8, .null] [] M_27 L_28 Q)
      refine wp_drop (lo := [.ref 0, .ref 75, .int v2, .int v3, .ref 74, .int (v5 &&& (Int32.ofInt 0)), .int v6, .int (v7 + Int32.ofInt 1), .null, .null]) ⟨Or.inr rfl, Or.inr rfl, Or.inr rfl, Or.inr rfl, Or.inr rfl, Or.inr rfl, Or.inr rfl, Or.inr rfl, Or.inl rfl, Or.inl rfl, trivial⟩ ?_
      exact hC_26 v2 v3 (v5 &&& (Int32.ofInt 0)) v6 (v7 + Int32.ofInt 1) M_27 L_28 hP
    · have hP := hP.1 c_30
      obtain ⟨a_31, hP⟩ := hP
      refine wp_seg (pc' := 196) [.aload 0, .aload 4, .iconst 4, .iload 7, .imul, .iconst 2, .iadd, .iaload] (by decide +kernel) (show aok 74 0 (((Int32.ofInt 4) * v7) + (Int32.ofInt 2)) ∧ Wp E (d + 5) 91 196 [.ref 0, .ref 75, .int v2, .int v3, .ref 74, .int v5, .int v6, .int v7, .int v8, .null] [.int (M_27 74 ((((Int32.ofInt 4) * v7) + (Int32.ofInt 2)).toNatClampNeg)), .ref 0, .int v5] M_27 L_28 Q from ⟨⟨rfl, a_31⟩, ?_⟩)
      refine wp_callS 90 [.int (M_27 74 ((((Int32.ofInt 4) * v7) + (Int32.ofInt 2)).toNatClampNeg))] (i := 24) (by decide +kernel) (by decide +kernel) (by decide +kernel) rfl rfl rfl (rest := [.ref 0, .int v5]) rfl rfl ?_
      refine s_L_sign M_27 (M_27 74 ((((Int32.ofInt 4) * v7) + (Int32.ofInt 2)).toNatClampNeg))  ?_
      show Wp E (d + 5) 91 199 [.ref 0, .ref 75, .int v2, .int v3, .ref 74, .int v5, .int v6, .int v7, .int v8, .null] [.int (f_L_sign M_27 (M_27 74 ((((Int32.ofInt 4) * v7) + (Int32.ofInt 2)).toNatClampNeg))), .ref 0, .int v5] M_27 L_28 Q
      refine wp_callV 60 0 [.int (f_L_sign M_27 (M_27 74 ((((Int32.ofInt 4) * v7) + (Int32.ofInt 2)).toNatClampNeg)))] (i := 20) (by decide +kernel) (by decide +kernel) (by decide +kernel) (by decide +kernel) rfl rfl rfl (rest := [.int v5]) rfl rfl ?_
      refine t_X9_say hP (fun v_34 M_32 L_33 hP => ?_)
      show Wp E (d + 5) 91 202 [.ref 0, .ref 75, .int v2, .int v3, .ref 74, .int v5, .int v6, .int v7, .int v8, .null] [.int v_34, .int v5] M_32 L_33 Q
      refine wp_seg (pc' := 208) [.iconst 4, .iload 7, .imul, .iconst 2, .iadd] (by decide +kernel) (?_ : Wp E (d + 5) 91 208 [.ref 0, .ref 75, .int v2, .int v3, .ref 74, .int v5, .int v6, .int v7, .int v8, .null] [.int (((Int32.ofInt 4) * v7) + (Int32.ofInt 2)), .int v_34, .int v5] M_32 L_33 Q)
      refine wp_icmpne (off := 57) 265 (by decide +kernel) (by decide) (fun c_35 => ?_) (fun c_35 => ?_)
      · have hP := hP.2 c_35
        refine wp_seg (pc' := 26) [.iconst 0, .iand, .istore 5, .iinc 7 1, .goto 0] (by decide +kernel) (?_ : Wp E (d + 5) 91 26 [.ref 0, .ref 75, .int v2, .int v3, .ref 74, .int (v5 &&& (Int32.ofInt 0)), .int v6, .int (v7 + Int32.ofInt 1), .int v8, .null] [] M_32 L_33 Q)
        refine wp_drop (lo := [.ref 0, .ref 75, .int v2, .int v3, .ref 74, .int (v5 &&& (Int32.ofInt 0)), .int v6, .int (v7 + Int32.ofInt 1), .null, .null]) ⟨Or.inr rfl, Or.inr rfl, Or.inr rfl, Or.inr rfl, Or.inr rfl, Or.inr rfl, Or.inr rfl, Or.inr rfl, Or.inl rfl, Or.inl rfl, trivial⟩ ?_
        exact hC_26 v2 v3 (v5 &&& (Int32.ofInt 0)) v6 (v7 + Int32.ofInt 1) M_32 L_33 hP
      · have hP := hP.1 c_35
        obtain ⟨a_36, hP⟩ := hP
        refine wp_seg (pc' := 223) [.aload 0, .iconst 65, .aload 4, .iconst 4, .iload 7, .imul, .iconst 1, .iadd, .iaload] (by decide +kernel) (show aok 74 0 (((Int32.ofInt 4) * v7) + (Int32.ofInt 1)) ∧ Wp E (d + 5) 91 223 [.ref 0, .ref 75, .int v2, .int v3, .ref 74, .int v5, .int v6, .int v7, .int v8, .null] [.int (M_32 74 ((((Int32.ofInt 4) * v7) + (Int32.ofInt 1)).toNatClampNeg)), .int (Int32.ofInt 65), .ref 0, .int v5] M_32 L_33 Q from ⟨⟨rfl, a_36⟩, ?_⟩)
        refine wp_seg (pc' := 224) [.iadd] (by decide +kernel) (?_ : Wp E (d + 5) 91 224 [.ref 0, .ref 75, .int v2, .int v3, .ref 74, .int v5, .int v6, .int v7, .int v8, .null] [.int ((Int32.ofInt 65) + (M_32 74 ((((Int32.ofInt 4) * v7) + (Int32.ofInt 1)).toNatClampNeg))), .ref 0, .int v5] M_32 L_33 Q)
        refine wp_callV 60 0 [.int ((Int32.ofInt 65) + (M_32 74 ((((Int32.ofInt 4) * v7) + (Int32.ofInt 1)).toNatClampNeg)))] (i := 20) (by decide +kernel) (by decide +kernel) (by decide +kernel) (by decide +kernel) rfl rfl rfl (rest := [.int v5]) rfl rfl ?_
        refine t_X9_say hP (fun v_39 M_37 L_38 hP => ?_)
        show Wp E (d + 5) 91 227 [.ref 0, .ref 75, .int v2, .int v3, .ref 74, .int v5, .int v6, .int v7, .int v8, .null] [.int v_39, .int v5] M_37 L_38 Q
        refine wp_seg (pc' := 233) [.iconst 4, .iload 7, .imul, .iconst 3, .iadd] (by decide +kernel) (?_ : Wp E (d + 5) 91 233 [.ref 0, .ref 75, .int v2, .int v3, .ref 74, .int v5, .int v6, .int v7, .int v8, .null] [.int (((Int32.ofInt 4) * v7) + (Int32.ofInt 3)), .int v_39, .int v5] M_37 L_38 Q)
        refine wp_icmpne (off := 32) 265 (by decide +kernel) (by decide) (fun c_40 => ?_) (fun c_40 => ?_)
        · have hP := hP.2 c_40
          refine wp_seg (pc' := 26) [.iconst 0, .iand, .istore 5, .iinc 7 1, .goto 0] (by decide +kernel) (?_ : Wp E (d + 5) 91 26 [.ref 0, .ref 75, .int v2, .int v3, .ref 74, .int (v5 &&& (Int32.ofInt 0)), .int v6, .int (v7 + Int32.ofInt 1), .int v8, .null] [] M_37 L_38 Q)
          refine wp_drop (lo := [.ref 0, .ref 75, .int v2, .int v3, .ref 74, .int (v5 &&& (Int32.ofInt 0)), .int v6, .int (v7 + Int32.ofInt 1), .null, .null]) ⟨Or.inr rfl, Or.inr rfl, Or.inr rfl, Or.inr rfl, Or.inr rfl, Or.inr rfl, Or.inr rfl, Or.inr rfl, Or.inl rfl, Or.inl rfl, trivial⟩ ?_
          exact hC_26 v2 v3 (v5 &&& (Int32.ofInt 0)) v6 (v7 + Int32.ofInt 1) M_37 L_38 hP
        · have hP := hP.1 c_40
          obtain ⟨a_41, hP⟩ := hP
          refine wp_seg (pc' := 248) [.aload 0, .iconst 48, .aload 4, .iconst 4, .iload 7, .imul, .iconst 3, .iadd, .iaload] (by decide +kernel) (show aok 74 0 (((Int32.ofInt 4) * v7) + (Int32.ofInt 3)) ∧ Wp E (d + 5) 91 248 [.ref 0, .ref 75, .int v2, .int v3, .ref 74, .int v5, .int v6, .int v7, .int v8, .null] [.int (M_37 74 ((((Int32.ofInt 4) * v7) + (Int32.ofInt 3)).toNatClampNeg)), .int (Int32.ofInt 48), .ref 0, .int v5] M_37 L_38 Q from ⟨⟨rfl, a_41⟩, ?_⟩)
          refine wp_seg (pc' := 249) [.iadd] (by decide +kernel) (?_ : Wp E (d + 5) 91 249 [.ref 0, .ref 75, .int v2, .int v3, .ref 74, .int v5, .int v6, .int v7, .int v8, .null] [.int ((Int32.ofInt 48) + (M_37 74 ((((Int32.ofInt 4) * v7) + (Int32.ofInt 3)).toNatClampNeg))), .ref 0, .int v5] M_37 L_38 Q)
          refine wp_callV 60 0 [.int ((Int32.ofInt 48) + (M_37 74 ((((Int32.ofInt 4) * v7) + (Int32.ofInt 3)).toNatClampNeg)))] (i := 20) (by decide +kernel) (by decide +kernel) (by decide +kernel) (by decide +kernel) rfl rfl rfl (rest := [.int v5]) rfl rfl ?_
          refine t_X9_say hP (fun v_44 M_42 L_43 hP => ?_)
          show Wp E (d + 5) 91 252 [.ref 0, .ref 75, .int v2, .int v3, .ref 74, .int v5, .int v6, .int v7, .int v8, .null] [.int v_44, .int v5] M_42 L_43 Q
          refine wp_seg (pc' := 258) [.iconst 4, .iload 7, .imul, .iconst 4, .iadd] (by decide +kernel) (?_ : Wp E (d + 5) 91 258 [.ref 0, .ref 75, .int v2, .int v3, .ref 74, .int v5, .int v6, .int v7, .int v8, .null] [.int (((Int32.ofInt 4) * v7) + (Int32.ofInt 4)), .int v_44, .int v5] M_42 L_43 Q)
          refine wp_icmpne (off := 7) 265 (by decide +kernel) (by decide) (fun c_45 => ?_) (fun c_45 => ?_)
          · have hP := hP.2 c_45
            refine wp_seg (pc' := 26) [.iconst 0, .iand, .istore 5, .iinc 7 1, .goto 0] (by decide +kernel) (?_ : Wp E (d + 5) 91 26 [.ref 0, .ref 75, .int v2, .int v3, .ref 74, .int (v5 &&& (Int32.ofInt 0)), .int v6, .int (v7 + Int32.ofInt 1), .int v8, .null] [] M_42 L_43 Q)
            refine wp_drop (lo := [.ref 0, .ref 75, .int v2, .int v3, .ref 74, .int (v5 &&& (Int32.ofInt 0)), .int v6, .int (v7 + Int32.ofInt 1), .null, .null]) ⟨Or.inr rfl, Or.inr rfl, Or.inr rfl, Or.inr rfl, Or.inr rfl, Or.inr rfl, Or.inr rfl, Or.inr rfl, Or.inl rfl, Or.inl rfl, trivial⟩ ?_
            exact hC_26 v2 v3 (v5 &&& (Int32.ofInt 0)) v6 (v7 + Int32.ofInt 1) M_42 L_43 hP
          · have hP := hP.1 c_45
            refine wp_seg (pc' := 26) [.iconst 1, .goto 0, .iand, .istore 5, .iinc 7 1, .goto 0] (by decide +kernel) (?_ : Wp E (d + 5) 91 26 [.ref 0, .ref 75, .int v2, .int v3, .ref 74, .int (v5 &&& (Int32.ofInt 1)), .int v6, .int (v7 + Int32.ofInt 1), .int v8, .null] [] M_42 L_43 Q)
            refine wp_drop (lo := [.ref 0, .ref 75, .int v2, .int v3, .ref 74, .int (v5 &&& (Int32.ofInt 1)), .int v6, .int (v7 + Int32.ofInt 1), .null, .null]) ⟨Or.inr rfl, Or.inr rfl, Or.inr rfl, Or.inr rfl, Or.inr rfl, Or.inr rfl, Or.inr rfl, Or.inr rfl, Or.inl rfl, Or.inl rfl, trivial⟩ ?_
            exact hC_26 v2 v3 (v5 &&& (Int32.ofInt 1)) v6 (v7 + Int32.ofInt 1) M_42 L_43 hP
def PL_L_house_141 (sc : SCT) (K : Int32 → Mem → LMem → Prop) (C_26 : Int32 → Int32 → Int32 → Int32 → Int32 → Mem → LMem → Prop) : Nat → Int32 → Int32 → Int32 → Int32 → Int32 → Int32 → Mem → LMem → Prop
  | 0, _, _, _, _, _, _, _, _ => False
  | n_ + 1, v2, v3, v5, v6, v7, v8, M, L => (CellOK ((v2 + ((Int32.ofInt 4) * v7)) + (Int32.ofInt 4)) (Int32.ofInt 9) ∧ (vp_in (((Int32.ofInt 4) * v7) + (Int32.ofInt 3)) 48 ∧ PL_L_house_166 sc K C_26 100000 v2 v3 v5 v6 v7 v8 (mput M 74 ((((Int32.ofInt 4) * v7) + (Int32.ofInt 3)).toNatClampNeg) ((Int32.ofInt 1) + (f_L_cell sc ((v2 + ((Int32.ofInt 4) * v7)) + (Int32.ofInt 4)) (Int32.ofInt 9)))) L))
theorem tl_L_house_141 {E : VE} {sc : SCT} (hsc : SCE E sc) {d : Nat} {Q : QQ} {K : Int32 → Mem → LMem → Prop} {C_26 : Int32 → Int32 → Int32 → Int32 → Int32 → Mem → LMem → Prop} (hK : ∀ (v : Int32) (M : Mem) (L : LMem), K v M L → Q (some (.int v)) M L) (hC_26 : ∀ (v2 : Int32) (v3 : Int32) (v5 : Int32) (v6 : Int32) (v7 : Int32) (M : Mem) (L : LMem), C_26 v2 v3 v5 v6 v7 M L → Wp E (d + 5) 91 26 [.ref 0, .ref 75, .int v2, .int v3, .ref 74, .int v5, .int v6, .int v7, .null, .null] [] M L Q) : ∀ (n_ : Nat) (v2 : Int32) (v3 : Int32) (v5 : Int32) (v6 : Int32) (v7 : Int32) (v8 : Int32) (M : Mem) (L : LMem), PL_L_house_141 sc K C_26 n_ v2 v3 v5 v6 v7 v8 M L → Wp E (d + 5) 91 141 [.ref 0, .ref 75, .int v2, .int v3, .ref 74, .int v5, .int v6, .int v7, .int v8, .null] [] M L Q := by
  intro n_
  induction n_ with
  | zero => intro v2 v3 v5 v6 v7 v8 M L hP; exact False.elim hP
  | succ n_ ih =>
    intro v2 v3 v5 v6 v7 v8 M L hP
    unfold PL_L_house_141 at hP
    refine wp_seg (pc' := 161) [.aload 4, .iconst 4, .iload 7, .imul, .iconst 3, .iadd, .iconst 1, .aload 1, .iload 2, .iconst 4, .iload 7, .imul, .iadd, .iconst 4, .iadd, .iconst 9] (by decide +kernel) (?_ : Wp E (d + 5) 91 161 [.ref 0, .ref 75, .int v2, .int v3, .ref 74, .int v5, .int v6, .int v7, .int v8, .null] [.int (Int32.ofInt 9), .int ((v2 + ((Int32.ofInt 4) * v7)) + (Int32.ofInt 4)), .ref 75, .int (Int32.ofInt 1), .int (((Int32.ofInt 4) * v7) + (Int32.ofInt 3)), .ref 74] M L Q)
    refine wp_callS 89 [.ref 75, .int ((v2 + ((Int32.ofInt 4) * v7)) + (Int32.ofInt 4)), .int (Int32.ofInt 9)] (i := 14) (by decide +kernel) (by decide +kernel) (by decide +kernel) rfl rfl rfl (rest := [.int (Int32.ofInt 1), .int (((Int32.ofInt 4) * v7) + (Int32.ofInt 3)), .ref 74]) rfl rfl ?_
    obtain ⟨a_25, hP⟩ := hP
    refine s_L_cell hsc ((v2 + ((Int32.ofInt 4) * v7)) + (Int32.ofInt 4)) (Int32.ofInt 9) a_25 ?_
    show Wp E (d + 5) 91 164 [.ref 0, .ref 75, .int v2, .int v3, .ref 74, .int v5, .int v6, .int v7, .int v8, .null] [.int (f_L_cell sc ((v2 + ((Int32.ofInt 4) * v7)) + (Int32.ofInt 4)) (Int32.ofInt 9)), .int (Int32.ofInt 1), .int (((Int32.ofInt 4) * v7) + (Int32.ofInt 3)), .ref 74] M L Q
    obtain ⟨a_26, hP⟩ := hP
    refine wp_seg (pc' := 166) [.iadd, .iastore] (by decide +kernel) (show aok 74 0 (((Int32.ofInt 4) * v7) + (Int32.ofInt 3)) ∧ Wp E (d + 5) 91 166 [.ref 0, .ref 75, .int v2, .int v3, .ref 74, .int v5, .int v6, .int v7, .int v8, .null] [] (mput M 74 ((((Int32.ofInt 4) * v7) + (Int32.ofInt 3)).toNatClampNeg) ((Int32.ofInt 1) + (f_L_cell sc ((v2 + ((Int32.ofInt 4) * v7)) + (Int32.ofInt 4)) (Int32.ofInt 9)))) L Q from ⟨⟨rfl, a_26⟩, ?_⟩)
    exact tl_L_house_166 hsc hK hC_26 100000 v2 v3 v5 v6 v7 v8 (mput M 74 ((((Int32.ofInt 4) * v7) + (Int32.ofInt 3)).toNatClampNeg) ((Int32.ofInt 1) + (f_L_cell sc ((v2 + ((Int32.ofInt 4) * v7)) + (Int32.ofInt 4)) (Int32.ofInt 9)))) L hP
def PL_L_house_99 (sc : SCT) (K : Int32 → Mem → LMem → Prop) (C_26 : Int32 → Int32 → Int32 → Int32 → Int32 → Mem → LMem → Prop) : Nat → Int32 → Int32 → Int32 → Int32 → Int32 → Int32 → Mem → LMem → Prop
  | 0, _, _, _, _, _, _, _, _ => False
  | n_ + 1, v2, v3, v5, v6, v7, v8, M, L => (CellOK ((v2 + ((Int32.ofInt 4) * v7)) + (Int32.ofInt 3)) (Int32.ofInt 2) ∧ (((f_L_cell sc ((v2 + ((Int32.ofInt 4) * v7)) + (Int32.ofInt 3)) (Int32.ofInt 2)) = 0 → (vp_in (((Int32.ofInt 4) * v7) + (Int32.ofInt 2)) 48 ∧ PL_L_house_141 sc K C_26 100000 v2 v3 v5 v6 v7 v8 (mput M 74 ((((Int32.ofInt 4) * v7) + (Int32.ofInt 2)).toNatClampNeg) (Int32.ofInt 0)) L)) ∧ (¬ ((f_L_cell sc ((v2 + ((Int32.ofInt 4) * v7)) + (Int32.ofInt 3)) (Int32.ofInt 2)) = 0) → (CellOK ((v2 + ((Int32.ofInt 4) * v7)) + (Int32.ofInt 4)) (Int32.ofInt 5) ∧ (vp_in (((Int32.ofInt 4) * v7) + (Int32.ofInt 2)) 48 ∧ PL_L_house_141 sc K C_26 100000 v2 v3 v5 v6 v7 v8 (mput M 74 ((((Int32.ofInt 4) * v7) + (Int32.ofInt 2)).toNatClampNeg) (f_L_cell sc ((v2 + ((Int32.ofInt 4) * v7)) + (Int32.ofInt 4)) (Int32.ofInt 5))) L)))))
theorem tl_L_house_99 {E : VE} {sc : SCT} (hsc : SCE E sc) {d : Nat} {Q : QQ} {K : Int32 → Mem → LMem → Prop} {C_26 : Int32 → Int32 → Int32 → Int32 → Int32 → Mem → LMem → Prop} (hK : ∀ (v : Int32) (M : Mem) (L : LMem), K v M L → Q (some (.int v)) M L) (hC_26 : ∀ (v2 : Int32) (v3 : Int32) (v5 : Int32) (v6 : Int32) (v7 : Int32) (M : Mem) (L : LMem), C_26 v2 v3 v5 v6 v7 M L → Wp E (d + 5) 91 26 [.ref 0, .ref 75, .int v2, .int v3, .ref 74, .int v5, .int v6, .int v7, .null, .null] [] M L Q) : ∀ (n_ : Nat) (v2 : Int32) (v3 : Int32) (v5 : Int32) (v6 : Int32) (v7 : Int32) (v8 : Int32) (M : Mem) (L : LMem), PL_L_house_99 sc K C_26 n_ v2 v3 v5 v6 v7 v8 M L → Wp E (d + 5) 91 99 [.ref 0, .ref 75, .int v2, .int v3, .ref 74, .int v5, .int v6, .int v7, .int v8, .null] [] M L Q := by
  intro n_
  induction n_ with
  | zero => intro v2 v3 v5 v6 v7 v8 M L hP; exact False.elim hP
  | succ n_ ih =>
    intro v2 v3 v5 v6 v7 v8 M L hP
    unfold PL_L_house_99 at hP
    refine wp_seg (pc' := 117) [.aload 4, .iconst 4, .iload 7, .imul, .iconst 2, .iadd, .aload 1, .iload 2, .iconst 4, .iload 7, .imul, .iadd, .iconst 3, .iadd, .iconst 2] (by decide +kernel) (?_ : Wp E (d + 5) 91 117 [.ref 0, .ref 75, .int v2, .int v3, .ref 74, .int v5, .int v6, .int v7, .int v8, .null] [.int (Int32.ofInt 2), .int ((v2 + ((Int32.ofInt 4) * v7)) + (Int32.ofInt 3)), .ref 75, .int (((Int32.ofInt 4) * v7) + (Int32.ofInt 2)), .ref 74] M L Q)
    refine wp_callS 89 [.ref 75, .int ((v2 + ((Int32.ofInt 4) * v7)) + (Int32.ofInt 3)), .int (Int32.ofInt 2)] (i := 14) (by decide +kernel) (by decide +kernel) (by decide +kernel) rfl rfl rfl (rest := [.int (((Int32.ofInt 4) * v7) + (Int32.ofInt 2)), .ref 74]) rfl rfl ?_
    obtain ⟨a_21, hP⟩ := hP
    refine s_L_cell hsc ((v2 + ((Int32.ofInt 4) * v7)) + (Int32.ofInt 3)) (Int32.ofInt 2) a_21 ?_
    show Wp E (d + 5) 91 120 [.ref 0, .ref 75, .int v2, .int v3, .ref 74, .int v5, .int v6, .int v7, .int v8, .null] [.int (f_L_cell sc ((v2 + ((Int32.ofInt 4) * v7)) + (Int32.ofInt 3)) (Int32.ofInt 2)), .int (((Int32.ofInt 4) * v7) + (Int32.ofInt 2)), .ref 74] M L Q
    refine wp_ifne (off := 7) 127 (by decide +kernel) (by decide) (fun c_22 => ?_) (fun c_22 => ?_)
    · have hP := hP.2 c_22
      refine wp_seg (pc' := 137) [.aload 1, .iload 2, .iconst 4, .iload 7, .imul, .iadd, .iconst 4, .iadd, .iconst 5] (by decide +kernel) (?_ : Wp E (d + 5) 91 137 [.ref 0, .ref 75, .int v2, .int v3, .ref 74, .int v5, .int v6, .int v7, .int v8, .null] [.int (Int32.ofInt 5), .int ((v2 + ((Int32.ofInt 4) * v7)) + (Int32.ofInt 4)), .ref 75, .int (((Int32.ofInt 4) * v7) + (Int32.ofInt 2)), .ref 74] M L Q)
      refine wp_callS 89 [.ref 75, .int ((v2 + ((Int32.ofInt 4) * v7)) + (Int32.ofInt 4)), .int (Int32.ofInt 5)] (i := 14) (by decide +kernel) (by decide +kernel) (by decide +kernel) rfl rfl rfl (rest := [.int (((Int32.ofInt 4) * v7) + (Int32.ofInt 2)), .ref 74]) rfl rfl ?_
      obtain ⟨a_23, hP⟩ := hP
      refine s_L_cell hsc ((v2 + ((Int32.ofInt 4) * v7)) + (Int32.ofInt 4)) (Int32.ofInt 5) a_23 ?_
      show Wp E (d + 5) 91 140 [.ref 0, .ref 75, .int v2, .int v3, .ref 74, .int v5, .int v6, .int v7, .int v8, .null] [.int (f_L_cell sc ((v2 + ((Int32.ofInt 4) * v7)) + (Int32.ofInt 4)) (Int32.ofInt 5)), .int (((Int32.ofInt 4) * v7) + (Int32.ofInt 2)), .ref 74] M L Q
      obtain ⟨a_24, hP⟩ := hP
      refine wp_seg (pc' := 141) [.iastore] (by decide +kernel) (show aok 74 0 (((Int32.ofInt 4) * v7) + (Int32.ofInt 2)) ∧ Wp E (d + 5) 91 141 [.ref 0, .ref 75, .int v2, .int v3, .ref 74, .int v5, .int v6, .int v7, .int v8, .null] [] (mput M 74 ((((Int32.ofInt 4) * v7) + (Int32.ofInt 2)).toNatClampNeg) (f_L_cell sc ((v2 + ((Int32.ofInt 4) * v7)) + (Int32.ofInt 4)) (Int32.ofInt 5))) L Q from ⟨⟨rfl, a_24⟩, ?_⟩)
      exact tl_L_house_141 hsc hK hC_26 100000 v2 v3 v5 v6 v7 v8 (mput M 74 ((((Int32.ofInt 4) * v7) + (Int32.ofInt 2)).toNatClampNeg) (f_L_cell sc ((v2 + ((Int32.ofInt 4) * v7)) + (Int32.ofInt 4)) (Int32.ofInt 5))) L hP
    · have hP := hP.1 c_22
      obtain ⟨a_46, hP⟩ := hP
      refine wp_seg (pc' := 141) [.iconst 0, .goto 0, .iastore] (by decide +kernel) (show aok 74 0 (((Int32.ofInt 4) * v7) + (Int32.ofInt 2)) ∧ Wp E (d + 5) 91 141 [.ref 0, .ref 75, .int v2, .int v3, .ref 74, .int v5, .int v6, .int v7, .int v8, .null] [] (mput M 74 ((((Int32.ofInt 4) * v7) + (Int32.ofInt 2)).toNatClampNeg) (Int32.ofInt 0)) L Q from ⟨⟨rfl, a_46⟩, ?_⟩)
      exact tl_L_house_141 hsc hK hC_26 100000 v2 v3 v5 v6 v7 v8 (mput M 74 ((((Int32.ofInt 4) * v7) + (Int32.ofInt 2)).toNatClampNeg) (Int32.ofInt 0)) L hP
def PL_L_house_26 (sc : SCT) (K : Int32 → Mem → LMem → Prop)  : Nat → Int32 → Int32 → Int32 → Int32 → Int32 → Mem → LMem → Prop
  | 0, _, _, _, _, _, _, _ => False
  | n_ + 1, v2, v3, v5, v6, v7, M, L => ((v6 ≤ v7 → ((v5 = 0 → K (Int32.ofInt (-1)) M L) ∧ (¬ (v5 = 0) → P_X9_fault (Int32.ofInt 0) M L (fun v_10 M_8 L_9 => ((v_10 = (Int32.ofInt (-6)) → P_X9_house M_8 L_9 (fun v_14 M_12 L_13 => ((v_14 = v6 → K v6 M_12 L_13) ∧ (¬ (v_14 = v6) → K (Int32.ofInt (-1)) M_12 L_13)))) ∧ (¬ (v_10 = (Int32.ofInt (-6))) → K (Int32.ofInt (-1)) M_8 L_9)))))) ∧ (¬ (v6 ≤ v7) → (CellOK ((v2 + ((Int32.ofInt 4) * v7)) + (Int32.ofInt 1)) v3 ∧ (CellOK ((v2 + ((Int32.ofInt 4) * v7)) + (Int32.ofInt 2)) v3 ∧ (vp_in ((Int32.ofInt 4) * v7) 48 ∧ (((f_L_cell sc ((v2 + ((Int32.ofInt 4) * v7)) + (Int32.ofInt 1)) v3) = (f_L_cell sc ((v2 + ((Int32.ofInt 4) * v7)) + (Int32.ofInt 2)) v3) → (¬ v3 = 0 ∧ (vp_in (((Int32.ofInt 4) * v7) + (Int32.ofInt 1)) 48 ∧ PL_L_house_99 sc K (PL_L_house_26 sc K n_) 100000 v2 v3 v5 v6 v7 (f_L_cell sc ((v2 + ((Int32.ofInt 4) * v7)) + (Int32.ofInt 1)) v3) (mput (mput M 74 (((Int32.ofInt 4) * v7).toNatClampNeg) (f_L_cell sc ((v2 + ((Int32.ofInt 4) * v7)) + (Int32.ofInt 1)) v3)) 74 ((((Int32.ofInt 4) * v7) + (Int32.ofInt 1)).toNatClampNeg) (((f_L_cell sc ((v2 + ((Int32.ofInt 4) * v7)) + (Int32.ofInt 2)) v3) + (Int32.ofInt 1)) - ((f_L_cell sc ((v2 + ((Int32.ofInt 4) * v7)) + (Int32.ofInt 2)) v3) + (Int32.ofInt 1)) / v3 * v3)) L))) ∧ (¬ ((f_L_cell sc ((v2 + ((Int32.ofInt 4) * v7)) + (Int32.ofInt 1)) v3) = (f_L_cell sc ((v2 + ((Int32.ofInt 4) * v7)) + (Int32.ofInt 2)) v3)) → (vp_in (((Int32.ofInt 4) * v7) + (Int32.ofInt 1)) 48 ∧ PL_L_house_99 sc K (PL_L_house_26 sc K n_) 100000 v2 v3 v5 v6 v7 (f_L_cell sc ((v2 + ((Int32.ofInt 4) * v7)) + (Int32.ofInt 1)) v3) (mput (mput M 74 (((Int32.ofInt 4) * v7).toNatClampNeg) (f_L_cell sc ((v2 + ((Int32.ofInt 4) * v7)) + (Int32.ofInt 1)) v3)) 74 ((((Int32.ofInt 4) * v7) + (Int32.ofInt 1)).toNatClampNeg) (f_L_cell sc ((v2 + ((Int32.ofInt 4) * v7)) + (Int32.ofInt 2)) v3)) L))))))))
theorem tl_L_house_26 {E : VE} {sc : SCT} (hsc : SCE E sc) {d : Nat} {Q : QQ} {K : Int32 → Mem → LMem → Prop}  (hK : ∀ (v : Int32) (M : Mem) (L : LMem), K v M L → Q (some (.int v)) M L)  : ∀ (n_ : Nat) (v2 : Int32) (v3 : Int32) (v5 : Int32) (v6 : Int32) (v7 : Int32) (M : Mem) (L : LMem), PL_L_house_26 sc K n_ v2 v3 v5 v6 v7 M L → Wp E (d + 5) 91 26 [.ref 0, .ref 75, .int v2, .int v3, .ref 74, .int v5, .int v6, .int v7, .null, .null] [] M L Q := by
  intro n_
  induction n_ with
  | zero => intro v2 v3 v5 v6 v7 M L hP; exact False.elim hP
  | succ n_ ih =>
    intro v2 v3 v5 v6 v7 M L hP
    unfold PL_L_house_26 at hP
    refine wp_seg (pc' := 30) [.iload 7, .iload 6] (by decide +kernel) (?_ : Wp E (d + 5) 91 30 [.ref 0, .ref 75, .int v2, .int v3, .ref 74, .int v5, .int v6, .int v7, .null, .null] [.int v6, .int v7] M L Q)
    refine wp_icmpge (off := 245) 275 (by decide +kernel) (by decide) (fun c_6 => ?_) (fun c_6 => ?_)
    · have hP := hP.1 c_6
      refine wp_seg (pc' := 277) [.iload 5] (by decide +kernel) (?_ : Wp E (d + 5) 91 277 [.ref 0, .ref 75, .int v2, .int v3, .ref 74, .int v5, .int v6, .int v7, .null, .null] [.int v5] M L Q)
      refine wp_ifeq (off := 27) 304 (by decide +kernel) (by decide) (fun c_7 => ?_) (fun c_7 => ?_)
      · have hP := hP.1 c_7
        refine wp_seg (pc' := 305) [.iconst (-1)] (by decide +kernel) (?_ : Wp E (d + 5) 91 305 [.ref 0, .ref 75, .int v2, .int v3, .ref 74, .int v5, .int v6, .int v7, .null, .null] [.int (Int32.ofInt (-1))] M L Q)
        exact wp_iret (by decide +kernel) rfl (hK _ _ _ hP)
      · have hP := hP.2 c_7
        refine wp_seg (pc' := 282) [.aload 0, .iconst 0] (by decide +kernel) (?_ : Wp E (d + 5) 91 282 [.ref 0, .ref 75, .int v2, .int v3, .ref 74, .int v5, .int v6, .int v7, .null, .null] [.int (Int32.ofInt 0), .ref 0] M L Q)
        refine wp_callV 62 0 [.int (Int32.ofInt 0)] (i := 27) (by decide +kernel) (by decide +kernel) (by decide +kernel) (by decide +kernel) rfl rfl rfl (rest := []) rfl rfl ?_
        refine t_X9_fault hP (fun v_10 M_8 L_9 hP => ?_)
        show Wp E (d + 5) 91 285 [.ref 0, .ref 75, .int v2, .int v3, .ref 74, .int v5, .int v6, .int v7, .null, .null] [.int v_10] M_8 L_9 Q
        refine wp_seg (pc' := 287) [.iconst (-6)] (by decide +kernel) (?_ : Wp E (d + 5) 91 287 [.ref 0, .ref 75, .int v2, .int v3, .ref 74, .int v5, .int v6, .int v7, .null, .null] [.int (Int32.ofInt (-6)), .int v_10] M_8 L_9 Q)
        refine wp_icmpne (off := 17) 304 (by decide +kernel) (by decide) (fun c_11 => ?_) (fun c_11 => ?_)
        · have hP := hP.2 c_11
          refine wp_seg (pc' := 305) [.iconst (-1)] (by decide +kernel) (?_ : Wp E (d + 5) 91 305 [.ref 0, .ref 75, .int v2, .int v3, .ref 74, .int v5, .int v6, .int v7, .null, .null] [.int (Int32.ofInt (-1))] M_8 L_9 Q)
          exact wp_iret (by decide +kernel) rfl (hK _ _ _ hP)
        · have hP := hP.1 c_11
          refine wp_seg (pc' := 291) [.aload 0] (by decide +kernel) (?_ : Wp E (d + 5) 91 291 [.ref 0, .ref 75, .int v2, .int v3, .ref 74, .int v5, .int v6, .int v7, .null, .null] [.ref 0] M_8 L_9 Q)
          refine wp_callV 63 0 [] (i := 30) (by decide +kernel) (by decide +kernel) (by decide +kernel) (by decide +kernel) rfl rfl rfl (rest := []) rfl rfl ?_
          refine t_X9_house hP (fun v_14 M_12 L_13 hP => ?_)
          show Wp E (d + 5) 91 294 [.ref 0, .ref 75, .int v2, .int v3, .ref 74, .int v5, .int v6, .int v7, .null, .null] [.int v_14] M_12 L_13 Q
          refine wp_seg (pc' := 296) [.iload 6] (by decide +kernel) (?_ : Wp E (d + 5) 91 296 [.ref 0, .ref 75, .int v2, .int v3, .ref 74, .int v5, .int v6, .int v7, .null, .null] [.int v6, .int v_14] M_12 L_13 Q)
          refine wp_icmpne (off := 8) 304 (by decide +kernel) (by decide) (fun c_15 => ?_) (fun c_15 => ?_)
          · have hP := hP.2 c_15
            refine wp_seg (pc' := 305) [.iconst (-1)] (by decide +kernel) (?_ : Wp E (d + 5) 91 305 [.ref 0, .ref 75, .int v2, .int v3, .ref 74, .int v5, .int v6, .int v7, .null, .null] [.int (Int32.ofInt (-1))] M_12 L_13 Q)
            exact wp_iret (by decide +kernel) rfl (hK _ _ _ hP)
          · have hP := hP.1 c_15
            refine wp_seg (pc' := 305) [.iload 6, .goto 0] (by decide +kernel) (?_ : Wp E (d + 5) 91 305 [.ref 0, .ref 75, .int v2, .int v3, .ref 74, .int v5, .int v6, .int v7, .null, .null] [.int v6] M_12 L_13 Q)
            exact wp_iret (by decide +kernel) rfl (hK _ _ _ hP)
    · have hP := hP.2 c_6
      refine wp_seg (pc' := 43) [.aload 1, .iload 2, .iconst 4, .iload 7, .imul, .iadd, .iconst 1, .iadd, .iload 3] (by decide +kernel) (?_ : Wp E (d + 5) 91 43 [.ref 0, .ref 75, .int v2, .int v3, .ref 74, .int v5, .int v6, .int v7, .null, .null] [.int v3, .int ((v2 + ((Int32.ofInt 4) * v7)) + (Int32.ofInt 1)), .ref 75] M L Q)
      refine wp_callS 89 [.ref 75, .int ((v2 + ((Int32.ofInt 4) * v7)) + (Int32.ofInt 1)), .int v3] (i := 14) (by decide +kernel) (by decide +kernel) (by decide +kernel) rfl rfl rfl (rest := []) rfl rfl ?_
      obtain ⟨a_16, hP⟩ := hP
      refine s_L_cell hsc ((v2 + ((Int32.ofInt 4) * v7)) + (Int32.ofInt 1)) v3 a_16 ?_
      show Wp E (d + 5) 91 46 [.ref 0, .ref 75, .int v2, .int v3, .ref 74, .int v5, .int v6, .int v7, .null, .null] [.int (f_L_cell sc ((v2 + ((Int32.ofInt 4) * v7)) + (Int32.ofInt 1)) v3)] M L Q
      refine wp_seg (pc' := 58) [.istore 8, .aload 1, .iload 2, .iconst 4, .iload 7, .imul, .iadd, .iconst 2, .iadd, .iload 3] (by decide +kernel) (?_ : Wp E (d + 5) 91 58 [.ref 0, .ref 75, .int v2, .int v3, .ref 74, .int v5, .int v6, .int v7, .int (f_L_cell sc ((v2 + ((Int32.ofInt 4) * v7)) + (Int32.ofInt 1)) v3), .null] [.int v3, .int ((v2 + ((Int32.ofInt 4) * v7)) + (Int32.ofInt 2)), .ref 75] M L Q)
      refine wp_callS 89 [.ref 75, .int ((v2 + ((Int32.ofInt 4) * v7)) + (Int32.ofInt 2)), .int v3] (i := 14) (by decide +kernel) (by decide +kernel) (by decide +kernel) rfl rfl rfl (rest := []) rfl rfl ?_
      obtain ⟨a_17, hP⟩ := hP
      refine s_L_cell hsc ((v2 + ((Int32.ofInt 4) * v7)) + (Int32.ofInt 2)) v3 a_17 ?_
      show Wp E (d + 5) 91 61 [.ref 0, .ref 75, .int v2, .int v3, .ref 74, .int v5, .int v6, .int v7, .int (f_L_cell sc ((v2 + ((Int32.ofInt 4) * v7)) + (Int32.ofInt 1)) v3), .null] [.int (f_L_cell sc ((v2 + ((Int32.ofInt 4) * v7)) + (Int32.ofInt 2)) v3)] M L Q
      obtain ⟨a_18, hP⟩ := hP
      refine wp_seg (pc' := 72) [.istore 9, .aload 4, .iconst 4, .iload 7, .imul, .iload 8, .iastore] (by decide +kernel) (show aok 74 0 ((Int32.ofInt 4) * v7) ∧ Wp E (d + 5) 91 72 [.ref 0, .ref 75, .int v2, .int v3, .ref 74, .int v5, .int v6, .int v7, .int (f_L_cell sc ((v2 + ((Int32.ofInt 4) * v7)) + (Int32.ofInt 1)) v3), .int (f_L_cell sc ((v2 + ((Int32.ofInt 4) * v7)) + (Int32.ofInt 2)) v3)] [] (mput M 74 (((Int32.ofInt 4) * v7).toNatClampNeg) (f_L_cell sc ((v2 + ((Int32.ofInt 4) * v7)) + (Int32.ofInt 1)) v3)) L Q from ⟨⟨rfl, a_18⟩, ?_⟩)
      refine wp_seg (pc' := 84) [.aload 4, .iconst 4, .iload 7, .imul, .iconst 1, .iadd, .iload 8, .iload 9] (by decide +kernel) (?_ : Wp E (d + 5) 91 84 [.ref 0, .ref 75, .int v2, .int v3, .ref 74, .int v5, .int v6, .int v7, .int (f_L_cell sc ((v2 + ((Int32.ofInt 4) * v7)) + (Int32.ofInt 1)) v3), .int (f_L_cell sc ((v2 + ((Int32.ofInt 4) * v7)) + (Int32.ofInt 2)) v3)] [.int (f_L_cell sc ((v2 + ((Int32.ofInt 4) * v7)) + (Int32.ofInt 2)) v3), .int (f_L_cell sc ((v2 + ((Int32.ofInt 4) * v7)) + (Int32.ofInt 1)) v3), .int (((Int32.ofInt 4) * v7) + (Int32.ofInt 1)), .ref 74] (mput M 74 (((Int32.ofInt 4) * v7).toNatClampNeg) (f_L_cell sc ((v2 + ((Int32.ofInt 4) * v7)) + (Int32.ofInt 1)) v3)) L Q)
      refine wp_icmpne (off := 12) 96 (by decide +kernel) (by decide) (fun c_19 => ?_) (fun c_19 => ?_)
      · have hP := hP.2 c_19
        obtain ⟨a_20, hP⟩ := hP
        refine wp_seg (pc' := 99) [.iload 9, .iastore] (by decide +kernel) (show aok 74 0 (((Int32.ofInt 4) * v7) + (Int32.ofInt 1)) ∧ Wp E (d + 5) 91 99 [.ref 0, .ref 75, .int v2, .int v3, .ref 74, .int v5, .int v6, .int v7, .int (f_L_cell sc ((v2 + ((Int32.ofInt 4) * v7)) + (Int32.ofInt 1)) v3), .int (f_L_cell sc ((v2 + ((Int32.ofInt 4) * v7)) + (Int32.ofInt 2)) v3)] [] (mput (mput M 74 (((Int32.ofInt 4) * v7).toNatClampNeg) (f_L_cell sc ((v2 + ((Int32.ofInt 4) * v7)) + (Int32.ofInt 1)) v3)) 74 ((((Int32.ofInt 4) * v7) + (Int32.ofInt 1)).toNatClampNeg) (f_L_cell sc ((v2 + ((Int32.ofInt 4) * v7)) + (Int32.ofInt 2)) v3)) L Q from ⟨⟨rfl, a_20⟩, ?_⟩)
        refine wp_drop (lo := [.ref 0, .ref 75, .int v2, .int v3, .ref 74, .int v5, .int v6, .int v7, .int (f_L_cell sc ((v2 + ((Int32.ofInt 4) * v7)) + (Int32.ofInt 1)) v3), .null]) ⟨Or.inr rfl, Or.inr rfl, Or.inr rfl, Or.inr rfl, Or.inr rfl, Or.inr rfl, Or.inr rfl, Or.inr rfl, Or.inr rfl, Or.inl rfl, trivial⟩ ?_
        exact tl_L_house_99 hsc hK (fun v2 v3 v5 v6 v7 M L hP => ih v2 v3 v5 v6 v7 M L hP) 100000 v2 v3 v5 v6 v7 (f_L_cell sc ((v2 + ((Int32.ofInt 4) * v7)) + (Int32.ofInt 1)) v3) (mput (mput M 74 (((Int32.ofInt 4) * v7).toNatClampNeg) (f_L_cell sc ((v2 + ((Int32.ofInt 4) * v7)) + (Int32.ofInt 1)) v3)) 74 ((((Int32.ofInt 4) * v7) + (Int32.ofInt 1)).toNatClampNeg) (f_L_cell sc ((v2 + ((Int32.ofInt 4) * v7)) + (Int32.ofInt 2)) v3)) L hP
      · have hP := hP.1 c_19
        obtain ⟨a_47, hP⟩ := hP
        refine wp_seg (pc' := 93) [.iload 9, .iconst 1, .iadd, .iload 3, .irem] (by decide +kernel) (show ¬ v3 = 0 ∧ Wp E (d + 5) 91 93 [.ref 0, .ref 75, .int v2, .int v3, .ref 74, .int v5, .int v6, .int v7, .int (f_L_cell sc ((v2 + ((Int32.ofInt 4) * v7)) + (Int32.ofInt 1)) v3), .int (f_L_cell sc ((v2 + ((Int32.ofInt 4) * v7)) + (Int32.ofInt 2)) v3)] [.int (((f_L_cell sc ((v2 + ((Int32.ofInt 4) * v7)) + (Int32.ofInt 2)) v3) + (Int32.ofInt 1)) - ((f_L_cell sc ((v2 + ((Int32.ofInt 4) * v7)) + (Int32.ofInt 2)) v3) + (Int32.ofInt 1)) / v3 * v3), .int (((Int32.ofInt 4) * v7) + (Int32.ofInt 1)), .ref 74] (mput M 74 (((Int32.ofInt 4) * v7).toNatClampNeg) (f_L_cell sc ((v2 + ((Int32.ofInt 4) * v7)) + (Int32.ofInt 1)) v3)) L Q from ⟨a_47, ?_⟩)
        obtain ⟨a_48, hP⟩ := hP
        refine wp_seg (pc' := 99) [.goto 0, .iastore] (by decide +kernel) (show aok 74 0 (((Int32.ofInt 4) * v7) + (Int32.ofInt 1)) ∧ Wp E (d + 5) 91 99 [.ref 0, .ref 75, .int v2, .int v3, .ref 74, .int v5, .int v6, .int v7, .int (f_L_cell sc ((v2 + ((Int32.ofInt 4) * v7)) + (Int32.ofInt 1)) v3), .int (f_L_cell sc ((v2 + ((Int32.ofInt 4) * v7)) + (Int32.ofInt 2)) v3)] [] (mput (mput M 74 (((Int32.ofInt 4) * v7).toNatClampNeg) (f_L_cell sc ((v2 + ((Int32.ofInt 4) * v7)) + (Int32.ofInt 1)) v3)) 74 ((((Int32.ofInt 4) * v7) + (Int32.ofInt 1)).toNatClampNeg) (((f_L_cell sc ((v2 + ((Int32.ofInt 4) * v7)) + (Int32.ofInt 2)) v3) + (Int32.ofInt 1)) - ((f_L_cell sc ((v2 + ((Int32.ofInt 4) * v7)) + (Int32.ofInt 2)) v3) + (Int32.ofInt 1)) / v3 * v3)) L Q from ⟨⟨rfl, a_48⟩, ?_⟩)
        refine wp_drop (lo := [.ref 0, .ref 75, .int v2, .int v3, .ref 74, .int v5, .int v6, .int v7, .int (f_L_cell sc ((v2 + ((Int32.ofInt 4) * v7)) + (Int32.ofInt 1)) v3), .null]) ⟨Or.inr rfl, Or.inr rfl, Or.inr rfl, Or.inr rfl, Or.inr rfl, Or.inr rfl, Or.inr rfl, Or.inr rfl, Or.inr rfl, Or.inl rfl, trivial⟩ ?_
        exact tl_L_house_99 hsc hK (fun v2 v3 v5 v6 v7 M L hP => ih v2 v3 v5 v6 v7 M L hP) 100000 v2 v3 v5 v6 v7 (f_L_cell sc ((v2 + ((Int32.ofInt 4) * v7)) + (Int32.ofInt 1)) v3) (mput (mput M 74 (((Int32.ofInt 4) * v7).toNatClampNeg) (f_L_cell sc ((v2 + ((Int32.ofInt 4) * v7)) + (Int32.ofInt 1)) v3)) 74 ((((Int32.ofInt 4) * v7) + (Int32.ofInt 1)).toNatClampNeg) (((f_L_cell sc ((v2 + ((Int32.ofInt 4) * v7)) + (Int32.ofInt 2)) v3) + (Int32.ofInt 1)) - ((f_L_cell sc ((v2 + ((Int32.ofInt 4) * v7)) + (Int32.ofInt 2)) v3) + (Int32.ofInt 1)) / v3 * v3)) L hP
def P_L_house (sc : SCT) (x3 : Int32) (x4 : Int32) (M : Mem) (L : LMem) (K : Int32 → Mem → LMem → Prop) : Prop := P_X9_wipe M L (fun v_3 M_1 L_2 => ((v_3 < 0 → (CellOK x3 (Int32.ofInt 13) ∧ PL_L_house_26 sc K 100000 x3 x4 (Int32.ofInt 0) (f_L_cell sc x3 (Int32.ofInt 13)) (Int32.ofInt 0) M_1 L_2)) ∧ (¬ (v_3 < 0) → (CellOK x3 (Int32.ofInt 13) ∧ PL_L_house_26 sc K 100000 x3 x4 (Int32.ofInt 1) (f_L_cell sc x3 (Int32.ofInt 13)) (Int32.ofInt 0) M_1 L_2))))
theorem t_L_house {E : VE} {sc : SCT} (hsc : SCE E sc) {d : Nat} {Q : QQ} {K : Int32 → Mem → LMem → Prop} {x3 : Int32} {x4 : Int32} {M : Mem} {L : LMem} (hP : P_L_house sc x3 x4 M L K) (hK : ∀ (v : Int32) (M : Mem) (L : LMem), K v M L → Q (some (.int v)) M L) : Wp E (d + 5) 91 0 [.ref 0, .ref 75, .int x3, .int x4, .ref 74, .null, .null, .null, .null, .null] [] M L Q := by
  unfold P_L_house at hP
  refine wp_seg (pc' := 1) [.aload 0] (by decide +kernel) (?_ : Wp E (d + 5) 91 1 [.ref 0, .ref 75, .int x3, .int x4, .ref 74, .null, .null, .null, .null, .null] [.ref 0] M L Q)
  refine wp_callV 61 0 [] (i := 8) (by decide +kernel) (by decide +kernel) (by decide +kernel) (by decide +kernel) rfl rfl rfl (rest := []) rfl rfl ?_
  refine t_X9_wipe hP (fun v_3 M_1 L_2 hP => ?_)
  show Wp E (d + 5) 91 4 [.ref 0, .ref 75, .int x3, .int x4, .ref 74, .null, .null, .null, .null, .null] [.int v_3] M_1 L_2 Q
  refine wp_iflt (off := 7) 11 (by decide +kernel) (by decide) (fun c_4 => ?_) (fun c_4 => ?_)
  · have hP := hP.1 c_4
    refine wp_seg (pc' := 18) [.iconst 0, .istore 5, .aload 1, .iload 2, .iconst 13] (by decide +kernel) (?_ : Wp E (d + 5) 91 18 [.ref 0, .ref 75, .int x3, .int x4, .ref 74, .int (Int32.ofInt 0), .null, .null, .null, .null] [.int (Int32.ofInt 13), .int x3, .ref 75] M_1 L_2 Q)
    refine wp_callS 89 [.ref 75, .int x3, .int (Int32.ofInt 13)] (i := 14) (by decide +kernel) (by decide +kernel) (by decide +kernel) rfl rfl rfl (rest := []) rfl rfl ?_
    obtain ⟨a_5, hP⟩ := hP
    refine s_L_cell hsc x3 (Int32.ofInt 13) a_5 ?_
    show Wp E (d + 5) 91 21 [.ref 0, .ref 75, .int x3, .int x4, .ref 74, .int (Int32.ofInt 0), .null, .null, .null, .null] [.int (f_L_cell sc x3 (Int32.ofInt 13))] M_1 L_2 Q
    refine wp_seg (pc' := 26) [.istore 6, .iconst 0, .istore 7] (by decide +kernel) (?_ : Wp E (d + 5) 91 26 [.ref 0, .ref 75, .int x3, .int x4, .ref 74, .int (Int32.ofInt 0), .int (f_L_cell sc x3 (Int32.ofInt 13)), .int (Int32.ofInt 0), .null, .null] [] M_1 L_2 Q)
    exact tl_L_house_26 hsc hK 100000 x3 x4 (Int32.ofInt 0) (f_L_cell sc x3 (Int32.ofInt 13)) (Int32.ofInt 0) M_1 L_2 hP
  · have hP := hP.2 c_4
    refine wp_seg (pc' := 18) [.iconst 1, .goto 0, .istore 5, .aload 1, .iload 2, .iconst 13] (by decide +kernel) (?_ : Wp E (d + 5) 91 18 [.ref 0, .ref 75, .int x3, .int x4, .ref 74, .int (Int32.ofInt 1), .null, .null, .null, .null] [.int (Int32.ofInt 13), .int x3, .ref 75] M_1 L_2 Q)
    refine wp_callS 89 [.ref 75, .int x3, .int (Int32.ofInt 13)] (i := 14) (by decide +kernel) (by decide +kernel) (by decide +kernel) rfl rfl rfl (rest := []) rfl rfl ?_
    obtain ⟨a_49, hP⟩ := hP
    refine s_L_cell hsc x3 (Int32.ofInt 13) a_49 ?_
    show Wp E (d + 5) 91 21 [.ref 0, .ref 75, .int x3, .int x4, .ref 74, .int (Int32.ofInt 1), .null, .null, .null, .null] [.int (f_L_cell sc x3 (Int32.ofInt 13))] M_1 L_2 Q
    refine wp_seg (pc' := 26) [.istore 6, .iconst 0, .istore 7] (by decide +kernel) (?_ : Wp E (d + 5) 91 26 [.ref 0, .ref 75, .int x3, .int x4, .ref 74, .int (Int32.ofInt 1), .int (f_L_cell sc x3 (Int32.ofInt 13)), .int (Int32.ofInt 0), .null, .null] [] M_1 L_2 Q)
    exact tl_L_house_26 hsc hK 100000 x3 x4 (Int32.ofInt 1) (f_L_cell sc x3 (Int32.ofInt 13)) (Int32.ofInt 0) M_1 L_2 hP
