def PL_L_law_1205 (sc : SCT) (K : Int32 → Mem → LMem → Prop)  : Nat → Int32 → Mem → LMem → Prop
  | 0, _, _, _ => False
  | n_ + 1, v3, M, L => P_X9_bridges M L (fun v_74 M_72 L_73 => (((v_74 >>> (v3 &&& 31)) = 0 → K (Int32.ofInt 1) M_72 L_73) ∧ (¬ ((v_74 >>> (v3 &&& 31)) = 0) → K (Int32.ofInt 0) M_72 L_73)))
theorem tl_L_law_1205 {E : VE} {sc : SCT} (hsc : SCE E sc) {K : Int32 → Mem → LMem → Prop}  (hK : ∀ (v : Int32) (M : Mem) (L : LMem), K v M L → v = 1)  : ∀ (n_ : Nat) (v3 : Int32) (M : Mem) (L : LMem), PL_L_law_1205 sc K n_ v3 M L → Wr E 1205 [.null, .ref 0, .null, .int v3, .null, .null, .null, .null, .null, .null, .null, .null, .null, .null, .null, .null, .null, .null, .null, .null, .null] [] M L := by
  intro n_
  induction n_ with
  | zero => intro v3 M L hP; exact False.elim hP
  | succ n_ ih =>
    intro v3 M L hP
    unfold PL_L_law_1205 at hP
    refine wr_seg (pc' := 1206) [.aload 1] (by decide +kernel) rfl (?_ : Wr E 1206 [.null, .ref 0, .null, .int v3, .null, .null, .null, .null, .null, .null, .null, .null, .null, .null, .null, .null, .null, .null, .null, .null, .null] [.ref 0] M L)
    refine wr_callV 81 0 [] (i := 98) (by decide +kernel) (by decide +kernel) (by decide +kernel) (by decide +kernel) rfl rfl rfl (rest := []) rfl rfl ?_
    refine t_X9_bridges hP (fun v_74 M_72 L_73 hP => ?_)
    show Wr E 1209 [.null, .ref 0, .null, .int v3, .null, .null, .null, .null, .null, .null, .null, .null, .null, .null, .null, .null, .null, .null, .null, .null, .null] [.int v_74] M_72 L_73
    refine wr_seg (pc' := 1211) [.iload 3, .ishr] (by decide +kernel) rfl (?_ : Wr E 1211 [.null, .ref 0, .null, .int v3, .null, .null, .null, .null, .null, .null, .null, .null, .null, .null, .null, .null, .null, .null, .null, .null, .null] [.int (v_74 >>> (v3 &&& 31))] M_72 L_73)
    refine wp_ifne (off := 7) 1218 (by decide +kernel) (by decide) (fun c_75 => ?_) (fun c_75 => ?_)
    · have hP := hP.2 c_75
      refine wr_seg (pc' := 1219) [.iconst 0] (by decide +kernel) rfl (?_ : Wr E 1219 [.null, .ref 0, .null, .int v3, .null, .null, .null, .null, .null, .null, .null, .null, .null, .null, .null, .null, .null, .null, .null, .null, .null] [.int (Int32.ofInt 0)] M_72 L_73)
      have hv := hK _ _ _ hP
      rw [hv]
      exact wr_ret (by decide +kernel)
    · have hP := hP.1 c_75
      refine wr_seg (pc' := 1219) [.iconst 1, .goto 0] (by decide +kernel) rfl (?_ : Wr E 1219 [.null, .ref 0, .null, .int v3, .null, .null, .null, .null, .null, .null, .null, .null, .null, .null, .null, .null, .null, .null, .null, .null, .null] [.int (Int32.ofInt 1)] M_72 L_73)
      have hv := hK _ _ _ hP
      rw [hv]
      exact wr_ret (by decide +kernel)
def PL_L_law_1195 (sc : SCT) (K : Int32 → Mem → LMem → Prop) (C_1071 : Int32 → Int32 → Int32 → Mem → LMem → Prop) : Nat → Int32 → Int32 → Int32 → Mem → LMem → Prop
  | 0, _, _, _, _, _ => False
  | n_ + 1, v3, v16, v20, M, L => C_1071 v3 v20 (v16 + Int32.ofInt 1) M L
theorem tl_L_law_1195 {E : VE} {sc : SCT} (hsc : SCE E sc) {K : Int32 → Mem → LMem → Prop} {C_1071 : Int32 → Int32 → Int32 → Mem → LMem → Prop} (hK : ∀ (v : Int32) (M : Mem) (L : LMem), K v M L → v = 1) (hC_1071 : ∀ (v3 : Int32) (v15 : Int32) (v16 : Int32) (M : Mem) (L : LMem), C_1071 v3 v15 v16 M L → Wr E 1071 [.ref 75, .ref 0, .null, .int v3, .null, .null, .null, .null, .null, .null, .null, .null, .null, .null, .null, .int v15, .int v16, .null, .null, .null, .null] [] M L) : ∀ (n_ : Nat) (v3 : Int32) (v16 : Int32) (v20 : Int32) (M : Mem) (L : LMem), PL_L_law_1195 sc K C_1071 n_ v3 v16 v20 M L → Wr E 1195 [.ref 75, .ref 0, .null, .int v3, .null, .null, .null, .null, .null, .null, .null, .null, .null, .null, .null, .null, .int v16, .null, .null, .null, .int v20] [] M L := by
  intro n_
  induction n_ with
  | zero => intro v3 v16 v20 M L hP; exact False.elim hP
  | succ n_ ih =>
    intro v3 v16 v20 M L hP
    unfold PL_L_law_1195 at hP
    refine wr_seg (pc' := 1071) [.iload 20, .istore 15, .iinc 16 1, .goto 0] (by decide +kernel) rfl (?_ : Wr E 1071 [.ref 75, .ref 0, .null, .int v3, .null, .null, .null, .null, .null, .null, .null, .null, .null, .null, .null, .int v20, .int (v16 + Int32.ofInt 1), .null, .null, .null, .int v20] [] M L)
    refine wp_drop (lo := [.ref 75, .ref 0, .null, .int v3, .null, .null, .null, .null, .null, .null, .null, .null, .null, .null, .null, .int v20, .int (v16 + Int32.ofInt 1), .null, .null, .null, .null]) ⟨Or.inr rfl, Or.inr rfl, Or.inl rfl, Or.inr rfl, Or.inl rfl, Or.inl rfl, Or.inl rfl, Or.inl rfl, Or.inl rfl, Or.inl rfl, Or.inl rfl, Or.inl rfl, Or.inl rfl, Or.inl rfl, Or.inl rfl, Or.inr rfl, Or.inr rfl, Or.inl rfl, Or.inl rfl, Or.inl rfl, Or.inl rfl, trivial⟩ ?_
    exact hC_1071 v3 v20 (v16 + Int32.ofInt 1) M L hP
def PL_L_law_1135 (sc : SCT) (K : Int32 → Mem → LMem → Prop) (C_1071 : Int32 → Int32 → Int32 → Mem → LMem → Prop) : Nat → Int32 → Int32 → Int32 → Int32 → Int32 → Mem → LMem → Prop
  | 0, _, _, _, _, _, _, _ => False
  | n_ + 1, v3, v15, v16, v18, v19, M, L => P_X9_stopped (Int32.ofInt 0) M L (fun v_90 M_88 L_89 => (((v_90 &&& (v15 ^^^ (Int32.ofInt (-1)))) = 0 → ((v_90 = v15 → K (Int32.ofInt 0) M_88 L_89) ∧ (¬ (v_90 = v15) → ((v_90 = 0 → K (Int32.ofInt 0) M_88 L_89) ∧ (¬ (v_90 = 0) → ((v19 < (Int32.ofInt 1) → K (Int32.ofInt 0) M_88 L_89) ∧ (¬ (v19 < (Int32.ofInt 1)) → ((v18 < 0 → PL_L_law_1195 sc K C_1071 100000 v3 v16 v_90 M_88 L_89) ∧ (¬ (v18 < 0) → P_X9_stopped (Int32.ofInt 2) M_88 L_89 (fun v_98 M_96 L_97 => ((v_98 < 0 → K (Int32.ofInt 0) M_96 L_97) ∧ (¬ (v_98 < 0) → P_X9_stopped (Int32.ofInt 2) M_96 L_97 (fun v_102 M_100 L_101 => ((v_102 ≤ v18 → PL_L_law_1195 sc K C_1071 100000 v3 v16 v_90 M_100 L_101) ∧ (¬ (v_102 ≤ v18) → K (Int32.ofInt 0) M_100 L_101))))))))))))))) ∧ (¬ ((v_90 &&& (v15 ^^^ (Int32.ofInt (-1)))) = 0) → K (Int32.ofInt 0) M_88 L_89)))
theorem tl_L_law_1135 {E : VE} {sc : SCT} (hsc : SCE E sc) {K : Int32 → Mem → LMem → Prop} {C_1071 : Int32 → Int32 → Int32 → Mem → LMem → Prop} (hK : ∀ (v : Int32) (M : Mem) (L : LMem), K v M L → v = 1) (hC_1071 : ∀ (v3 : Int32) (v15 : Int32) (v16 : Int32) (M : Mem) (L : LMem), C_1071 v3 v15 v16 M L → Wr E 1071 [.ref 75, .ref 0, .null, .int v3, .null, .null, .null, .null, .null, .null, .null, .null, .null, .null, .null, .int v15, .int v16, .null, .null, .null, .null] [] M L) : ∀ (n_ : Nat) (v3 : Int32) (v15 : Int32) (v16 : Int32) (v18 : Int32) (v19 : Int32) (M : Mem) (L : LMem), PL_L_law_1135 sc K C_1071 n_ v3 v15 v16 v18 v19 M L → Wr E 1135 [.ref 75, .ref 0, .null, .int v3, .null, .null, .null, .null, .null, .null, .null, .null, .null, .null, .null, .int v15, .int v16, .null, .int v18, .int v19, .null] [] M L := by
  intro n_
  induction n_ with
  | zero => intro v3 v15 v16 v18 v19 M L hP; exact False.elim hP
  | succ n_ ih =>
    intro v3 v15 v16 v18 v19 M L hP
    unfold PL_L_law_1135 at hP
    refine wr_seg (pc' := 1137) [.aload 1, .iconst 0] (by decide +kernel) rfl (?_ : Wr E 1137 [.ref 75, .ref 0, .null, .int v3, .null, .null, .null, .null, .null, .null, .null, .null, .null, .null, .null, .int v15, .int v16, .null, .int v18, .int v19, .null] [.int (Int32.ofInt 0), .ref 0] M L)
    refine wr_callV 78 0 [.int (Int32.ofInt 0)] (i := 91) (by decide +kernel) (by decide +kernel) (by decide +kernel) (by decide +kernel) rfl rfl rfl (rest := []) rfl rfl ?_
    refine t_X9_stopped hP (fun v_90 M_88 L_89 hP => ?_)
    show Wr E 1140 [.ref 75, .ref 0, .null, .int v3, .null, .null, .null, .null, .null, .null, .null, .null, .null, .null, .null, .int v15, .int v16, .null, .int v18, .int v19, .null] [.int v_90] M_88 L_89
    refine wr_seg (pc' := 1149) [.istore 20, .iload 20, .iload 15, .iconst (-1), .ixor, .iand] (by decide +kernel) rfl (?_ : Wr E 1149 [.ref 75, .ref 0, .null, .int v3, .null, .null, .null, .null, .null, .null, .null, .null, .null, .null, .null, .int v15, .int v16, .null, .int v18, .int v19, .int v_90] [.int (v_90 &&& (v15 ^^^ (Int32.ofInt (-1))))] M_88 L_89)
    refine wp_ifne (off := 44) 1193 (by decide +kernel) (by decide) (fun c_91 => ?_) (fun c_91 => ?_)
    · have hP := hP.2 c_91
      refine wr_seg (pc' := 1194) [.iconst 0] (by decide +kernel) rfl (?_ : Wr E 1194 [.ref 75, .ref 0, .null, .int v3, .null, .null, .null, .null, .null, .null, .null, .null, .null, .null, .null, .int v15, .int v16, .null, .int v18, .int v19, .int v_90] [.int (Int32.ofInt 0)] M_88 L_89)
      have hv := hK _ _ _ hP
      rw [hv]
      exact wr_ret (by decide +kernel)
    · have hP := hP.1 c_91
      refine wr_seg (pc' := 1156) [.iload 20, .iload 15] (by decide +kernel) rfl (?_ : Wr E 1156 [.ref 75, .ref 0, .null, .int v3, .null, .null, .null, .null, .null, .null, .null, .null, .null, .null, .null, .int v15, .int v16, .null, .int v18, .int v19, .int v_90] [.int v15, .int v_90] M_88 L_89)
      refine wp_icmpeq (off := 37) 1193 (by decide +kernel) (by decide) (fun c_92 => ?_) (fun c_92 => ?_)
      · have hP := hP.1 c_92
        refine wr_seg (pc' := 1194) [.iconst 0] (by decide +kernel) rfl (?_ : Wr E 1194 [.ref 75, .ref 0, .null, .int v3, .null, .null, .null, .null, .null, .null, .null, .null, .null, .null, .null, .int v15, .int v16, .null, .int v18, .int v19, .int v_90] [.int (Int32.ofInt 0)] M_88 L_89)
        have hv := hK _ _ _ hP
        rw [hv]
        exact wr_ret (by decide +kernel)
      · have hP := hP.2 c_92
        refine wr_seg (pc' := 1161) [.iload 20] (by decide +kernel) rfl (?_ : Wr E 1161 [.ref 75, .ref 0, .null, .int v3, .null, .null, .null, .null, .null, .null, .null, .null, .null, .null, .null, .int v15, .int v16, .null, .int v18, .int v19, .int v_90] [.int v_90] M_88 L_89)
        refine wp_ifeq (off := 32) 1193 (by decide +kernel) (by decide) (fun c_93 => ?_) (fun c_93 => ?_)
        · have hP := hP.1 c_93
          refine wr_seg (pc' := 1194) [.iconst 0] (by decide +kernel) rfl (?_ : Wr E 1194 [.ref 75, .ref 0, .null, .int v3, .null, .null, .null, .null, .null, .null, .null, .null, .null, .null, .null, .int v15, .int v16, .null, .int v18, .int v19, .int v_90] [.int (Int32.ofInt 0)] M_88 L_89)
          have hv := hK _ _ _ hP
          rw [hv]
          exact wr_ret (by decide +kernel)
        · have hP := hP.2 c_93
          refine wr_seg (pc' := 1167) [.iload 19, .iconst 1] (by decide +kernel) rfl (?_ : Wr E 1167 [.ref 75, .ref 0, .null, .int v3, .null, .null, .null, .null, .null, .null, .null, .null, .null, .null, .null, .int v15, .int v16, .null, .int v18, .int v19, .int v_90] [.int (Int32.ofInt 1), .int v19] M_88 L_89)
          refine wp_icmplt (off := 26) 1193 (by decide +kernel) (by decide) (fun c_94 => ?_) (fun c_94 => ?_)
          · have hP := hP.1 c_94
            refine wr_seg (pc' := 1194) [.iconst 0] (by decide +kernel) rfl (?_ : Wr E 1194 [.ref 75, .ref 0, .null, .int v3, .null, .null, .null, .null, .null, .null, .null, .null, .null, .null, .null, .int v15, .int v16, .null, .int v18, .int v19, .int v_90] [.int (Int32.ofInt 0)] M_88 L_89)
            have hv := hK _ _ _ hP
            rw [hv]
            exact wr_ret (by decide +kernel)
          · have hP := hP.2 c_94
            refine wr_seg (pc' := 1172) [.iload 18] (by decide +kernel) rfl (?_ : Wr E 1172 [.ref 75, .ref 0, .null, .int v3, .null, .null, .null, .null, .null, .null, .null, .null, .null, .null, .null, .int v15, .int v16, .null, .int v18, .int v19, .int v_90] [.int v18] M_88 L_89)
            refine wp_iflt (off := 23) 1195 (by decide +kernel) (by decide) (fun c_95 => ?_) (fun c_95 => ?_)
            · have hP := hP.1 c_95
              refine wp_drop (lo := [.ref 75, .ref 0, .null, .int v3, .null, .null, .null, .null, .null, .null, .null, .null, .null, .null, .null, .null, .int v16, .null, .null, .null, .int v_90]) ⟨Or.inr rfl, Or.inr rfl, Or.inl rfl, Or.inr rfl, Or.inl rfl, Or.inl rfl, Or.inl rfl, Or.inl rfl, Or.inl rfl, Or.inl rfl, Or.inl rfl, Or.inl rfl, Or.inl rfl, Or.inl rfl, Or.inl rfl, Or.inl rfl, Or.inr rfl, Or.inl rfl, Or.inl rfl, Or.inl rfl, Or.inr rfl, trivial⟩ ?_
              exact tl_L_law_1195 hsc hK hC_1071 100000 v3 v16 v_90 M_88 L_89 hP
            · have hP := hP.2 c_95
              refine wr_seg (pc' := 1177) [.aload 1, .iconst 2] (by decide +kernel) rfl (?_ : Wr E 1177 [.ref 75, .ref 0, .null, .int v3, .null, .null, .null, .null, .null, .null, .null, .null, .null, .null, .null, .int v15, .int v16, .null, .int v18, .int v19, .int v_90] [.int (Int32.ofInt 2), .ref 0] M_88 L_89)
              refine wr_callV 78 0 [.int (Int32.ofInt 2)] (i := 91) (by decide +kernel) (by decide +kernel) (by decide +kernel) (by decide +kernel) rfl rfl rfl (rest := []) rfl rfl ?_
              refine t_X9_stopped hP (fun v_98 M_96 L_97 hP => ?_)
              show Wr E 1180 [.ref 75, .ref 0, .null, .int v3, .null, .null, .null, .null, .null, .null, .null, .null, .null, .null, .null, .int v15, .int v16, .null, .int v18, .int v19, .int v_90] [.int v_98] M_96 L_97
              refine wp_iflt (off := 13) 1193 (by decide +kernel) (by decide) (fun c_99 => ?_) (fun c_99 => ?_)
              · have hP := hP.1 c_99
                refine wr_seg (pc' := 1194) [.iconst 0] (by decide +kernel) rfl (?_ : Wr E 1194 [.ref 75, .ref 0, .null, .int v3, .null, .null, .null, .null, .null, .null, .null, .null, .null, .null, .null, .int v15, .int v16, .null, .int v18, .int v19, .int v_90] [.int (Int32.ofInt 0)] M_96 L_97)
                have hv := hK _ _ _ hP
                rw [hv]
                exact wr_ret (by decide +kernel)
              · have hP := hP.2 c_99
                refine wr_seg (pc' := 1185) [.aload 1, .iconst 2] (by decide +kernel) rfl (?_ : Wr E 1185 [.ref 75, .ref 0, .null, .int v3, .null, .null, .null, .null, .null, .null, .null, .null, .null, .null, .null, .int v15, .int v16, .null, .int v18, .int v19, .int v_90] [.int (Int32.ofInt 2), .ref 0] M_96 L_97)
                refine wr_callV 78 0 [.int (Int32.ofInt 2)] (i := 91) (by decide +kernel) (by decide +kernel) (by decide +kernel) (by decide +kernel) rfl rfl rfl (rest := []) rfl rfl ?_
                refine t_X9_stopped hP (fun v_102 M_100 L_101 hP => ?_)
                show Wr E 1188 [.ref 75, .ref 0, .null, .int v3, .null, .null, .null, .null, .null, .null, .null, .null, .null, .null, .null, .int v15, .int v16, .null, .int v18, .int v19, .int v_90] [.int v_102] M_100 L_101
                refine wr_seg (pc' := 1190) [.iload 18] (by decide +kernel) rfl (?_ : Wr E 1190 [.ref 75, .ref 0, .null, .int v3, .null, .null, .null, .null, .null, .null, .null, .null, .null, .null, .null, .int v15, .int v16, .null, .int v18, .int v19, .int v_90] [.int v18, .int v_102] M_100 L_101)
                refine wp_icmple (off := 5) 1195 (by decide +kernel) (by decide) (fun c_103 => ?_) (fun c_103 => ?_)
                · have hP := hP.1 c_103
                  refine wp_drop (lo := [.ref 75, .ref 0, .null, .int v3, .null, .null, .null, .null, .null, .null, .null, .null, .null, .null, .null, .null, .int v16, .null, .null, .null, .int v_90]) ⟨Or.inr rfl, Or.inr rfl, Or.inl rfl, Or.inr rfl, Or.inl rfl, Or.inl rfl, Or.inl rfl, Or.inl rfl, Or.inl rfl, Or.inl rfl, Or.inl rfl, Or.inl rfl, Or.inl rfl, Or.inl rfl, Or.inl rfl, Or.inl rfl, Or.inr rfl, Or.inl rfl, Or.inl rfl, Or.inl rfl, Or.inr rfl, trivial⟩ ?_
                  exact tl_L_law_1195 hsc hK hC_1071 100000 v3 v16 v_90 M_100 L_101 hP
                · have hP := hP.2 c_103
                  refine wr_seg (pc' := 1194) [.iconst 0] (by decide +kernel) rfl (?_ : Wr E 1194 [.ref 75, .ref 0, .null, .int v3, .null, .null, .null, .null, .null, .null, .null, .null, .null, .null, .null, .int v15, .int v16, .null, .int v18, .int v19, .int v_90] [.int (Int32.ofInt 0)] M_100 L_101)
                  have hv := hK _ _ _ hP
                  rw [hv]
                  exact wr_ret (by decide +kernel)
def PL_L_law_1071 (sc : SCT) (K : Int32 → Mem → LMem → Prop)  : Nat → Int32 → Int32 → Int32 → Mem → LMem → Prop
  | 0, _, _, _, _, _ => False
  | n_ + 1, v3, v15, v16, M, L => (((Int32.ofInt 6) ≤ v16 → PL_L_law_1205 sc K 100000 v3 M L) ∧ (¬ ((Int32.ofInt 6) ≤ v16) → P_X9_stopped (Int32.ofInt 1) M L (fun v_78 M_76 L_77 => P_X9_stopped (Int32.ofInt 2) M_76 L_77 (fun v_81 M_79 L_80 => ((0 ≤ v_78 → (CellOK (v16 + (Int32.ofInt 160)) (Int32.ofInt 2) ∧ (((f_L_cell sc (v16 + (Int32.ofInt 160)) (Int32.ofInt 2)) = 0 → P_X9_tried (v_78 / (Int32.ofInt 10)) (v_78 - v_78 / (Int32.ofInt 10) * (Int32.ofInt 10)) (Int32.ofInt 1) M_79 L_80 (fun v_106 M_104 L_105 => PL_L_law_1135 sc K (PL_L_law_1071 sc K n_) 100000 v3 v15 v16 v_81 v_106 M_104 L_105)) ∧ (¬ ((f_L_cell sc (v16 + (Int32.ofInt 160)) (Int32.ofInt 2)) = 0) → P_X9_tried (v_78 / (Int32.ofInt 10)) (v_78 - v_78 / (Int32.ofInt 10) * (Int32.ofInt 10)) (Int32.ofInt 0) M_79 L_80 (fun v_87 M_85 L_86 => PL_L_law_1135 sc K (PL_L_law_1071 sc K n_) 100000 v3 v15 v16 v_81 v_87 M_85 L_86))))) ∧ (¬ (0 ≤ v_78) → PL_L_law_1205 sc K 100000 v3 M_79 L_80))))))
theorem tl_L_law_1071 {E : VE} {sc : SCT} (hsc : SCE E sc) {K : Int32 → Mem → LMem → Prop}  (hK : ∀ (v : Int32) (M : Mem) (L : LMem), K v M L → v = 1)  : ∀ (n_ : Nat) (v3 : Int32) (v15 : Int32) (v16 : Int32) (M : Mem) (L : LMem), PL_L_law_1071 sc K n_ v3 v15 v16 M L → Wr E 1071 [.ref 75, .ref 0, .null, .int v3, .null, .null, .null, .null, .null, .null, .null, .null, .null, .null, .null, .int v15, .int v16, .null, .null, .null, .null] [] M L := by
  intro n_
  induction n_ with
  | zero => intro v3 v15 v16 M L hP; exact False.elim hP
  | succ n_ ih =>
    intro v3 v15 v16 M L hP
    unfold PL_L_law_1071 at hP
    refine wr_seg (pc' := 1075) [.iload 16, .iconst 6] (by decide +kernel) rfl (?_ : Wr E 1075 [.ref 75, .ref 0, .null, .int v3, .null, .null, .null, .null, .null, .null, .null, .null, .null, .null, .null, .int v15, .int v16, .null, .null, .null, .null] [.int (Int32.ofInt 6), .int v16] M L)
    refine wp_icmpge (off := 130) 1205 (by decide +kernel) (by decide) (fun c_71 => ?_) (fun c_71 => ?_)
    · have hP := hP.1 c_71
      refine wp_drop (lo := [.null, .ref 0, .null, .int v3, .null, .null, .null, .null, .null, .null, .null, .null, .null, .null, .null, .null, .null, .null, .null, .null, .null]) ⟨Or.inl rfl, Or.inr rfl, Or.inl rfl, Or.inr rfl, Or.inl rfl, Or.inl rfl, Or.inl rfl, Or.inl rfl, Or.inl rfl, Or.inl rfl, Or.inl rfl, Or.inl rfl, Or.inl rfl, Or.inl rfl, Or.inl rfl, Or.inl rfl, Or.inl rfl, Or.inl rfl, Or.inl rfl, Or.inl rfl, Or.inl rfl, trivial⟩ ?_
      exact tl_L_law_1205 hsc hK 100000 v3 M L hP
    · have hP := hP.2 c_71
      refine wr_seg (pc' := 1080) [.aload 1, .iconst 1] (by decide +kernel) rfl (?_ : Wr E 1080 [.ref 75, .ref 0, .null, .int v3, .null, .null, .null, .null, .null, .null, .null, .null, .null, .null, .null, .int v15, .int v16, .null, .null, .null, .null] [.int (Int32.ofInt 1), .ref 0] M L)
      refine wr_callV 78 0 [.int (Int32.ofInt 1)] (i := 91) (by decide +kernel) (by decide +kernel) (by decide +kernel) (by decide +kernel) rfl rfl rfl (rest := []) rfl rfl ?_
      refine t_X9_stopped hP (fun v_78 M_76 L_77 hP => ?_)
      show Wr E 1083 [.ref 75, .ref 0, .null, .int v3, .null, .null, .null, .null, .null, .null, .null, .null, .null, .null, .null, .int v15, .int v16, .null, .null, .null, .null] [.int v_78] M_76 L_77
      refine wr_seg (pc' := 1087) [.istore 17, .aload 1, .iconst 2] (by decide +kernel) rfl (?_ : Wr E 1087 [.ref 75, .ref 0, .null, .int v3, .null, .null, .null, .null, .null, .null, .null, .null, .null, .null, .null, .int v15, .int v16, .int v_78, .null, .null, .null] [.int (Int32.ofInt 2), .ref 0] M_76 L_77)
      refine wr_callV 78 0 [.int (Int32.ofInt 2)] (i := 91) (by decide +kernel) (by decide +kernel) (by decide +kernel) (by decide +kernel) rfl rfl rfl (rest := []) rfl rfl ?_
      refine t_X9_stopped hP (fun v_81 M_79 L_80 hP => ?_)
      show Wr E 1090 [.ref 75, .ref 0, .null, .int v3, .null, .null, .null, .null, .null, .null, .null, .null, .null, .null, .null, .int v15, .int v16, .int v_78, .null, .null, .null] [.int v_81] M_79 L_80
      refine wr_seg (pc' := 1094) [.istore 18, .iload 17] (by decide +kernel) rfl (?_ : Wr E 1094 [.ref 75, .ref 0, .null, .int v3, .null, .null, .null, .null, .null, .null, .null, .null, .null, .null, .null, .int v15, .int v16, .int v_78, .int v_81, .null, .null] [.int v_78] M_79 L_80)
      refine wp_ifge (off := 6) 1100 (by decide +kernel) (by decide) (fun c_82 => ?_) (fun c_82 => ?_)
      · have hP := hP.1 c_82
        refine wr_seg (pc' := 1106) [.aload 1, .iload 17, .iconst 10, .idiv] (by decide +kernel) rfl (show ¬ (Int32.ofInt 10) = 0 ∧ Wr E 1106 [.ref 75, .ref 0, .null, .int v3, .null, .null, .null, .null, .null, .null, .null, .null, .null, .null, .null, .int v15, .int v16, .int v_78, .int v_81, .null, .null] [.int (v_78 / (Int32.ofInt 10)), .ref 0] M_79 L_80 from ⟨(by decide), ?_⟩)
        refine wr_seg (pc' := 1111) [.iload 17, .iconst 10, .irem] (by decide +kernel) rfl (show ¬ (Int32.ofInt 10) = 0 ∧ Wr E 1111 [.ref 75, .ref 0, .null, .int v3, .null, .null, .null, .null, .null, .null, .null, .null, .null, .null, .null, .int v15, .int v16, .int v_78, .int v_81, .null, .null] [.int (v_78 - v_78 / (Int32.ofInt 10) * (Int32.ofInt 10)), .int (v_78 / (Int32.ofInt 10)), .ref 0] M_79 L_80 from ⟨(by decide), ?_⟩)
        refine wr_seg (pc' := 1119) [.aload 0, .iload 16, .iconst 160, .iadd, .iconst 2] (by decide +kernel) rfl (?_ : Wr E 1119 [.ref 75, .ref 0, .null, .int v3, .null, .null, .null, .null, .null, .null, .null, .null, .null, .null, .null, .int v15, .int v16, .int v_78, .int v_81, .null, .null] [.int (Int32.ofInt 2), .int (v16 + (Int32.ofInt 160)), .ref 75, .int (v_78 - v_78 / (Int32.ofInt 10) * (Int32.ofInt 10)), .int (v_78 / (Int32.ofInt 10)), .ref 0] M_79 L_80)
        refine wr_callS 89 [.ref 75, .int (v16 + (Int32.ofInt 160)), .int (Int32.ofInt 2)] (i := 14) (by decide +kernel) (by decide +kernel) (by decide +kernel) rfl rfl rfl (rest := [.int (v_78 - v_78 / (Int32.ofInt 10) * (Int32.ofInt 10)), .int (v_78 / (Int32.ofInt 10)), .ref 0]) rfl rfl ?_
        obtain ⟨a_83, hP⟩ := hP
        refine s_L_cell hsc (v16 + (Int32.ofInt 160)) (Int32.ofInt 2) a_83 ?_
        show Wr E 1122 [.ref 75, .ref 0, .null, .int v3, .null, .null, .null, .null, .null, .null, .null, .null, .null, .null, .null, .int v15, .int v16, .int v_78, .int v_81, .null, .null] [.int (f_L_cell sc (v16 + (Int32.ofInt 160)) (Int32.ofInt 2)), .int (v_78 - v_78 / (Int32.ofInt 10) * (Int32.ofInt 10)), .int (v_78 / (Int32.ofInt 10)), .ref 0] M_79 L_80
        refine wp_ifne (off := 7) 1129 (by decide +kernel) (by decide) (fun c_84 => ?_) (fun c_84 => ?_)
        · have hP := hP.2 c_84
          refine wr_seg (pc' := 1130) [.iconst 0] (by decide +kernel) rfl (?_ : Wr E 1130 [.ref 75, .ref 0, .null, .int v3, .null, .null, .null, .null, .null, .null, .null, .null, .null, .null, .null, .int v15, .int v16, .int v_78, .int v_81, .null, .null] [.int (Int32.ofInt 0), .int (v_78 - v_78 / (Int32.ofInt 10) * (Int32.ofInt 10)), .int (v_78 / (Int32.ofInt 10)), .ref 0] M_79 L_80)
          refine wr_callV 77 0 [.int (v_78 / (Int32.ofInt 10)), .int (v_78 - v_78 / (Int32.ofInt 10) * (Int32.ofInt 10)), .int (Int32.ofInt 0)] (i := 94) (by decide +kernel) (by decide +kernel) (by decide +kernel) (by decide +kernel) rfl rfl rfl (rest := []) rfl rfl ?_
          refine t_X9_tried hP (fun v_87 M_85 L_86 hP => ?_)
          show Wr E 1133 [.ref 75, .ref 0, .null, .int v3, .null, .null, .null, .null, .null, .null, .null, .null, .null, .null, .null, .int v15, .int v16, .int v_78, .int v_81, .null, .null] [.int v_87] M_85 L_86
          refine wr_seg (pc' := 1135) [.istore 19] (by decide +kernel) rfl (?_ : Wr E 1135 [.ref 75, .ref 0, .null, .int v3, .null, .null, .null, .null, .null, .null, .null, .null, .null, .null, .null, .int v15, .int v16, .int v_78, .int v_81, .int v_87, .null] [] M_85 L_86)
          refine wp_drop (lo := [.ref 75, .ref 0, .null, .int v3, .null, .null, .null, .null, .null, .null, .null, .null, .null, .null, .null, .int v15, .int v16, .null, .int v_81, .int v_87, .null]) ⟨Or.inr rfl, Or.inr rfl, Or.inl rfl, Or.inr rfl, Or.inl rfl, Or.inl rfl, Or.inl rfl, Or.inl rfl, Or.inl rfl, Or.inl rfl, Or.inl rfl, Or.inl rfl, Or.inl rfl, Or.inl rfl, Or.inl rfl, Or.inr rfl, Or.inr rfl, Or.inl rfl, Or.inr rfl, Or.inr rfl, Or.inl rfl, trivial⟩ ?_
          exact tl_L_law_1135 hsc hK (fun v3 v15 v16 M L hP => ih v3 v15 v16 M L hP) 100000 v3 v15 v16 v_81 v_87 M_85 L_86 hP
        · have hP := hP.1 c_84
          refine wr_seg (pc' := 1130) [.iconst 1, .goto 0] (by decide +kernel) rfl (?_ : Wr E 1130 [.ref 75, .ref 0, .null, .int v3, .null, .null, .null, .null, .null, .null, .null, .null, .null, .null, .null, .int v15, .int v16, .int v_78, .int v_81, .null, .null] [.int (Int32.ofInt 1), .int (v_78 - v_78 / (Int32.ofInt 10) * (Int32.ofInt 10)), .int (v_78 / (Int32.ofInt 10)), .ref 0] M_79 L_80)
          refine wr_callV 77 0 [.int (v_78 / (Int32.ofInt 10)), .int (v_78 - v_78 / (Int32.ofInt 10) * (Int32.ofInt 10)), .int (Int32.ofInt 1)] (i := 94) (by decide +kernel) (by decide +kernel) (by decide +kernel) (by decide +kernel) rfl rfl rfl (rest := []) rfl rfl ?_
          refine t_X9_tried hP (fun v_106 M_104 L_105 hP => ?_)
          show Wr E 1133 [.ref 75, .ref 0, .null, .int v3, .null, .null, .null, .null, .null, .null, .null, .null, .null, .null, .null, .int v15, .int v16, .int v_78, .int v_81, .null, .null] [.int v_106] M_104 L_105
          refine wr_seg (pc' := 1135) [.istore 19] (by decide +kernel) rfl (?_ : Wr E 1135 [.ref 75, .ref 0, .null, .int v3, .null, .null, .null, .null, .null, .null, .null, .null, .null, .null, .null, .int v15, .int v16, .int v_78, .int v_81, .int v_106, .null] [] M_104 L_105)
          refine wp_drop (lo := [.ref 75, .ref 0, .null, .int v3, .null, .null, .null, .null, .null, .null, .null, .null, .null, .null, .null, .int v15, .int v16, .null, .int v_81, .int v_106, .null]) ⟨Or.inr rfl, Or.inr rfl, Or.inl rfl, Or.inr rfl, Or.inl rfl, Or.inl rfl, Or.inl rfl, Or.inl rfl, Or.inl rfl, Or.inl rfl, Or.inl rfl, Or.inl rfl, Or.inl rfl, Or.inl rfl, Or.inl rfl, Or.inr rfl, Or.inr rfl, Or.inl rfl, Or.inr rfl, Or.inr rfl, Or.inl rfl, trivial⟩ ?_
          exact tl_L_law_1135 hsc hK (fun v3 v15 v16 M L hP => ih v3 v15 v16 M L hP) 100000 v3 v15 v16 v_81 v_106 M_104 L_105 hP
      · have hP := hP.2 c_82
        refine wr_seg (pc' := 1205) [.goto 0] (by decide +kernel) rfl (?_ : Wr E 1205 [.ref 75, .ref 0, .null, .int v3, .null, .null, .null, .null, .null, .null, .null, .null, .null, .null, .null, .int v15, .int v16, .int v_78, .int v_81, .null, .null] [] M_79 L_80)
        refine wp_drop (lo := [.null, .ref 0, .null, .int v3, .null, .null, .null, .null, .null, .null, .null, .null, .null, .null, .null, .null, .null, .null, .null, .null, .null]) ⟨Or.inl rfl, Or.inr rfl, Or.inl rfl, Or.inr rfl, Or.inl rfl, Or.inl rfl, Or.inl rfl, Or.inl rfl, Or.inl rfl, Or.inl rfl, Or.inl rfl, Or.inl rfl, Or.inl rfl, Or.inl rfl, Or.inl rfl, Or.inl rfl, Or.inl rfl, Or.inl rfl, Or.inl rfl, Or.inl rfl, Or.inl rfl, trivial⟩ ?_
        exact tl_L_law_1205 hsc hK 100000 v3 M_79 L_80 hP
def PL_L_law_1061 (sc : SCT) (K : Int32 → Mem → LMem → Prop)  : Nat → Int32 → Mem → LMem → Prop
  | 0, _, _, _ => False
  | n_ + 1, v3, M, L => P_X9_stopped (Int32.ofInt 0) M L (fun v_70 M_68 L_69 => PL_L_law_1071 sc K 100000 v3 v_70 (Int32.ofInt 0) M_68 L_69)
theorem tl_L_law_1061 {E : VE} {sc : SCT} (hsc : SCE E sc) {K : Int32 → Mem → LMem → Prop}  (hK : ∀ (v : Int32) (M : Mem) (L : LMem), K v M L → v = 1)  : ∀ (n_ : Nat) (v3 : Int32) (M : Mem) (L : LMem), PL_L_law_1061 sc K n_ v3 M L → Wr E 1061 [.ref 75, .ref 0, .null, .int v3, .null, .null, .null, .null, .null, .null, .null, .null, .null, .null, .null, .null, .null, .null, .null, .null, .null] [] M L := by
  intro n_
  induction n_ with
  | zero => intro v3 M L hP; exact False.elim hP
  | succ n_ ih =>
    intro v3 M L hP
    unfold PL_L_law_1061 at hP
    refine wr_seg (pc' := 1063) [.aload 1, .iconst 0] (by decide +kernel) rfl (?_ : Wr E 1063 [.ref 75, .ref 0, .null, .int v3, .null, .null, .null, .null, .null, .null, .null, .null, .null, .null, .null, .null, .null, .null, .null, .null, .null] [.int (Int32.ofInt 0), .ref 0] M L)
    refine wr_callV 78 0 [.int (Int32.ofInt 0)] (i := 91) (by decide +kernel) (by decide +kernel) (by decide +kernel) (by decide +kernel) rfl rfl rfl (rest := []) rfl rfl ?_
    refine t_X9_stopped hP (fun v_70 M_68 L_69 hP => ?_)
    show Wr E 1066 [.ref 75, .ref 0, .null, .int v3, .null, .null, .null, .null, .null, .null, .null, .null, .null, .null, .null, .null, .null, .null, .null, .null, .null] [.int v_70] M_68 L_69
    refine wr_seg (pc' := 1071) [.istore 15, .iconst 0, .istore 16] (by decide +kernel) rfl (?_ : Wr E 1071 [.ref 75, .ref 0, .null, .int v3, .null, .null, .null, .null, .null, .null, .null, .null, .null, .null, .null, .int v_70, .int (Int32.ofInt 0), .null, .null, .null, .null] [] M_68 L_69)
    exact tl_L_law_1071 hsc hK 100000 v3 v_70 (Int32.ofInt 0) M_68 L_69 hP
def PL_L_law_1055 (sc : SCT) (K : Int32 → Mem → LMem → Prop) (C_988 : Int32 → Int32 → Int32 → Int32 → Mem → LMem → Prop) : Nat → Int32 → Int32 → Int32 → Int32 → Mem → LMem → Prop
  | 0, _, _, _, _, _, _ => False
  | n_ + 1, v3, v12, v14, v15, M, L => C_988 v3 v12 v14 (v15 + Int32.ofInt 1) M L
theorem tl_L_law_1055 {E : VE} {sc : SCT} (hsc : SCE E sc) {K : Int32 → Mem → LMem → Prop} {C_988 : Int32 → Int32 → Int32 → Int32 → Mem → LMem → Prop} (hK : ∀ (v : Int32) (M : Mem) (L : LMem), K v M L → v = 1) (hC_988 : ∀ (v3 : Int32) (v12 : Int32) (v14 : Int32) (v15 : Int32) (M : Mem) (L : LMem), C_988 v3 v12 v14 v15 M L → Wr E 988 [.ref 75, .ref 0, .null, .int v3, .null, .null, .null, .null, .null, .null, .null, .null, .int v12, .null, .int v14, .int v15, .null, .null, .null, .null, .null] [] M L) : ∀ (n_ : Nat) (v3 : Int32) (v12 : Int32) (v14 : Int32) (v15 : Int32) (M : Mem) (L : LMem), PL_L_law_1055 sc K C_988 n_ v3 v12 v14 v15 M L → Wr E 1055 [.ref 75, .ref 0, .null, .int v3, .null, .null, .null, .null, .null, .null, .null, .null, .int v12, .null, .int v14, .int v15, .null, .null, .null, .null, .null] [] M L := by
  intro n_
  induction n_ with
  | zero => intro v3 v12 v14 v15 M L hP; exact False.elim hP
  | succ n_ ih =>
    intro v3 v12 v14 v15 M L hP
    unfold PL_L_law_1055 at hP
    refine wr_seg (pc' := 988) [.iinc 15 1, .goto 0] (by decide +kernel) rfl (?_ : Wr E 988 [.ref 75, .ref 0, .null, .int v3, .null, .null, .null, .null, .null, .null, .null, .null, .int v12, .null, .int v14, .int (v15 + Int32.ofInt 1), .null, .null, .null, .null, .null] [] M L)
    exact hC_988 v3 v12 v14 (v15 + Int32.ofInt 1) M L hP
def PL_L_law_1036 (sc : SCT) (K : Int32 → Mem → LMem → Prop) (C_988 : Int32 → Int32 → Int32 → Int32 → Mem → LMem → Prop) : Nat → Int32 → Int32 → Int32 → Int32 → Int32 → Mem → LMem → Prop
  | 0, _, _, _, _, _, _, _ => False
  | n_ + 1, v3, v12, v14, v15, v16, M, L => ((v16 = 0 → PL_L_law_1055 sc K C_988 100000 v3 v12 v14 v15 M L) ∧ (¬ (v16 = 0) → P_X9_locked v15 (Int32.ofInt 0) M L (fun v_116 M_114 L_115 => ((v_116 = (Int32.ofInt (-6)) → PL_L_law_1055 sc K C_988 100000 v3 v12 v14 v15 M_114 L_115) ∧ (¬ (v_116 = (Int32.ofInt (-6))) → K (Int32.ofInt 0) M_114 L_115)))))
theorem tl_L_law_1036 {E : VE} {sc : SCT} (hsc : SCE E sc) {K : Int32 → Mem → LMem → Prop} {C_988 : Int32 → Int32 → Int32 → Int32 → Mem → LMem → Prop} (hK : ∀ (v : Int32) (M : Mem) (L : LMem), K v M L → v = 1) (hC_988 : ∀ (v3 : Int32) (v12 : Int32) (v14 : Int32) (v15 : Int32) (M : Mem) (L : LMem), C_988 v3 v12 v14 v15 M L → Wr E 988 [.ref 75, .ref 0, .null, .int v3, .null, .null, .null, .null, .null, .null, .null, .null, .int v12, .null, .int v14, .int v15, .null, .null, .null, .null, .null] [] M L) : ∀ (n_ : Nat) (v3 : Int32) (v12 : Int32) (v14 : Int32) (v15 : Int32) (v16 : Int32) (M : Mem) (L : LMem), PL_L_law_1036 sc K C_988 n_ v3 v12 v14 v15 v16 M L → Wr E 1036 [.ref 75, .ref 0, .null, .int v3, .null, .null, .null, .null, .null, .null, .null, .null, .int v12, .null, .int v14, .int v15, .int v16, .null, .null, .null, .null] [] M L := by
  intro n_
  induction n_ with
  | zero => intro v3 v12 v14 v15 v16 M L hP; exact False.elim hP
  | succ n_ ih =>
    intro v3 v12 v14 v15 v16 M L hP
    unfold PL_L_law_1036 at hP
    refine wr_seg (pc' := 1038) [.iload 16] (by decide +kernel) rfl (?_ : Wr E 1038 [.ref 75, .ref 0, .null, .int v3, .null, .null, .null, .null, .null, .null, .null, .null, .int v12, .null, .int v14, .int v15, .int v16, .null, .null, .null, .null] [.int v16] M L)
    refine wp_ifeq (off := 17) 1055 (by decide +kernel) (by decide) (fun c_113 => ?_) (fun c_113 => ?_)
    · have hP := hP.1 c_113
      refine wp_drop (lo := [.ref 75, .ref 0, .null, .int v3, .null, .null, .null, .null, .null, .null, .null, .null, .int v12, .null, .int v14, .int v15, .null, .null, .null, .null, .null]) ⟨Or.inr rfl, Or.inr rfl, Or.inl rfl, Or.inr rfl, Or.inl rfl, Or.inl rfl, Or.inl rfl, Or.inl rfl, Or.inl rfl, Or.inl rfl, Or.inl rfl, Or.inl rfl, Or.inr rfl, Or.inl rfl, Or.inr rfl, Or.inr rfl, Or.inl rfl, Or.inl rfl, Or.inl rfl, Or.inl rfl, Or.inl rfl, trivial⟩ ?_
      exact tl_L_law_1055 hsc hK hC_988 100000 v3 v12 v14 v15 M L hP
    · have hP := hP.2 c_113
      refine wr_seg (pc' := 1045) [.aload 1, .iload 15, .iconst 0] (by decide +kernel) rfl (?_ : Wr E 1045 [.ref 75, .ref 0, .null, .int v3, .null, .null, .null, .null, .null, .null, .null, .null, .int v12, .null, .int v14, .int v15, .int v16, .null, .null, .null, .null] [.int (Int32.ofInt 0), .int v15, .ref 0] M L)
      refine wr_callV 76 0 [.int v15, .int (Int32.ofInt 0)] (i := 88) (by decide +kernel) (by decide +kernel) (by decide +kernel) (by decide +kernel) rfl rfl rfl (rest := []) rfl rfl ?_
      refine t_X9_locked hP (fun v_116 M_114 L_115 hP => ?_)
      show Wr E 1048 [.ref 75, .ref 0, .null, .int v3, .null, .null, .null, .null, .null, .null, .null, .null, .int v12, .null, .int v14, .int v15, .int v16, .null, .null, .null, .null] [.int v_116] M_114 L_115
      refine wr_seg (pc' := 1050) [.iconst (-6)] (by decide +kernel) rfl (?_ : Wr E 1050 [.ref 75, .ref 0, .null, .int v3, .null, .null, .null, .null, .null, .null, .null, .null, .int v12, .null, .int v14, .int v15, .int v16, .null, .null, .null, .null] [.int (Int32.ofInt (-6)), .int v_116] M_114 L_115)
      refine wp_icmpeq (off := 5) 1055 (by decide +kernel) (by decide) (fun c_117 => ?_) (fun c_117 => ?_)
      · have hP := hP.1 c_117
        refine wp_drop (lo := [.ref 75, .ref 0, .null, .int v3, .null, .null, .null, .null, .null, .null, .null, .null, .int v12, .null, .int v14, .int v15, .null, .null, .null, .null, .null]) ⟨Or.inr rfl, Or.inr rfl, Or.inl rfl, Or.inr rfl, Or.inl rfl, Or.inl rfl, Or.inl rfl, Or.inl rfl, Or.inl rfl, Or.inl rfl, Or.inl rfl, Or.inl rfl, Or.inr rfl, Or.inl rfl, Or.inr rfl, Or.inr rfl, Or.inl rfl, Or.inl rfl, Or.inl rfl, Or.inl rfl, Or.inl rfl, trivial⟩ ?_
        exact tl_L_law_1055 hsc hK hC_988 100000 v3 v12 v14 v15 M_114 L_115 hP
      · have hP := hP.2 c_117
        refine wr_seg (pc' := 1054) [.iconst 0] (by decide +kernel) rfl (?_ : Wr E 1054 [.ref 75, .ref 0, .null, .int v3, .null, .null, .null, .null, .null, .null, .null, .null, .int v12, .null, .int v14, .int v15, .int v16, .null, .null, .null, .null] [.int (Int32.ofInt 0)] M_114 L_115)
        have hv := hK _ _ _ hP
        rw [hv]
        exact wr_ret (by decide +kernel)
def PL_L_law_1014 (sc : SCT) (K : Int32 → Mem → LMem → Prop) (C_988 : Int32 → Int32 → Int32 → Int32 → Mem → LMem → Prop) : Nat → Int32 → Int32 → Int32 → Int32 → Int32 → Mem → LMem → Prop
  | 0, _, _, _, _, _, _, _ => False
  | n_ + 1, v3, v12, v14, v15, v16, M, L => ((v16 = 0 → ((v14 = 0 → P_X9_locked v15 (Int32.ofInt 1) M L (fun v_121 M_119 L_120 => ((v_121 = (Int32.ofInt (-6)) → PL_L_law_1036 sc K C_988 100000 v3 v12 v14 v15 v16 M_119 L_120) ∧ (¬ (v_121 = (Int32.ofInt (-6))) → K (Int32.ofInt 0) M_119 L_120)))) ∧ (¬ (v14 = 0) → PL_L_law_1036 sc K C_988 100000 v3 v12 v14 v15 v16 M L))) ∧ (¬ (v16 = 0) → P_X9_locked v15 (Int32.ofInt 1) M L (fun v_111 M_109 L_110 => ((v_111 = (Int32.ofInt (-6)) → PL_L_law_1036 sc K C_988 100000 v3 v12 v14 v15 v16 M_109 L_110) ∧ (¬ (v_111 = (Int32.ofInt (-6))) → K (Int32.ofInt 0) M_109 L_110)))))
theorem tl_L_law_1014 {E : VE} {sc : SCT} (hsc : SCE E sc) {K : Int32 → Mem → LMem → Prop} {C_988 : Int32 → Int32 → Int32 → Int32 → Mem → LMem → Prop} (hK : ∀ (v : Int32) (M : Mem) (L : LMem), K v M L → v = 1) (hC_988 : ∀ (v3 : Int32) (v12 : Int32) (v14 : Int32) (v15 : Int32) (M : Mem) (L : LMem), C_988 v3 v12 v14 v15 M L → Wr E 988 [.ref 75, .ref 0, .null, .int v3, .null, .null, .null, .null, .null, .null, .null, .null, .int v12, .null, .int v14, .int v15, .null, .null, .null, .null, .null] [] M L) : ∀ (n_ : Nat) (v3 : Int32) (v12 : Int32) (v14 : Int32) (v15 : Int32) (v16 : Int32) (M : Mem) (L : LMem), PL_L_law_1014 sc K C_988 n_ v3 v12 v14 v15 v16 M L → Wr E 1014 [.ref 75, .ref 0, .null, .int v3, .null, .null, .null, .null, .null, .null, .null, .null, .int v12, .null, .int v14, .int v15, .int v16, .null, .null, .null, .null] [] M L := by
  intro n_
  induction n_ with
  | zero => intro v3 v12 v14 v15 v16 M L hP; exact False.elim hP
  | succ n_ ih =>
    intro v3 v12 v14 v15 v16 M L hP
    unfold PL_L_law_1014 at hP
    refine wr_seg (pc' := 1016) [.iload 16] (by decide +kernel) rfl (?_ : Wr E 1016 [.ref 75, .ref 0, .null, .int v3, .null, .null, .null, .null, .null, .null, .null, .null, .int v12, .null, .int v14, .int v15, .int v16, .null, .null, .null, .null] [.int v16] M L)
    refine wp_ifne (off := 8) 1024 (by decide +kernel) (by decide) (fun c_108 => ?_) (fun c_108 => ?_)
    · have hP := hP.2 c_108
      refine wr_seg (pc' := 1028) [.aload 1, .iload 15, .iconst 1] (by decide +kernel) rfl (?_ : Wr E 1028 [.ref 75, .ref 0, .null, .int v3, .null, .null, .null, .null, .null, .null, .null, .null, .int v12, .null, .int v14, .int v15, .int v16, .null, .null, .null, .null] [.int (Int32.ofInt 1), .int v15, .ref 0] M L)
      refine wr_callV 76 0 [.int v15, .int (Int32.ofInt 1)] (i := 88) (by decide +kernel) (by decide +kernel) (by decide +kernel) (by decide +kernel) rfl rfl rfl (rest := []) rfl rfl ?_
      refine t_X9_locked hP (fun v_111 M_109 L_110 hP => ?_)
      show Wr E 1031 [.ref 75, .ref 0, .null, .int v3, .null, .null, .null, .null, .null, .null, .null, .null, .int v12, .null, .int v14, .int v15, .int v16, .null, .null, .null, .null] [.int v_111] M_109 L_110
      refine wr_seg (pc' := 1033) [.iconst (-6)] (by decide +kernel) rfl (?_ : Wr E 1033 [.ref 75, .ref 0, .null, .int v3, .null, .null, .null, .null, .null, .null, .null, .null, .int v12, .null, .int v14, .int v15, .int v16, .null, .null, .null, .null] [.int (Int32.ofInt (-6)), .int v_111] M_109 L_110)
      refine wp_icmpne (off := 20) 1053 (by decide +kernel) (by decide) (fun c_112 => ?_) (fun c_112 => ?_)
      · have hP := hP.2 c_112
        refine wr_seg (pc' := 1054) [.iconst 0] (by decide +kernel) rfl (?_ : Wr E 1054 [.ref 75, .ref 0, .null, .int v3, .null, .null, .null, .null, .null, .null, .null, .null, .int v12, .null, .int v14, .int v15, .int v16, .null, .null, .null, .null] [.int (Int32.ofInt 0)] M_109 L_110)
        have hv := hK _ _ _ hP
        rw [hv]
        exact wr_ret (by decide +kernel)
      · have hP := hP.1 c_112
        exact tl_L_law_1036 hsc hK hC_988 100000 v3 v12 v14 v15 v16 M_109 L_110 hP
    · have hP := hP.1 c_108
      refine wr_seg (pc' := 1021) [.iload 14] (by decide +kernel) rfl (?_ : Wr E 1021 [.ref 75, .ref 0, .null, .int v3, .null, .null, .null, .null, .null, .null, .null, .null, .int v12, .null, .int v14, .int v15, .int v16, .null, .null, .null, .null] [.int v14] M L)
      refine wp_ifne (off := 15) 1036 (by decide +kernel) (by decide) (fun c_118 => ?_) (fun c_118 => ?_)
      · have hP := hP.2 c_118
        exact tl_L_law_1036 hsc hK hC_988 100000 v3 v12 v14 v15 v16 M L hP
      · have hP := hP.1 c_118
        refine wr_seg (pc' := 1028) [.aload 1, .iload 15, .iconst 1] (by decide +kernel) rfl (?_ : Wr E 1028 [.ref 75, .ref 0, .null, .int v3, .null, .null, .null, .null, .null, .null, .null, .null, .int v12, .null, .int v14, .int v15, .int v16, .null, .null, .null, .null] [.int (Int32.ofInt 1), .int v15, .ref 0] M L)
        refine wr_callV 76 0 [.int v15, .int (Int32.ofInt 1)] (i := 88) (by decide +kernel) (by decide +kernel) (by decide +kernel) (by decide +kernel) rfl rfl rfl (rest := []) rfl rfl ?_
        refine t_X9_locked hP (fun v_121 M_119 L_120 hP => ?_)
        show Wr E 1031 [.ref 75, .ref 0, .null, .int v3, .null, .null, .null, .null, .null, .null, .null, .null, .int v12, .null, .int v14, .int v15, .int v16, .null, .null, .null, .null] [.int v_121] M_119 L_120
        refine wr_seg (pc' := 1033) [.iconst (-6)] (by decide +kernel) rfl (?_ : Wr E 1033 [.ref 75, .ref 0, .null, .int v3, .null, .null, .null, .null, .null, .null, .null, .null, .int v12, .null, .int v14, .int v15, .int v16, .null, .null, .null, .null] [.int (Int32.ofInt (-6)), .int v_121] M_119 L_120)
        refine wp_icmpne (off := 20) 1053 (by decide +kernel) (by decide) (fun c_122 => ?_) (fun c_122 => ?_)
        · have hP := hP.2 c_122
          refine wr_seg (pc' := 1054) [.iconst 0] (by decide +kernel) rfl (?_ : Wr E 1054 [.ref 75, .ref 0, .null, .int v3, .null, .null, .null, .null, .null, .null, .null, .null, .int v12, .null, .int v14, .int v15, .int v16, .null, .null, .null, .null] [.int (Int32.ofInt 0)] M_119 L_120)
          have hv := hK _ _ _ hP
          rw [hv]
          exact wr_ret (by decide +kernel)
        · have hP := hP.1 c_122
          exact tl_L_law_1036 hsc hK hC_988 100000 v3 v12 v14 v15 v16 M_119 L_120 hP
def PL_L_law_988 (sc : SCT) (K : Int32 → Mem → LMem → Prop)  : Nat → Int32 → Int32 → Int32 → Int32 → Mem → LMem → Prop
  | 0, _, _, _, _, _, _ => False
  | n_ + 1, v3, v12, v14, v15, M, L => ((((Int32.ofInt 1) <<< (v12 &&& 31)) ≤ v15 → PL_L_law_1061 sc K 100000 v3 M L) ∧ (¬ (((Int32.ofInt 1) <<< (v12 &&& 31)) ≤ v15) → (((v15 &&& (v15 - (Int32.ofInt 1))) = 0 → PL_L_law_1014 sc K (PL_L_law_988 sc K n_) 100000 v3 v12 v14 v15 (Int32.ofInt 1) M L) ∧ (¬ ((v15 &&& (v15 - (Int32.ofInt 1))) = 0) → PL_L_law_1014 sc K (PL_L_law_988 sc K n_) 100000 v3 v12 v14 v15 (Int32.ofInt 0) M L))))
theorem tl_L_law_988 {E : VE} {sc : SCT} (hsc : SCE E sc) {K : Int32 → Mem → LMem → Prop}  (hK : ∀ (v : Int32) (M : Mem) (L : LMem), K v M L → v = 1)  : ∀ (n_ : Nat) (v3 : Int32) (v12 : Int32) (v14 : Int32) (v15 : Int32) (M : Mem) (L : LMem), PL_L_law_988 sc K n_ v3 v12 v14 v15 M L → Wr E 988 [.ref 75, .ref 0, .null, .int v3, .null, .null, .null, .null, .null, .null, .null, .null, .int v12, .null, .int v14, .int v15, .null, .null, .null, .null, .null] [] M L := by
  intro n_
  induction n_ with
  | zero => intro v3 v12 v14 v15 M L hP; exact False.elim hP
  | succ n_ ih =>
    intro v3 v12 v14 v15 M L hP
    unfold PL_L_law_988 at hP
    refine wr_seg (pc' := 994) [.iload 15, .iconst 1, .iload 12, .ishl] (by decide +kernel) rfl (?_ : Wr E 994 [.ref 75, .ref 0, .null, .int v3, .null, .null, .null, .null, .null, .null, .null, .null, .int v12, .null, .int v14, .int v15, .null, .null, .null, .null, .null] [.int ((Int32.ofInt 1) <<< (v12 &&& 31)), .int v15] M L)
    refine wp_icmpge (off := 67) 1061 (by decide +kernel) (by decide) (fun c_67 => ?_) (fun c_67 => ?_)
    · have hP := hP.1 c_67
      refine wp_drop (lo := [.ref 75, .ref 0, .null, .int v3, .null, .null, .null, .null, .null, .null, .null, .null, .null, .null, .null, .null, .null, .null, .null, .null, .null]) ⟨Or.inr rfl, Or.inr rfl, Or.inl rfl, Or.inr rfl, Or.inl rfl, Or.inl rfl, Or.inl rfl, Or.inl rfl, Or.inl rfl, Or.inl rfl, Or.inl rfl, Or.inl rfl, Or.inl rfl, Or.inl rfl, Or.inl rfl, Or.inl rfl, Or.inl rfl, Or.inl rfl, Or.inl rfl, Or.inl rfl, Or.inl rfl, trivial⟩ ?_
      exact tl_L_law_1061 hsc hK 100000 v3 M L hP
    · have hP := hP.2 c_67
      refine wr_seg (pc' := 1004) [.iload 15, .iload 15, .iconst 1, .isub, .iand] (by decide +kernel) rfl (?_ : Wr E 1004 [.ref 75, .ref 0, .null, .int v3, .null, .null, .null, .null, .null, .null, .null, .null, .int v12, .null, .int v14, .int v15, .null, .null, .null, .null, .null] [.int (v15 &&& (v15 - (Int32.ofInt 1)))] M L)
      refine wp_ifne (off := 7) 1011 (by decide +kernel) (by decide) (fun c_107 => ?_) (fun c_107 => ?_)
      · have hP := hP.2 c_107
        refine wr_seg (pc' := 1014) [.iconst 0, .istore 16] (by decide +kernel) rfl (?_ : Wr E 1014 [.ref 75, .ref 0, .null, .int v3, .null, .null, .null, .null, .null, .null, .null, .null, .int v12, .null, .int v14, .int v15, .int (Int32.ofInt 0), .null, .null, .null, .null] [] M L)
        exact tl_L_law_1014 hsc hK (fun v3 v12 v14 v15 M L hP => ih v3 v12 v14 v15 M L hP) 100000 v3 v12 v14 v15 (Int32.ofInt 0) M L hP
      · have hP := hP.1 c_107
        refine wr_seg (pc' := 1014) [.iconst 1, .goto 0, .istore 16] (by decide +kernel) rfl (?_ : Wr E 1014 [.ref 75, .ref 0, .null, .int v3, .null, .null, .null, .null, .null, .null, .null, .null, .int v12, .null, .int v14, .int v15, .int (Int32.ofInt 1), .null, .null, .null, .null] [] M L)
        exact tl_L_law_1014 hsc hK (fun v3 v12 v14 v15 M L hP => ih v3 v12 v14 v15 M L hP) 100000 v3 v12 v14 v15 (Int32.ofInt 1) M L hP
def PL_L_law_985 (sc : SCT) (K : Int32 → Mem → LMem → Prop)  : Nat → Int32 → Int32 → Int32 → Mem → LMem → Prop
  | 0, _, _, _, _, _ => False
  | n_ + 1, v3, v12, v14, M, L => PL_L_law_988 sc K 100000 v3 v12 v14 (Int32.ofInt 0) M L
theorem tl_L_law_985 {E : VE} {sc : SCT} (hsc : SCE E sc) {K : Int32 → Mem → LMem → Prop}  (hK : ∀ (v : Int32) (M : Mem) (L : LMem), K v M L → v = 1)  : ∀ (n_ : Nat) (v3 : Int32) (v12 : Int32) (v14 : Int32) (M : Mem) (L : LMem), PL_L_law_985 sc K n_ v3 v12 v14 M L → Wr E 985 [.ref 75, .ref 0, .null, .int v3, .null, .null, .null, .null, .null, .null, .null, .null, .int v12, .null, .int v14, .null, .null, .null, .null, .null, .null] [] M L := by
  intro n_
  induction n_ with
  | zero => intro v3 v12 v14 M L hP; exact False.elim hP
  | succ n_ ih =>
    intro v3 v12 v14 M L hP
    unfold PL_L_law_985 at hP
    refine wr_seg (pc' := 988) [.iconst 0, .istore 15] (by decide +kernel) rfl (?_ : Wr E 988 [.ref 75, .ref 0, .null, .int v3, .null, .null, .null, .null, .null, .null, .null, .null, .int v12, .null, .int v14, .int (Int32.ofInt 0), .null, .null, .null, .null, .null] [] M L)
    exact tl_L_law_988 hsc hK 100000 v3 v12 v14 (Int32.ofInt 0) M L hP
def PL_L_law_979 (sc : SCT) (K : Int32 → Mem → LMem → Prop) (C_951 : Int32 → Int32 → Int32 → Int32 → Mem → LMem → Prop) : Nat → Int32 → Int32 → Int32 → Int32 → Mem → LMem → Prop
  | 0, _, _, _, _, _, _ => False
  | n_ + 1, v3, v12, v14, v15, M, L => C_951 v3 v12 v14 (v15 + Int32.ofInt 1) M L
theorem tl_L_law_979 {E : VE} {sc : SCT} (hsc : SCE E sc) {K : Int32 → Mem → LMem → Prop} {C_951 : Int32 → Int32 → Int32 → Int32 → Mem → LMem → Prop} (hK : ∀ (v : Int32) (M : Mem) (L : LMem), K v M L → v = 1) (hC_951 : ∀ (v3 : Int32) (v12 : Int32) (v14 : Int32) (v15 : Int32) (M : Mem) (L : LMem), C_951 v3 v12 v14 v15 M L → Wr E 951 [.ref 75, .ref 0, .ref 74, .int v3, .null, .null, .null, .null, .null, .null, .null, .null, .int v12, .null, .int v14, .int v15, .null, .null, .null, .null, .null] [] M L) : ∀ (n_ : Nat) (v3 : Int32) (v12 : Int32) (v14 : Int32) (v15 : Int32) (M : Mem) (L : LMem), PL_L_law_979 sc K C_951 n_ v3 v12 v14 v15 M L → Wr E 979 [.ref 75, .ref 0, .ref 74, .int v3, .null, .null, .null, .null, .null, .null, .null, .null, .int v12, .null, .int v14, .int v15, .null, .null, .null, .null, .null] [] M L := by
  intro n_
  induction n_ with
  | zero => intro v3 v12 v14 v15 M L hP; exact False.elim hP
  | succ n_ ih =>
    intro v3 v12 v14 v15 M L hP
    unfold PL_L_law_979 at hP
    refine wr_seg (pc' := 951) [.iinc 15 1, .goto 0] (by decide +kernel) rfl (?_ : Wr E 951 [.ref 75, .ref 0, .ref 74, .int v3, .null, .null, .null, .null, .null, .null, .null, .null, .int v12, .null, .int v14, .int (v15 + Int32.ofInt 1), .null, .null, .null, .null, .null] [] M L)
    exact hC_951 v3 v12 v14 (v15 + Int32.ofInt 1) M L hP
def PL_L_law_951 (sc : SCT) (K : Int32 → Mem → LMem → Prop)  : Nat → Int32 → Int32 → Int32 → Int32 → Mem → LMem → Prop
  | 0, _, _, _, _, _, _ => False
  | n_ + 1, v3, v12, v14, v15, M, L => ((v3 ≤ v15 → PL_L_law_985 sc K 100000 v3 v12 v14 M L) ∧ (¬ (v3 ≤ v15) → (vp_in (((Int32.ofInt 4) * v15) + (Int32.ofInt 2)) 48 ∧ (((M 74 ((((Int32.ofInt 4) * v15) + (Int32.ofInt 2)).toNatClampNeg)) = (Int32.ofInt 3) → PL_L_law_979 sc K (PL_L_law_951 sc K n_) 100000 v3 v12 (v14 ||| (Int32.ofInt 1)) v15 M L) ∧ (¬ ((M 74 ((((Int32.ofInt 4) * v15) + (Int32.ofInt 2)).toNatClampNeg)) = (Int32.ofInt 3)) → PL_L_law_979 sc K (PL_L_law_951 sc K n_) 100000 v3 v12 (v14 ||| (Int32.ofInt 0)) v15 M L)))))
theorem tl_L_law_951 {E : VE} {sc : SCT} (hsc : SCE E sc) {K : Int32 → Mem → LMem → Prop}  (hK : ∀ (v : Int32) (M : Mem) (L : LMem), K v M L → v = 1)  : ∀ (n_ : Nat) (v3 : Int32) (v12 : Int32) (v14 : Int32) (v15 : Int32) (M : Mem) (L : LMem), PL_L_law_951 sc K n_ v3 v12 v14 v15 M L → Wr E 951 [.ref 75, .ref 0, .ref 74, .int v3, .null, .null, .null, .null, .null, .null, .null, .null, .int v12, .null, .int v14, .int v15, .null, .null, .null, .null, .null] [] M L := by
  intro n_
  induction n_ with
  | zero => intro v3 v12 v14 v15 M L hP; exact False.elim hP
  | succ n_ ih =>
    intro v3 v12 v14 v15 M L hP
    unfold PL_L_law_951 at hP
    refine wr_seg (pc' := 954) [.iload 15, .iload 3] (by decide +kernel) rfl (?_ : Wr E 954 [.ref 75, .ref 0, .ref 74, .int v3, .null, .null, .null, .null, .null, .null, .null, .null, .int v12, .null, .int v14, .int v15, .null, .null, .null, .null, .null] [.int v3, .int v15] M L)
    refine wp_icmpge (off := 31) 985 (by decide +kernel) (by decide) (fun c_66 => ?_) (fun c_66 => ?_)
    · have hP := hP.1 c_66
      refine wp_drop (lo := [.ref 75, .ref 0, .null, .int v3, .null, .null, .null, .null, .null, .null, .null, .null, .int v12, .null, .int v14, .null, .null, .null, .null, .null, .null]) ⟨Or.inr rfl, Or.inr rfl, Or.inl rfl, Or.inr rfl, Or.inl rfl, Or.inl rfl, Or.inl rfl, Or.inl rfl, Or.inl rfl, Or.inl rfl, Or.inl rfl, Or.inl rfl, Or.inr rfl, Or.inl rfl, Or.inr rfl, Or.inl rfl, Or.inl rfl, Or.inl rfl, Or.inl rfl, Or.inl rfl, Or.inl rfl, trivial⟩ ?_
      exact tl_L_law_985 hsc hK 100000 v3 v12 v14 M L hP
    · have hP := hP.2 c_66
      obtain ⟨a_123, hP⟩ := hP
      refine wr_seg (pc' := 967) [.iload 14, .aload 2, .iconst 4, .iload 15, .imul, .iconst 2, .iadd, .iaload] (by decide +kernel) rfl (show aok 74 0 (((Int32.ofInt 4) * v15) + (Int32.ofInt 2)) ∧ Wr E 967 [.ref 75, .ref 0, .ref 74, .int v3, .null, .null, .null, .null, .null, .null, .null, .null, .int v12, .null, .int v14, .int v15, .null, .null, .null, .null, .null] [.int (M 74 ((((Int32.ofInt 4) * v15) + (Int32.ofInt 2)).toNatClampNeg)), .int v14] M L from ⟨⟨rfl, a_123⟩, ?_⟩)
      refine wr_seg (pc' := 968) [.iconst 3] (by decide +kernel) rfl (?_ : Wr E 968 [.ref 75, .ref 0, .ref 74, .int v3, .null, .null, .null, .null, .null, .null, .null, .null, .int v12, .null, .int v14, .int v15, .null, .null, .null, .null, .null] [.int (Int32.ofInt 3), .int (M 74 ((((Int32.ofInt 4) * v15) + (Int32.ofInt 2)).toNatClampNeg)), .int v14] M L)
      refine wp_icmpne (off := 7) 975 (by decide +kernel) (by decide) (fun c_124 => ?_) (fun c_124 => ?_)
      · have hP := hP.2 c_124
        refine wr_seg (pc' := 979) [.iconst 0, .ior, .istore 14] (by decide +kernel) rfl (?_ : Wr E 979 [.ref 75, .ref 0, .ref 74, .int v3, .null, .null, .null, .null, .null, .null, .null, .null, .int v12, .null, .int (v14 ||| (Int32.ofInt 0)), .int v15, .null, .null, .null, .null, .null] [] M L)
        exact tl_L_law_979 hsc hK (fun v3 v12 v14 v15 M L hP => ih v3 v12 v14 v15 M L hP) 100000 v3 v12 (v14 ||| (Int32.ofInt 0)) v15 M L hP
      · have hP := hP.1 c_124
        refine wr_seg (pc' := 979) [.iconst 1, .goto 0, .ior, .istore 14] (by decide +kernel) rfl (?_ : Wr E 979 [.ref 75, .ref 0, .ref 74, .int v3, .null, .null, .null, .null, .null, .null, .null, .null, .int v12, .null, .int (v14 ||| (Int32.ofInt 1)), .int v15, .null, .null, .null, .null, .null] [] M L)
        exact tl_L_law_979 hsc hK (fun v3 v12 v14 v15 M L hP => ih v3 v12 v14 v15 M L hP) 100000 v3 v12 (v14 ||| (Int32.ofInt 1)) v15 M L hP
def PL_L_law_945 (sc : SCT) (K : Int32 → Mem → LMem → Prop)  : Nat → Int32 → Int32 → Mem → LMem → Prop
  | 0, _, _, _, _ => False
  | n_ + 1, v3, v12, M, L => PL_L_law_951 sc K 100000 v3 v12 (Int32.ofInt 0) (Int32.ofInt 0) M L
theorem tl_L_law_945 {E : VE} {sc : SCT} (hsc : SCE E sc) {K : Int32 → Mem → LMem → Prop}  (hK : ∀ (v : Int32) (M : Mem) (L : LMem), K v M L → v = 1)  : ∀ (n_ : Nat) (v3 : Int32) (v12 : Int32) (M : Mem) (L : LMem), PL_L_law_945 sc K n_ v3 v12 M L → Wr E 945 [.ref 75, .ref 0, .ref 74, .int v3, .null, .null, .null, .null, .null, .null, .null, .null, .int v12, .null, .null, .null, .null, .null, .null, .null, .null] [] M L := by
  intro n_
  induction n_ with
  | zero => intro v3 v12 M L hP; exact False.elim hP
  | succ n_ ih =>
    intro v3 v12 M L hP
    unfold PL_L_law_945 at hP
    refine wr_seg (pc' := 951) [.iconst 0, .istore 14, .iconst 0, .istore 15] (by decide +kernel) rfl (?_ : Wr E 951 [.ref 75, .ref 0, .ref 74, .int v3, .null, .null, .null, .null, .null, .null, .null, .null, .int v12, .null, .int (Int32.ofInt 0), .int (Int32.ofInt 0), .null, .null, .null, .null, .null] [] M L)
    exact tl_L_law_951 hsc hK 100000 v3 v12 (Int32.ofInt 0) (Int32.ofInt 0) M L hP
def PL_L_law_877 (sc : SCT) (K : Int32 → Mem → LMem → Prop) (C_827 : Int32 → Int32 → Int32 → Int32 → Int32 → Int32 → Int32 → Mem → LMem → Prop) : Nat → Int32 → Int32 → Int32 → Int32 → Int32 → Int32 → Int32 → Int32 → Mem → LMem → Prop
  | 0, _, _, _, _, _, _, _, _, _, _ => False
  | n_ + 1, v3, v6, v8, v10, v11, v12, v13, v14, M, L => C_827 v3 (v6 ||| v14) v8 v10 v11 v12 (v13 + Int32.ofInt 1) M L
theorem tl_L_law_877 {E : VE} {sc : SCT} (hsc : SCE E sc) {K : Int32 → Mem → LMem → Prop} {C_827 : Int32 → Int32 → Int32 → Int32 → Int32 → Int32 → Int32 → Mem → LMem → Prop} (hK : ∀ (v : Int32) (M : Mem) (L : LMem), K v M L → v = 1) (hC_827 : ∀ (v3 : Int32) (v6 : Int32) (v8 : Int32) (v10 : Int32) (v11 : Int32) (v12 : Int32) (v13 : Int32) (M : Mem) (L : LMem), C_827 v3 v6 v8 v10 v11 v12 v13 M L → Wr E 827 [.ref 75, .ref 0, .ref 74, .int v3, .null, .null, .int v6, .null, .int v8, .null, .int v10, .int v11, .int v12, .int v13, .null, .null, .null, .null, .null, .null, .null] [] M L) : ∀ (n_ : Nat) (v3 : Int32) (v6 : Int32) (v8 : Int32) (v10 : Int32) (v11 : Int32) (v12 : Int32) (v13 : Int32) (v14 : Int32) (M : Mem) (L : LMem), PL_L_law_877 sc K C_827 n_ v3 v6 v8 v10 v11 v12 v13 v14 M L → Wr E 877 [.ref 75, .ref 0, .ref 74, .int v3, .null, .null, .int v6, .null, .int v8, .null, .int v10, .int v11, .int v12, .int v13, .int v14, .null, .null, .null, .null, .null, .null] [] M L := by
  intro n_
  induction n_ with
  | zero => intro v3 v6 v8 v10 v11 v12 v13 v14 M L hP; exact False.elim hP
  | succ n_ ih =>
    intro v3 v6 v8 v10 v11 v12 v13 v14 M L hP
    unfold PL_L_law_877 at hP
    refine wr_seg (pc' := 827) [.iload 6, .iload 14, .ior, .istore 6, .iinc 13 1, .goto 0] (by decide +kernel) rfl (?_ : Wr E 827 [.ref 75, .ref 0, .ref 74, .int v3, .null, .null, .int (v6 ||| v14), .null, .int v8, .null, .int v10, .int v11, .int v12, .int (v13 + Int32.ofInt 1), .int v14, .null, .null, .null, .null, .null, .null] [] M L)
    refine wp_drop (lo := [.ref 75, .ref 0, .ref 74, .int v3, .null, .null, .int (v6 ||| v14), .null, .int v8, .null, .int v10, .int v11, .int v12, .int (v13 + Int32.ofInt 1), .null, .null, .null, .null, .null, .null, .null]) ⟨Or.inr rfl, Or.inr rfl, Or.inr rfl, Or.inr rfl, Or.inl rfl, Or.inl rfl, Or.inr rfl, Or.inl rfl, Or.inr rfl, Or.inl rfl, Or.inr rfl, Or.inr rfl, Or.inr rfl, Or.inr rfl, Or.inl rfl, Or.inl rfl, Or.inl rfl, Or.inl rfl, Or.inl rfl, Or.inl rfl, Or.inl rfl, trivial⟩ ?_
    exact hC_827 v3 (v6 ||| v14) v8 v10 v11 v12 (v13 + Int32.ofInt 1) M L hP
def PL_L_law_827 (sc : SCT) (K : Int32 → Mem → LMem → Prop)  : Nat → Int32 → Int32 → Int32 → Int32 → Int32 → Int32 → Int32 → Mem → LMem → Prop
  | 0, _, _, _, _, _, _, _, _, _ => False
  | n_ + 1, v3, v6, v8, v10, v11, v12, v13, M, L => (((Int32.ofInt 8) ≤ v13 → P_X9_soonest (Int32.ofInt (-1)) M L (fun v_53 M_51 L_52 => ((v3 < 0 → ((v6 = (Int32.ofInt 0) → P_X9_wipe M_51 L_52 (fun v_58 M_56 L_57 => ((v_58 = v8 → ((v_53 < v10 → K (Int32.ofInt 0) M_56 L_57) ∧ (¬ (v_53 < v10) → ((v11 < v_53 → K (Int32.ofInt 0) M_56 L_57) ∧ (¬ (v11 < v_53) → P_X9_byDue (Int32.ofInt (-1)) M_56 L_57 (fun v_64 M_62 L_63 => ((v_64 = (Int32.ofInt 1) → PL_L_law_945 sc K 100000 v3 v12 M_62 L_63) ∧ (¬ (v_64 = (Int32.ofInt 1)) → K (Int32.ofInt 0) M_62 L_63)))))))) ∧ (¬ (v_58 = v8) → K (Int32.ofInt 0) M_56 L_57)))) ∧ (¬ (v6 = (Int32.ofInt 0)) → K (Int32.ofInt 0) M_51 L_52))) ∧ (¬ (v3 < 0) → ((v6 = (Int32.ofInt 3) → P_X9_wipe M_51 L_52 (fun v_128 M_126 L_127 => ((v_128 = v8 → ((v_53 < v10 → K (Int32.ofInt 0) M_126 L_127) ∧ (¬ (v_53 < v10) → ((v11 < v_53 → K (Int32.ofInt 0) M_126 L_127) ∧ (¬ (v11 < v_53) → P_X9_byDue (Int32.ofInt (-1)) M_126 L_127 (fun v_134 M_132 L_133 => ((v_134 = (Int32.ofInt 1) → PL_L_law_945 sc K 100000 v3 v12 M_132 L_133) ∧ (¬ (v_134 = (Int32.ofInt 1)) → K (Int32.ofInt 0) M_132 L_133)))))))) ∧ (¬ (v_128 = v8) → K (Int32.ofInt 0) M_126 L_127)))) ∧ (¬ (v6 = (Int32.ofInt 3)) → K (Int32.ofInt 0) M_51 L_52)))))) ∧ (¬ ((Int32.ofInt 8) ≤ v13) → P_X9_knows v13 (Int32.ofInt 0) M L (fun v_138 M_136 L_137 => P_X9_knows v13 (Int32.ofInt 1) M_136 L_137 (fun v_141 M_139 L_140 => (((v_138 &&& (v_141 ^^^ (Int32.ofInt (-1)))) = 0 → P_X9_told ((Int32.ofInt 10) + v13) M_139 L_140 (fun v_145 M_143 L_144 => (((v_145 &&& (v_138 ^^^ (Int32.ofInt (-1)))) = 0 → PL_L_law_877 sc K (PL_L_law_827 sc K n_) 100000 v3 v6 v8 v10 v11 v12 v13 v_138 M_143 L_144) ∧ (¬ ((v_145 &&& (v_138 ^^^ (Int32.ofInt (-1)))) = 0) → K (Int32.ofInt 0) M_143 L_144)))) ∧ (¬ ((v_138 &&& (v_141 ^^^ (Int32.ofInt (-1)))) = 0) → K (Int32.ofInt 0) M_139 L_140))))))
theorem tl_L_law_827 {E : VE} {sc : SCT} (hsc : SCE E sc) {K : Int32 → Mem → LMem → Prop}  (hK : ∀ (v : Int32) (M : Mem) (L : LMem), K v M L → v = 1)  : ∀ (n_ : Nat) (v3 : Int32) (v6 : Int32) (v8 : Int32) (v10 : Int32) (v11 : Int32) (v12 : Int32) (v13 : Int32) (M : Mem) (L : LMem), PL_L_law_827 sc K n_ v3 v6 v8 v10 v11 v12 v13 M L → Wr E 827 [.ref 75, .ref 0, .ref 74, .int v3, .null, .null, .int v6, .null, .int v8, .null, .int v10, .int v11, .int v12, .int v13, .null, .null, .null, .null, .null, .null, .null] [] M L := by
  intro n_
  induction n_ with
  | zero => intro v3 v6 v8 v10 v11 v12 v13 M L hP; exact False.elim hP
  | succ n_ ih =>
    intro v3 v6 v8 v10 v11 v12 v13 M L hP
    unfold PL_L_law_827 at hP
    refine wr_seg (pc' := 831) [.iload 13, .iconst 8] (by decide +kernel) rfl (?_ : Wr E 831 [.ref 75, .ref 0, .ref 74, .int v3, .null, .null, .int v6, .null, .int v8, .null, .int v10, .int v11, .int v12, .int v13, .null, .null, .null, .null, .null, .null, .null] [.int (Int32.ofInt 8), .int v13] M L)
    refine wp_icmpge (off := 59) 890 (by decide +kernel) (by decide) (fun c_50 => ?_) (fun c_50 => ?_)
    · have hP := hP.1 c_50
      refine wr_seg (pc' := 892) [.aload 1, .iconst (-1)] (by decide +kernel) rfl (?_ : Wr E 892 [.ref 75, .ref 0, .ref 74, .int v3, .null, .null, .int v6, .null, .int v8, .null, .int v10, .int v11, .int v12, .int v13, .null, .null, .null, .null, .null, .null, .null] [.int (Int32.ofInt (-1)), .ref 0] M L)
      refine wr_callV 74 0 [.int (Int32.ofInt (-1))] (i := 82) (by decide +kernel) (by decide +kernel) (by decide +kernel) (by decide +kernel) rfl rfl rfl (rest := []) rfl rfl ?_
      refine t_X9_soonest hP (fun v_53 M_51 L_52 hP => ?_)
      show Wr E 895 [.ref 75, .ref 0, .ref 74, .int v3, .null, .null, .int v6, .null, .int v8, .null, .int v10, .int v11, .int v12, .int v13, .null, .null, .null, .null, .null, .null, .null] [.int v_53] M_51 L_52
      refine wr_seg (pc' := 900) [.istore 13, .iload 6, .iload 3] (by decide +kernel) rfl (?_ : Wr E 900 [.ref 75, .ref 0, .ref 74, .int v3, .null, .null, .int v6, .null, .int v8, .null, .int v10, .int v11, .int v12, .int v_53, .null, .null, .null, .null, .null, .null, .null] [.int v3, .int v6] M_51 L_52)
      refine wp_iflt (off := 7) 907 (by decide +kernel) (by decide) (fun c_54 => ?_) (fun c_54 => ?_)
      · have hP := hP.1 c_54
        refine wr_seg (pc' := 908) [.iconst 0] (by decide +kernel) rfl (?_ : Wr E 908 [.ref 75, .ref 0, .ref 74, .int v3, .null, .null, .int v6, .null, .int v8, .null, .int v10, .int v11, .int v12, .int v_53, .null, .null, .null, .null, .null, .null, .null] [.int (Int32.ofInt 0), .int v6] M_51 L_52)
        refine wp_icmpne (off := 35) 943 (by decide +kernel) (by decide) (fun c_55 => ?_) (fun c_55 => ?_)
        · have hP := hP.2 c_55
          refine wr_seg (pc' := 944) [.iconst 0] (by decide +kernel) rfl (?_ : Wr E 944 [.ref 75, .ref 0, .ref 74, .int v3, .null, .null, .int v6, .null, .int v8, .null, .int v10, .int v11, .int v12, .int v_53, .null, .null, .null, .null, .null, .null, .null] [.int (Int32.ofInt 0)] M_51 L_52)
          have hv := hK _ _ _ hP
          rw [hv]
          exact wr_ret (by decide +kernel)
        · have hP := hP.1 c_55
          refine wr_seg (pc' := 912) [.aload 1] (by decide +kernel) rfl (?_ : Wr E 912 [.ref 75, .ref 0, .ref 74, .int v3, .null, .null, .int v6, .null, .int v8, .null, .int v10, .int v11, .int v12, .int v_53, .null, .null, .null, .null, .null, .null, .null] [.ref 0] M_51 L_52)
          refine wr_callV 61 0 [] (i := 8) (by decide +kernel) (by decide +kernel) (by decide +kernel) (by decide +kernel) rfl rfl rfl (rest := []) rfl rfl ?_
          refine t_X9_wipe hP (fun v_58 M_56 L_57 hP => ?_)
          show Wr E 915 [.ref 75, .ref 0, .ref 74, .int v3, .null, .null, .int v6, .null, .int v8, .null, .int v10, .int v11, .int v12, .int v_53, .null, .null, .null, .null, .null, .null, .null] [.int v_58] M_56 L_57
          refine wr_seg (pc' := 917) [.iload 8] (by decide +kernel) rfl (?_ : Wr E 917 [.ref 75, .ref 0, .ref 74, .int v3, .null, .null, .int v6, .null, .int v8, .null, .int v10, .int v11, .int v12, .int v_53, .null, .null, .null, .null, .null, .null, .null] [.int v8, .int v_58] M_56 L_57)
          refine wp_icmpne (off := 26) 943 (by decide +kernel) (by decide) (fun c_59 => ?_) (fun c_59 => ?_)
          · have hP := hP.2 c_59
            refine wr_seg (pc' := 944) [.iconst 0] (by decide +kernel) rfl (?_ : Wr E 944 [.ref 75, .ref 0, .ref 74, .int v3, .null, .null, .int v6, .null, .int v8, .null, .int v10, .int v11, .int v12, .int v_53, .null, .null, .null, .null, .null, .null, .null] [.int (Int32.ofInt 0)] M_56 L_57)
            have hv := hK _ _ _ hP
            rw [hv]
            exact wr_ret (by decide +kernel)
          · have hP := hP.1 c_59
            refine wr_seg (pc' := 924) [.iload 13, .iload 10] (by decide +kernel) rfl (?_ : Wr E 924 [.ref 75, .ref 0, .ref 74, .int v3, .null, .null, .int v6, .null, .int v8, .null, .int v10, .int v11, .int v12, .int v_53, .null, .null, .null, .null, .null, .null, .null] [.int v10, .int v_53] M_56 L_57)
            refine wp_icmplt (off := 19) 943 (by decide +kernel) (by decide) (fun c_60 => ?_) (fun c_60 => ?_)
            · have hP := hP.1 c_60
              refine wr_seg (pc' := 944) [.iconst 0] (by decide +kernel) rfl (?_ : Wr E 944 [.ref 75, .ref 0, .ref 74, .int v3, .null, .null, .int v6, .null, .int v8, .null, .int v10, .int v11, .int v12, .int v_53, .null, .null, .null, .null, .null, .null, .null] [.int (Int32.ofInt 0)] M_56 L_57)
              have hv := hK _ _ _ hP
              rw [hv]
              exact wr_ret (by decide +kernel)
            · have hP := hP.2 c_60
              refine wr_seg (pc' := 931) [.iload 13, .iload 11] (by decide +kernel) rfl (?_ : Wr E 931 [.ref 75, .ref 0, .ref 74, .int v3, .null, .null, .int v6, .null, .int v8, .null, .int v10, .int v11, .int v12, .int v_53, .null, .null, .null, .null, .null, .null, .null] [.int v11, .int v_53] M_56 L_57)
              refine wp_icmpgt (off := 12) 943 (by decide +kernel) (by decide) (fun c_61 => ?_) (fun c_61 => ?_)
              · have hP := hP.1 c_61
                refine wr_seg (pc' := 944) [.iconst 0] (by decide +kernel) rfl (?_ : Wr E 944 [.ref 75, .ref 0, .ref 74, .int v3, .null, .null, .int v6, .null, .int v8, .null, .int v10, .int v11, .int v12, .int v_53, .null, .null, .null, .null, .null, .null, .null] [.int (Int32.ofInt 0)] M_56 L_57)
                have hv := hK _ _ _ hP
                rw [hv]
                exact wr_ret (by decide +kernel)
              · have hP := hP.2 c_61
                refine wr_seg (pc' := 936) [.aload 1, .iconst (-1)] (by decide +kernel) rfl (?_ : Wr E 936 [.ref 75, .ref 0, .ref 74, .int v3, .null, .null, .int v6, .null, .int v8, .null, .int v10, .int v11, .int v12, .int v_53, .null, .null, .null, .null, .null, .null, .null] [.int (Int32.ofInt (-1)), .ref 0] M_56 L_57)
                refine wr_callV 75 0 [.int (Int32.ofInt (-1))] (i := 85) (by decide +kernel) (by decide +kernel) (by decide +kernel) (by decide +kernel) rfl rfl rfl (rest := []) rfl rfl ?_
                refine t_X9_byDue hP (fun v_64 M_62 L_63 hP => ?_)
                show Wr E 939 [.ref 75, .ref 0, .ref 74, .int v3, .null, .null, .int v6, .null, .int v8, .null, .int v10, .int v11, .int v12, .int v_53, .null, .null, .null, .null, .null, .null, .null] [.int v_64] M_62 L_63
                refine wr_seg (pc' := 940) [.iconst 1] (by decide +kernel) rfl (?_ : Wr E 940 [.ref 75, .ref 0, .ref 74, .int v3, .null, .null, .int v6, .null, .int v8, .null, .int v10, .int v11, .int v12, .int v_53, .null, .null, .null, .null, .null, .null, .null] [.int (Int32.ofInt 1), .int v_64] M_62 L_63)
                refine wp_icmpeq (off := 5) 945 (by decide +kernel) (by decide) (fun c_65 => ?_) (fun c_65 => ?_)
                · have hP := hP.1 c_65
                  refine wp_drop (lo := [.ref 75, .ref 0, .ref 74, .int v3, .null, .null, .null, .null, .null, .null, .null, .null, .int v12, .null, .null, .null, .null, .null, .null, .null, .null]) ⟨Or.inr rfl, Or.inr rfl, Or.inr rfl, Or.inr rfl, Or.inl rfl, Or.inl rfl, Or.inl rfl, Or.inl rfl, Or.inl rfl, Or.inl rfl, Or.inl rfl, Or.inl rfl, Or.inr rfl, Or.inl rfl, Or.inl rfl, Or.inl rfl, Or.inl rfl, Or.inl rfl, Or.inl rfl, Or.inl rfl, Or.inl rfl, trivial⟩ ?_
                  exact tl_L_law_945 hsc hK 100000 v3 v12 M_62 L_63 hP
                · have hP := hP.2 c_65
                  refine wr_seg (pc' := 944) [.iconst 0] (by decide +kernel) rfl (?_ : Wr E 944 [.ref 75, .ref 0, .ref 74, .int v3, .null, .null, .int v6, .null, .int v8, .null, .int v10, .int v11, .int v12, .int v_53, .null, .null, .null, .null, .null, .null, .null] [.int (Int32.ofInt 0)] M_62 L_63)
                  have hv := hK _ _ _ hP
                  rw [hv]
                  exact wr_ret (by decide +kernel)
      · have hP := hP.2 c_54
        refine wr_seg (pc' := 908) [.iconst 3, .goto 0] (by decide +kernel) rfl (?_ : Wr E 908 [.ref 75, .ref 0, .ref 74, .int v3, .null, .null, .int v6, .null, .int v8, .null, .int v10, .int v11, .int v12, .int v_53, .null, .null, .null, .null, .null, .null, .null] [.int (Int32.ofInt 3), .int v6] M_51 L_52)
        refine wp_icmpne (off := 35) 943 (by decide +kernel) (by decide) (fun c_125 => ?_) (fun c_125 => ?_)
        · have hP := hP.2 c_125
          refine wr_seg (pc' := 944) [.iconst 0] (by decide +kernel) rfl (?_ : Wr E 944 [.ref 75, .ref 0, .ref 74, .int v3, .null, .null, .int v6, .null, .int v8, .null, .int v10, .int v11, .int v12, .int v_53, .null, .null, .null, .null, .null, .null, .null] [.int (Int32.ofInt 0)] M_51 L_52)
          have hv := hK _ _ _ hP
          rw [hv]
          exact wr_ret (by decide +kernel)
        · have hP := hP.1 c_125
          refine wr_seg (pc' := 912) [.aload 1] (by decide +kernel) rfl (?_ : Wr E 912 [.ref 75, .ref 0, .ref 74, .int v3, .null, .null, .int v6, .null, .int v8, .null, .int v10, .int v11, .int v12, .int v_53, .null, .null, .null, .null, .null, .null, .null] [.ref 0] M_51 L_52)
          refine wr_callV 61 0 [] (i := 8) (by decide +kernel) (by decide +kernel) (by decide +kernel) (by decide +kernel) rfl rfl rfl (rest := []) rfl rfl ?_
          refine t_X9_wipe hP (fun v_128 M_126 L_127 hP => ?_)
          show Wr E 915 [.ref 75, .ref 0, .ref 74, .int v3, .null, .null, .int v6, .null, .int v8, .null, .int v10, .int v11, .int v12, .int v_53, .null, .null, .null, .null, .null, .null, .null] [.int v_128] M_126 L_127
          refine wr_seg (pc' := 917) [.iload 8] (by decide +kernel) rfl (?_ : Wr E 917 [.ref 75, .ref 0, .ref 74, .int v3, .null, .null, .int v6, .null, .int v8, .null, .int v10, .int v11, .int v12, .int v_53, .null, .null, .null, .null, .null, .null, .null] [.int v8, .int v_128] M_126 L_127)
          refine wp_icmpne (off := 26) 943 (by decide +kernel) (by decide) (fun c_129 => ?_) (fun c_129 => ?_)
          · have hP := hP.2 c_129
            refine wr_seg (pc' := 944) [.iconst 0] (by decide +kernel) rfl (?_ : Wr E 944 [.ref 75, .ref 0, .ref 74, .int v3, .null, .null, .int v6, .null, .int v8, .null, .int v10, .int v11, .int v12, .int v_53, .null, .null, .null, .null, .null, .null, .null] [.int (Int32.ofInt 0)] M_126 L_127)
            have hv := hK _ _ _ hP
            rw [hv]
            exact wr_ret (by decide +kernel)
          · have hP := hP.1 c_129
            refine wr_seg (pc' := 924) [.iload 13, .iload 10] (by decide +kernel) rfl (?_ : Wr E 924 [.ref 75, .ref 0, .ref 74, .int v3, .null, .null, .int v6, .null, .int v8, .null, .int v10, .int v11, .int v12, .int v_53, .null, .null, .null, .null, .null, .null, .null] [.int v10, .int v_53] M_126 L_127)
            refine wp_icmplt (off := 19) 943 (by decide +kernel) (by decide) (fun c_130 => ?_) (fun c_130 => ?_)
            · have hP := hP.1 c_130
              refine wr_seg (pc' := 944) [.iconst 0] (by decide +kernel) rfl (?_ : Wr E 944 [.ref 75, .ref 0, .ref 74, .int v3, .null, .null, .int v6, .null, .int v8, .null, .int v10, .int v11, .int v12, .int v_53, .null, .null, .null, .null, .null, .null, .null] [.int (Int32.ofInt 0)] M_126 L_127)
              have hv := hK _ _ _ hP
              rw [hv]
              exact wr_ret (by decide +kernel)
            · have hP := hP.2 c_130
              refine wr_seg (pc' := 931) [.iload 13, .iload 11] (by decide +kernel) rfl (?_ : Wr E 931 [.ref 75, .ref 0, .ref 74, .int v3, .null, .null, .int v6, .null, .int v8, .null, .int v10, .int v11, .int v12, .int v_53, .null, .null, .null, .null, .null, .null, .null] [.int v11, .int v_53] M_126 L_127)
              refine wp_icmpgt (off := 12) 943 (by decide +kernel) (by decide) (fun c_131 => ?_) (fun c_131 => ?_)
              · have hP := hP.1 c_131
                refine wr_seg (pc' := 944) [.iconst 0] (by decide +kernel) rfl (?_ : Wr E 944 [.ref 75, .ref 0, .ref 74, .int v3, .null, .null, .int v6, .null, .int v8, .null, .int v10, .int v11, .int v12, .int v_53, .null, .null, .null, .null, .null, .null, .null] [.int (Int32.ofInt 0)] M_126 L_127)
                have hv := hK _ _ _ hP
                rw [hv]
                exact wr_ret (by decide +kernel)
              · have hP := hP.2 c_131
                refine wr_seg (pc' := 936) [.aload 1, .iconst (-1)] (by decide +kernel) rfl (?_ : Wr E 936 [.ref 75, .ref 0, .ref 74, .int v3, .null, .null, .int v6, .null, .int v8, .null, .int v10, .int v11, .int v12, .int v_53, .null, .null, .null, .null, .null, .null, .null] [.int (Int32.ofInt (-1)), .ref 0] M_126 L_127)
                refine wr_callV 75 0 [.int (Int32.ofInt (-1))] (i := 85) (by decide +kernel) (by decide +kernel) (by decide +kernel) (by decide +kernel) rfl rfl rfl (rest := []) rfl rfl ?_
                refine t_X9_byDue hP (fun v_134 M_132 L_133 hP => ?_)
                show Wr E 939 [.ref 75, .ref 0, .ref 74, .int v3, .null, .null, .int v6, .null, .int v8, .null, .int v10, .int v11, .int v12, .int v_53, .null, .null, .null, .null, .null, .null, .null] [.int v_134] M_132 L_133
                refine wr_seg (pc' := 940) [.iconst 1] (by decide +kernel) rfl (?_ : Wr E 940 [.ref 75, .ref 0, .ref 74, .int v3, .null, .null, .int v6, .null, .int v8, .null, .int v10, .int v11, .int v12, .int v_53, .null, .null, .null, .null, .null, .null, .null] [.int (Int32.ofInt 1), .int v_134] M_132 L_133)
                refine wp_icmpeq (off := 5) 945 (by decide +kernel) (by decide) (fun c_135 => ?_) (fun c_135 => ?_)
                · have hP := hP.1 c_135
                  refine wp_drop (lo := [.ref 75, .ref 0, .ref 74, .int v3, .null, .null, .null, .null, .null, .null, .null, .null, .int v12, .null, .null, .null, .null, .null, .null, .null, .null]) ⟨Or.inr rfl, Or.inr rfl, Or.inr rfl, Or.inr rfl, Or.inl rfl, Or.inl rfl, Or.inl rfl, Or.inl rfl, Or.inl rfl, Or.inl rfl, Or.inl rfl, Or.inl rfl, Or.inr rfl, Or.inl rfl, Or.inl rfl, Or.inl rfl, Or.inl rfl, Or.inl rfl, Or.inl rfl, Or.inl rfl, Or.inl rfl, trivial⟩ ?_
                  exact tl_L_law_945 hsc hK 100000 v3 v12 M_132 L_133 hP
                · have hP := hP.2 c_135
                  refine wr_seg (pc' := 944) [.iconst 0] (by decide +kernel) rfl (?_ : Wr E 944 [.ref 75, .ref 0, .ref 74, .int v3, .null, .null, .int v6, .null, .int v8, .null, .int v10, .int v11, .int v12, .int v_53, .null, .null, .null, .null, .null, .null, .null] [.int (Int32.ofInt 0)] M_132 L_133)
                  have hv := hK _ _ _ hP
                  rw [hv]
                  exact wr_ret (by decide +kernel)
    · have hP := hP.2 c_50
      refine wr_seg (pc' := 838) [.aload 1, .iload 13, .iconst 0] (by decide +kernel) rfl (?_ : Wr E 838 [.ref 75, .ref 0, .ref 74, .int v3, .null, .null, .int v6, .null, .int v8, .null, .int v10, .int v11, .int v12, .int v13, .null, .null, .null, .null, .null, .null, .null] [.int (Int32.ofInt 0), .int v13, .ref 0] M L)
      refine wr_callV 71 0 [.int v13, .int (Int32.ofInt 0)] (i := 76) (by decide +kernel) (by decide +kernel) (by decide +kernel) (by decide +kernel) rfl rfl rfl (rest := []) rfl rfl ?_
      refine t_X9_knows hP (fun v_138 M_136 L_137 hP => ?_)
      show Wr E 841 [.ref 75, .ref 0, .ref 74, .int v3, .null, .null, .int v6, .null, .int v8, .null, .int v10, .int v11, .int v12, .int v13, .null, .null, .null, .null, .null, .null, .null] [.int v_138] M_136 L_137
      refine wr_seg (pc' := 849) [.istore 14, .iload 14, .aload 1, .iload 13, .iconst 1] (by decide +kernel) rfl (?_ : Wr E 849 [.ref 75, .ref 0, .ref 74, .int v3, .null, .null, .int v6, .null, .int v8, .null, .int v10, .int v11, .int v12, .int v13, .int v_138, .null, .null, .null, .null, .null, .null] [.int (Int32.ofInt 1), .int v13, .ref 0, .int v_138] M_136 L_137)
      refine wr_callV 71 0 [.int v13, .int (Int32.ofInt 1)] (i := 76) (by decide +kernel) (by decide +kernel) (by decide +kernel) (by decide +kernel) rfl rfl rfl (rest := [.int v_138]) rfl rfl ?_
      refine t_X9_knows hP (fun v_141 M_139 L_140 hP => ?_)
      show Wr E 852 [.ref 75, .ref 0, .ref 74, .int v3, .null, .null, .int v6, .null, .int v8, .null, .int v10, .int v11, .int v12, .int v13, .int v_138, .null, .null, .null, .null, .null, .null] [.int v_141, .int v_138] M_139 L_140
      refine wr_seg (pc' := 855) [.iconst (-1), .ixor, .iand] (by decide +kernel) rfl (?_ : Wr E 855 [.ref 75, .ref 0, .ref 74, .int v3, .null, .null, .int v6, .null, .int v8, .null, .int v10, .int v11, .int v12, .int v13, .int v_138, .null, .null, .null, .null, .null, .null] [.int (v_138 &&& (v_141 ^^^ (Int32.ofInt (-1))))] M_139 L_140)
      refine wp_ifne (off := 20) 875 (by decide +kernel) (by decide) (fun c_142 => ?_) (fun c_142 => ?_)
      · have hP := hP.2 c_142
        refine wr_seg (pc' := 876) [.iconst 0] (by decide +kernel) rfl (?_ : Wr E 876 [.ref 75, .ref 0, .ref 74, .int v3, .null, .null, .int v6, .null, .int v8, .null, .int v10, .int v11, .int v12, .int v13, .int v_138, .null, .null, .null, .null, .null, .null] [.int (Int32.ofInt 0)] M_139 L_140)
        have hv := hK _ _ _ hP
        rw [hv]
        exact wr_ret (by decide +kernel)
      · have hP := hP.1 c_142
        refine wr_seg (pc' := 864) [.aload 1, .iconst 10, .iload 13, .iadd] (by decide +kernel) rfl (?_ : Wr E 864 [.ref 75, .ref 0, .ref 74, .int v3, .null, .null, .int v6, .null, .int v8, .null, .int v10, .int v11, .int v12, .int v13, .int v_138, .null, .null, .null, .null, .null, .null] [.int ((Int32.ofInt 10) + v13), .ref 0] M_139 L_140)
        refine wr_callV 82 0 [.int ((Int32.ofInt 10) + v13)] (i := 79) (by decide +kernel) (by decide +kernel) (by decide +kernel) (by decide +kernel) rfl rfl rfl (rest := []) rfl rfl ?_
        refine t_X9_told hP (fun v_145 M_143 L_144 hP => ?_)
        show Wr E 867 [.ref 75, .ref 0, .ref 74, .int v3, .null, .null, .int v6, .null, .int v8, .null, .int v10, .int v11, .int v12, .int v13, .int v_138, .null, .null, .null, .null, .null, .null] [.int v_145] M_143 L_144
        refine wr_seg (pc' := 872) [.iload 14, .iconst (-1), .ixor, .iand] (by decide +kernel) rfl (?_ : Wr E 872 [.ref 75, .ref 0, .ref 74, .int v3, .null, .null, .int v6, .null, .int v8, .null, .int v10, .int v11, .int v12, .int v13, .int v_138, .null, .null, .null, .null, .null, .null] [.int (v_145 &&& (v_138 ^^^ (Int32.ofInt (-1))))] M_143 L_144)
        refine wp_ifeq (off := 5) 877 (by decide +kernel) (by decide) (fun c_146 => ?_) (fun c_146 => ?_)
        · have hP := hP.1 c_146
          exact tl_L_law_877 hsc hK (fun v3 v6 v8 v10 v11 v12 v13 M L hP => ih v3 v6 v8 v10 v11 v12 v13 M L hP) 100000 v3 v6 v8 v10 v11 v12 v13 v_138 M_143 L_144 hP
        · have hP := hP.2 c_146
          refine wr_seg (pc' := 876) [.iconst 0] (by decide +kernel) rfl (?_ : Wr E 876 [.ref 75, .ref 0, .ref 74, .int v3, .null, .null, .int v6, .null, .int v8, .null, .int v10, .int v11, .int v12, .int v13, .int v_138, .null, .null, .null, .null, .null, .null] [.int (Int32.ofInt 0)] M_143 L_144)
          have hv := hK _ _ _ hP
          rw [hv]
          exact wr_ret (by decide +kernel)
def PL_L_law_824 (sc : SCT) (K : Int32 → Mem → LMem → Prop)  : Nat → Int32 → Int32 → Int32 → Int32 → Int32 → Int32 → Mem → LMem → Prop
  | 0, _, _, _, _, _, _, _, _ => False
  | n_ + 1, v3, v6, v8, v10, v11, v12, M, L => PL_L_law_827 sc K 100000 v3 v6 v8 v10 v11 v12 (Int32.ofInt 0) M L
theorem tl_L_law_824 {E : VE} {sc : SCT} (hsc : SCE E sc) {K : Int32 → Mem → LMem → Prop}  (hK : ∀ (v : Int32) (M : Mem) (L : LMem), K v M L → v = 1)  : ∀ (n_ : Nat) (v3 : Int32) (v6 : Int32) (v8 : Int32) (v10 : Int32) (v11 : Int32) (v12 : Int32) (M : Mem) (L : LMem), PL_L_law_824 sc K n_ v3 v6 v8 v10 v11 v12 M L → Wr E 824 [.ref 75, .ref 0, .ref 74, .int v3, .null, .null, .int v6, .null, .int v8, .null, .int v10, .int v11, .int v12, .null, .null, .null, .null, .null, .null, .null, .null] [] M L := by
  intro n_
  induction n_ with
  | zero => intro v3 v6 v8 v10 v11 v12 M L hP; exact False.elim hP
  | succ n_ ih =>
    intro v3 v6 v8 v10 v11 v12 M L hP
    unfold PL_L_law_824 at hP
    refine wr_seg (pc' := 827) [.iconst 0, .istore 13] (by decide +kernel) rfl (?_ : Wr E 827 [.ref 75, .ref 0, .ref 74, .int v3, .null, .null, .int v6, .null, .int v8, .null, .int v10, .int v11, .int v12, .int (Int32.ofInt 0), .null, .null, .null, .null, .null, .null, .null] [] M L)
    exact tl_L_law_827 hsc hK 100000 v3 v6 v8 v10 v11 v12 (Int32.ofInt 0) M L hP
def PL_L_law_779 (sc : SCT) (K : Int32 → Mem → LMem → Prop)  : Nat → Int32 → Int32 → Int32 → Int32 → Int32 → Int32 → Int32 → Int32 → Mem → LMem → Prop
  | 0, _, _, _, _, _, _, _, _, _, _ => False
  | n_ + 1, v3, v6, v7, v8, v9, v10, v11, v12, M, L => ((v9 = 0 → K (Int32.ofInt 0) M L) ∧ (¬ (v9 = 0) → P_X9_judge (Int32.ofInt 0) M L (fun v_39 M_37 L_38 => ((v_39 = (Int32.ofInt (-6)) → P_X9_day (Int32.ofInt 0) M_37 L_38 (fun v_43 M_41 L_42 => ((v_43 = v7 → P_X9_day (Int32.ofInt 1) M_41 L_42 (fun v_47 M_45 L_46 => ((v12 ≤ 0 → ((v_47 = (Int32.ofInt 0) → PL_L_law_824 sc K 100000 v3 v6 v8 v10 v11 v12 M_45 L_46) ∧ (¬ (v_47 = (Int32.ofInt 0)) → K (Int32.ofInt 0) M_45 L_46))) ∧ (¬ (v12 ≤ 0) → ((v_47 = (Int32.ofInt 1) → PL_L_law_824 sc K 100000 v3 v6 v8 v10 v11 v12 M_45 L_46) ∧ (¬ (v_47 = (Int32.ofInt 1)) → K (Int32.ofInt 0) M_45 L_46)))))) ∧ (¬ (v_43 = v7) → K (Int32.ofInt 0) M_41 L_42)))) ∧ (¬ (v_39 = (Int32.ofInt (-6))) → K (Int32.ofInt 0) M_37 L_38)))))
theorem tl_L_law_779 {E : VE} {sc : SCT} (hsc : SCE E sc) {K : Int32 → Mem → LMem → Prop}  (hK : ∀ (v : Int32) (M : Mem) (L : LMem), K v M L → v = 1)  : ∀ (n_ : Nat) (v3 : Int32) (v6 : Int32) (v7 : Int32) (v8 : Int32) (v9 : Int32) (v10 : Int32) (v11 : Int32) (v12 : Int32) (M : Mem) (L : LMem), PL_L_law_779 sc K n_ v3 v6 v7 v8 v9 v10 v11 v12 M L → Wr E 779 [.ref 75, .ref 0, .ref 74, .int v3, .null, .null, .int v6, .int v7, .int v8, .int v9, .int v10, .int v11, .int v12, .null, .null, .null, .null, .null, .null, .null, .null] [] M L := by
  intro n_
  induction n_ with
  | zero => intro v3 v6 v7 v8 v9 v10 v11 v12 M L hP; exact False.elim hP
  | succ n_ ih =>
    intro v3 v6 v7 v8 v9 v10 v11 v12 M L hP
    unfold PL_L_law_779 at hP
    refine wr_seg (pc' := 781) [.iload 9] (by decide +kernel) rfl (?_ : Wr E 781 [.ref 75, .ref 0, .ref 74, .int v3, .null, .null, .int v6, .int v7, .int v8, .int v9, .int v10, .int v11, .int v12, .null, .null, .null, .null, .null, .null, .null, .null] [.int v9] M L)
    refine wp_ifeq (off := 41) 822 (by decide +kernel) (by decide) (fun c_36 => ?_) (fun c_36 => ?_)
    · have hP := hP.1 c_36
      refine wr_seg (pc' := 823) [.iconst 0] (by decide +kernel) rfl (?_ : Wr E 823 [.ref 75, .ref 0, .ref 74, .int v3, .null, .null, .int v6, .int v7, .int v8, .int v9, .int v10, .int v11, .int v12, .null, .null, .null, .null, .null, .null, .null, .null] [.int (Int32.ofInt 0)] M L)
      have hv := hK _ _ _ hP
      rw [hv]
      exact wr_ret (by decide +kernel)
    · have hP := hP.2 c_36
      refine wr_seg (pc' := 786) [.aload 1, .iconst 0] (by decide +kernel) rfl (?_ : Wr E 786 [.ref 75, .ref 0, .ref 74, .int v3, .null, .null, .int v6, .int v7, .int v8, .int v9, .int v10, .int v11, .int v12, .null, .null, .null, .null, .null, .null, .null, .null] [.int (Int32.ofInt 0), .ref 0] M L)
      refine wr_callV 68 0 [.int (Int32.ofInt 0)] (i := 70) (by decide +kernel) (by decide +kernel) (by decide +kernel) (by decide +kernel) rfl rfl rfl (rest := []) rfl rfl ?_
      refine t_X9_judge hP (fun v_39 M_37 L_38 hP => ?_)
      show Wr E 789 [.ref 75, .ref 0, .ref 74, .int v3, .null, .null, .int v6, .int v7, .int v8, .int v9, .int v10, .int v11, .int v12, .null, .null, .null, .null, .null, .null, .null, .null] [.int v_39] M_37 L_38
      refine wr_seg (pc' := 791) [.iconst (-6)] (by decide +kernel) rfl (?_ : Wr E 791 [.ref 75, .ref 0, .ref 74, .int v3, .null, .null, .int v6, .int v7, .int v8, .int v9, .int v10, .int v11, .int v12, .null, .null, .null, .null, .null, .null, .null, .null] [.int (Int32.ofInt (-6)), .int v_39] M_37 L_38)
      refine wp_icmpne (off := 31) 822 (by decide +kernel) (by decide) (fun c_40 => ?_) (fun c_40 => ?_)
      · have hP := hP.2 c_40
        refine wr_seg (pc' := 823) [.iconst 0] (by decide +kernel) rfl (?_ : Wr E 823 [.ref 75, .ref 0, .ref 74, .int v3, .null, .null, .int v6, .int v7, .int v8, .int v9, .int v10, .int v11, .int v12, .null, .null, .null, .null, .null, .null, .null, .null] [.int (Int32.ofInt 0)] M_37 L_38)
        have hv := hK _ _ _ hP
        rw [hv]
        exact wr_ret (by decide +kernel)
      · have hP := hP.1 c_40
        refine wr_seg (pc' := 796) [.aload 1, .iconst 0] (by decide +kernel) rfl (?_ : Wr E 796 [.ref 75, .ref 0, .ref 74, .int v3, .null, .null, .int v6, .int v7, .int v8, .int v9, .int v10, .int v11, .int v12, .null, .null, .null, .null, .null, .null, .null, .null] [.int (Int32.ofInt 0), .ref 0] M_37 L_38)
        refine wr_callV 69 0 [.int (Int32.ofInt 0)] (i := 73) (by decide +kernel) (by decide +kernel) (by decide +kernel) (by decide +kernel) rfl rfl rfl (rest := []) rfl rfl ?_
        refine t_X9_day hP (fun v_43 M_41 L_42 hP => ?_)
        show Wr E 799 [.ref 75, .ref 0, .ref 74, .int v3, .null, .null, .int v6, .int v7, .int v8, .int v9, .int v10, .int v11, .int v12, .null, .null, .null, .null, .null, .null, .null, .null] [.int v_43] M_41 L_42
        refine wr_seg (pc' := 801) [.iload 7] (by decide +kernel) rfl (?_ : Wr E 801 [.ref 75, .ref 0, .ref 74, .int v3, .null, .null, .int v6, .int v7, .int v8, .int v9, .int v10, .int v11, .int v12, .null, .null, .null, .null, .null, .null, .null, .null] [.int v7, .int v_43] M_41 L_42)
        refine wp_icmpne (off := 21) 822 (by decide +kernel) (by decide) (fun c_44 => ?_) (fun c_44 => ?_)
        · have hP := hP.2 c_44
          refine wr_seg (pc' := 823) [.iconst 0] (by decide +kernel) rfl (?_ : Wr E 823 [.ref 75, .ref 0, .ref 74, .int v3, .null, .null, .int v6, .int v7, .int v8, .int v9, .int v10, .int v11, .int v12, .null, .null, .null, .null, .null, .null, .null, .null] [.int (Int32.ofInt 0)] M_41 L_42)
          have hv := hK _ _ _ hP
          rw [hv]
          exact wr_ret (by decide +kernel)
        · have hP := hP.1 c_44
          refine wr_seg (pc' := 806) [.aload 1, .iconst 1] (by decide +kernel) rfl (?_ : Wr E 806 [.ref 75, .ref 0, .ref 74, .int v3, .null, .null, .int v6, .int v7, .int v8, .int v9, .int v10, .int v11, .int v12, .null, .null, .null, .null, .null, .null, .null, .null] [.int (Int32.ofInt 1), .ref 0] M_41 L_42)
          refine wr_callV 69 0 [.int (Int32.ofInt 1)] (i := 73) (by decide +kernel) (by decide +kernel) (by decide +kernel) (by decide +kernel) rfl rfl rfl (rest := []) rfl rfl ?_
          refine t_X9_day hP (fun v_47 M_45 L_46 hP => ?_)
          show Wr E 809 [.ref 75, .ref 0, .ref 74, .int v3, .null, .null, .int v6, .int v7, .int v8, .int v9, .int v10, .int v11, .int v12, .null, .null, .null, .null, .null, .null, .null, .null] [.int v_47] M_45 L_46
          refine wr_seg (pc' := 811) [.iload 12] (by decide +kernel) rfl (?_ : Wr E 811 [.ref 75, .ref 0, .ref 74, .int v3, .null, .null, .int v6, .int v7, .int v8, .int v9, .int v10, .int v11, .int v12, .null, .null, .null, .null, .null, .null, .null, .null] [.int v12, .int v_47] M_45 L_46)
          refine wp_ifle (off := 7) 818 (by decide +kernel) (by decide) (fun c_48 => ?_) (fun c_48 => ?_)
          · have hP := hP.1 c_48
            refine wr_seg (pc' := 819) [.iconst 0] (by decide +kernel) rfl (?_ : Wr E 819 [.ref 75, .ref 0, .ref 74, .int v3, .null, .null, .int v6, .int v7, .int v8, .int v9, .int v10, .int v11, .int v12, .null, .null, .null, .null, .null, .null, .null, .null] [.int (Int32.ofInt 0), .int v_47] M_45 L_46)
            refine wp_icmpeq (off := 5) 824 (by decide +kernel) (by decide) (fun c_49 => ?_) (fun c_49 => ?_)
            · have hP := hP.1 c_49
              refine wp_drop (lo := [.ref 75, .ref 0, .ref 74, .int v3, .null, .null, .int v6, .null, .int v8, .null, .int v10, .int v11, .int v12, .null, .null, .null, .null, .null, .null, .null, .null]) ⟨Or.inr rfl, Or.inr rfl, Or.inr rfl, Or.inr rfl, Or.inl rfl, Or.inl rfl, Or.inr rfl, Or.inl rfl, Or.inr rfl, Or.inl rfl, Or.inr rfl, Or.inr rfl, Or.inr rfl, Or.inl rfl, Or.inl rfl, Or.inl rfl, Or.inl rfl, Or.inl rfl, Or.inl rfl, Or.inl rfl, Or.inl rfl, trivial⟩ ?_
              exact tl_L_law_824 hsc hK 100000 v3 v6 v8 v10 v11 v12 M_45 L_46 hP
            · have hP := hP.2 c_49
              refine wr_seg (pc' := 823) [.iconst 0] (by decide +kernel) rfl (?_ : Wr E 823 [.ref 75, .ref 0, .ref 74, .int v3, .null, .null, .int v6, .int v7, .int v8, .int v9, .int v10, .int v11, .int v12, .null, .null, .null, .null, .null, .null, .null, .null] [.int (Int32.ofInt 0)] M_45 L_46)
              have hv := hK _ _ _ hP
              rw [hv]
              exact wr_ret (by decide +kernel)
          · have hP := hP.2 c_48
            refine wr_seg (pc' := 819) [.iconst 1, .goto 0] (by decide +kernel) rfl (?_ : Wr E 819 [.ref 75, .ref 0, .ref 74, .int v3, .null, .null, .int v6, .int v7, .int v8, .int v9, .int v10, .int v11, .int v12, .null, .null, .null, .null, .null, .null, .null, .null] [.int (Int32.ofInt 1), .int v_47] M_45 L_46)
            refine wp_icmpeq (off := 5) 824 (by decide +kernel) (by decide) (fun c_147 => ?_) (fun c_147 => ?_)
            · have hP := hP.1 c_147
              refine wp_drop (lo := [.ref 75, .ref 0, .ref 74, .int v3, .null, .null, .int v6, .null, .int v8, .null, .int v10, .int v11, .int v12, .null, .null, .null, .null, .null, .null, .null, .null]) ⟨Or.inr rfl, Or.inr rfl, Or.inr rfl, Or.inr rfl, Or.inl rfl, Or.inl rfl, Or.inr rfl, Or.inl rfl, Or.inr rfl, Or.inl rfl, Or.inr rfl, Or.inr rfl, Or.inr rfl, Or.inl rfl, Or.inl rfl, Or.inl rfl, Or.inl rfl, Or.inl rfl, Or.inl rfl, Or.inl rfl, Or.inl rfl, trivial⟩ ?_
              exact tl_L_law_824 hsc hK 100000 v3 v6 v8 v10 v11 v12 M_45 L_46 hP
            · have hP := hP.2 c_147
              refine wr_seg (pc' := 823) [.iconst 0] (by decide +kernel) rfl (?_ : Wr E 823 [.ref 75, .ref 0, .ref 74, .int v3, .null, .null, .int v6, .int v7, .int v8, .int v9, .int v10, .int v11, .int v12, .null, .null, .null, .null, .null, .null, .null, .null] [.int (Int32.ofInt 0)] M_45 L_46)
              have hv := hK _ _ _ hP
              rw [hv]
              exact wr_ret (by decide +kernel)
def PL_L_law_773 (sc : SCT) (K : Int32 → Mem → LMem → Prop) (C_573 : Int32 → Int32 → Int32 → Int32 → Int32 → Int32 → Int32 → Int32 → Int32 → Mem → LMem → Prop) : Nat → Int32 → Int32 → Int32 → Int32 → Int32 → Int32 → Int32 → Int32 → Int32 → Mem → LMem → Prop
  | 0, _, _, _, _, _, _, _, _, _, _, _ => False
  | n_ + 1, v3, v6, v7, v8, v9, v10, v11, v12, v13, M, L => C_573 v3 v6 v7 v8 v9 v10 v11 v12 (v13 + Int32.ofInt 1) M L
theorem tl_L_law_773 {E : VE} {sc : SCT} (hsc : SCE E sc) {K : Int32 → Mem → LMem → Prop} {C_573 : Int32 → Int32 → Int32 → Int32 → Int32 → Int32 → Int32 → Int32 → Int32 → Mem → LMem → Prop} (hK : ∀ (v : Int32) (M : Mem) (L : LMem), K v M L → v = 1) (hC_573 : ∀ (v3 : Int32) (v6 : Int32) (v7 : Int32) (v8 : Int32) (v9 : Int32) (v10 : Int32) (v11 : Int32) (v12 : Int32) (v13 : Int32) (M : Mem) (L : LMem), C_573 v3 v6 v7 v8 v9 v10 v11 v12 v13 M L → Wr E 573 [.ref 75, .ref 0, .ref 74, .int v3, .null, .null, .int v6, .int v7, .int v8, .int v9, .int v10, .int v11, .int v12, .int v13, .null, .null, .null, .null, .null, .null, .null] [] M L) : ∀ (n_ : Nat) (v3 : Int32) (v6 : Int32) (v7 : Int32) (v8 : Int32) (v9 : Int32) (v10 : Int32) (v11 : Int32) (v12 : Int32) (v13 : Int32) (M : Mem) (L : LMem), PL_L_law_773 sc K C_573 n_ v3 v6 v7 v8 v9 v10 v11 v12 v13 M L → Wr E 773 [.ref 75, .ref 0, .ref 74, .int v3, .null, .null, .int v6, .int v7, .int v8, .int v9, .int v10, .int v11, .int v12, .int v13, .null, .null, .null, .null, .null, .null, .null] [] M L := by
  intro n_
  induction n_ with
  | zero => intro v3 v6 v7 v8 v9 v10 v11 v12 v13 M L hP; exact False.elim hP
  | succ n_ ih =>
    intro v3 v6 v7 v8 v9 v10 v11 v12 v13 M L hP
    unfold PL_L_law_773 at hP
    refine wr_seg (pc' := 573) [.iinc 13 1, .goto 0] (by decide +kernel) rfl (?_ : Wr E 573 [.ref 75, .ref 0, .ref 74, .int v3, .null, .null, .int v6, .int v7, .int v8, .int v9, .int v10, .int v11, .int v12, .int (v13 + Int32.ofInt 1), .null, .null, .null, .null, .null, .null, .null] [] M L)
    exact hC_573 v3 v6 v7 v8 v9 v10 v11 v12 (v13 + Int32.ofInt 1) M L hP
def PL_L_law_766 (sc : SCT) (K : Int32 → Mem → LMem → Prop) (C_573 : Int32 → Int32 → Int32 → Int32 → Int32 → Int32 → Int32 → Int32 → Int32 → Mem → LMem → Prop) : Nat → Int32 → Int32 → Int32 → Int32 → Int32 → Int32 → Int32 → Int32 → Int32 → Int32 → Mem → LMem → Prop
  | 0, _, _, _, _, _, _, _, _, _, _, _, _ => False
  | n_ + 1, v3, v6, v7, v8, v9, v10, v11, v12, v13, v17, M, L => PL_L_law_773 sc K C_573 100000 v3 v6 v7 v8 v9 v10 (v11 + v17) v12 v13 M L
theorem tl_L_law_766 {E : VE} {sc : SCT} (hsc : SCE E sc) {K : Int32 → Mem → LMem → Prop} {C_573 : Int32 → Int32 → Int32 → Int32 → Int32 → Int32 → Int32 → Int32 → Int32 → Mem → LMem → Prop} (hK : ∀ (v : Int32) (M : Mem) (L : LMem), K v M L → v = 1) (hC_573 : ∀ (v3 : Int32) (v6 : Int32) (v7 : Int32) (v8 : Int32) (v9 : Int32) (v10 : Int32) (v11 : Int32) (v12 : Int32) (v13 : Int32) (M : Mem) (L : LMem), C_573 v3 v6 v7 v8 v9 v10 v11 v12 v13 M L → Wr E 573 [.ref 75, .ref 0, .ref 74, .int v3, .null, .null, .int v6, .int v7, .int v8, .int v9, .int v10, .int v11, .int v12, .int v13, .null, .null, .null, .null, .null, .null, .null] [] M L) : ∀ (n_ : Nat) (v3 : Int32) (v6 : Int32) (v7 : Int32) (v8 : Int32) (v9 : Int32) (v10 : Int32) (v11 : Int32) (v12 : Int32) (v13 : Int32) (v17 : Int32) (M : Mem) (L : LMem), PL_L_law_766 sc K C_573 n_ v3 v6 v7 v8 v9 v10 v11 v12 v13 v17 M L → Wr E 766 [.ref 75, .ref 0, .ref 74, .int v3, .null, .null, .int v6, .int v7, .int v8, .int v9, .int v10, .int v11, .int v12, .int v13, .null, .null, .null, .int v17, .null, .null, .null] [] M L := by
  intro n_
  induction n_ with
  | zero => intro v3 v6 v7 v8 v9 v10 v11 v12 v13 v17 M L hP; exact False.elim hP
  | succ n_ ih =>
    intro v3 v6 v7 v8 v9 v10 v11 v12 v13 v17 M L hP
    unfold PL_L_law_766 at hP
    refine wr_seg (pc' := 773) [.iload 11, .iload 17, .iadd, .istore 11] (by decide +kernel) rfl (?_ : Wr E 773 [.ref 75, .ref 0, .ref 74, .int v3, .null, .null, .int v6, .int v7, .int v8, .int v9, .int v10, .int (v11 + v17), .int v12, .int v13, .null, .null, .null, .int v17, .null, .null, .null] [] M L)
    refine wp_drop (lo := [.ref 75, .ref 0, .ref 74, .int v3, .null, .null, .int v6, .int v7, .int v8, .int v9, .int v10, .int (v11 + v17), .int v12, .int v13, .null, .null, .null, .null, .null, .null, .null]) ⟨Or.inr rfl, Or.inr rfl, Or.inr rfl, Or.inr rfl, Or.inl rfl, Or.inl rfl, Or.inr rfl, Or.inr rfl, Or.inr rfl, Or.inr rfl, Or.inr rfl, Or.inr rfl, Or.inr rfl, Or.inr rfl, Or.inl rfl, Or.inl rfl, Or.inl rfl, Or.inl rfl, Or.inl rfl, Or.inl rfl, Or.inl rfl, trivial⟩ ?_
    exact tl_L_law_773 hsc hK hC_573 100000 v3 v6 v7 v8 v9 v10 (v11 + v17) v12 v13 M L hP
def PL_L_law_747 (sc : SCT) (K : Int32 → Mem → LMem → Prop) (C_573 : Int32 → Int32 → Int32 → Int32 → Int32 → Int32 → Int32 → Int32 → Int32 → Mem → LMem → Prop) : Nat → Int32 → Int32 → Int32 → Int32 → Int32 → Int32 → Int32 → Int32 → Int32 → Int32 → Mem → LMem → Prop
  | 0, _, _, _, _, _, _, _, _, _, _, _, _ => False
  | n_ + 1, v3, v6, v7, v8, v9, v10, v11, v12, v13, v17, M, L => ((v17 ≤ v10 → PL_L_law_766 sc K C_573 100000 v3 v6 v7 v8 v9 v10 v11 (v12 + Int32.ofInt 1) v13 v17 M L) ∧ (¬ (v17 ≤ v10) → PL_L_law_766 sc K C_573 100000 v3 v6 v7 v8 v9 v17 v11 (v12 + Int32.ofInt 1) v13 v17 M L))
theorem tl_L_law_747 {E : VE} {sc : SCT} (hsc : SCE E sc) {K : Int32 → Mem → LMem → Prop} {C_573 : Int32 → Int32 → Int32 → Int32 → Int32 → Int32 → Int32 → Int32 → Int32 → Mem → LMem → Prop} (hK : ∀ (v : Int32) (M : Mem) (L : LMem), K v M L → v = 1) (hC_573 : ∀ (v3 : Int32) (v6 : Int32) (v7 : Int32) (v8 : Int32) (v9 : Int32) (v10 : Int32) (v11 : Int32) (v12 : Int32) (v13 : Int32) (M : Mem) (L : LMem), C_573 v3 v6 v7 v8 v9 v10 v11 v12 v13 M L → Wr E 573 [.ref 75, .ref 0, .ref 74, .int v3, .null, .null, .int v6, .int v7, .int v8, .int v9, .int v10, .int v11, .int v12, .int v13, .null, .null, .null, .null, .null, .null, .null] [] M L) : ∀ (n_ : Nat) (v3 : Int32) (v6 : Int32) (v7 : Int32) (v8 : Int32) (v9 : Int32) (v10 : Int32) (v11 : Int32) (v12 : Int32) (v13 : Int32) (v17 : Int32) (M : Mem) (L : LMem), PL_L_law_747 sc K C_573 n_ v3 v6 v7 v8 v9 v10 v11 v12 v13 v17 M L → Wr E 747 [.ref 75, .ref 0, .ref 74, .int v3, .null, .null, .int v6, .int v7, .int v8, .int v9, .int v10, .int v11, .int v12, .int v13, .null, .null, .null, .int v17, .null, .null, .null] [] M L := by
  intro n_
  induction n_ with
  | zero => intro v3 v6 v7 v8 v9 v10 v11 v12 v13 v17 M L hP; exact False.elim hP
  | succ n_ ih =>
    intro v3 v6 v7 v8 v9 v10 v11 v12 v13 v17 M L hP
    unfold PL_L_law_747 at hP
    refine wr_seg (pc' := 754) [.iinc 12 1, .iload 17, .iload 10] (by decide +kernel) rfl (?_ : Wr E 754 [.ref 75, .ref 0, .ref 74, .int v3, .null, .null, .int v6, .int v7, .int v8, .int v9, .int v10, .int v11, .int (v12 + Int32.ofInt 1), .int v13, .null, .null, .null, .int v17, .null, .null, .null] [.int v10, .int v17] M L)
    refine wp_icmple (off := 8) 762 (by decide +kernel) (by decide) (fun c_165 => ?_) (fun c_165 => ?_)
    · have hP := hP.1 c_165
      refine wr_seg (pc' := 766) [.iload 10, .istore 10] (by decide +kernel) rfl (?_ : Wr E 766 [.ref 75, .ref 0, .ref 74, .int v3, .null, .null, .int v6, .int v7, .int v8, .int v9, .int v10, .int v11, .int (v12 + Int32.ofInt 1), .int v13, .null, .null, .null, .int v17, .null, .null, .null] [] M L)
      exact tl_L_law_766 hsc hK hC_573 100000 v3 v6 v7 v8 v9 v10 v11 (v12 + Int32.ofInt 1) v13 v17 M L hP
    · have hP := hP.2 c_165
      refine wr_seg (pc' := 766) [.iload 17, .goto 0, .istore 10] (by decide +kernel) rfl (?_ : Wr E 766 [.ref 75, .ref 0, .ref 74, .int v3, .null, .null, .int v6, .int v7, .int v8, .int v9, .int v17, .int v11, .int (v12 + Int32.ofInt 1), .int v13, .null, .null, .null, .int v17, .null, .null, .null] [] M L)
      exact tl_L_law_766 hsc hK hC_573 100000 v3 v6 v7 v8 v9 v17 v11 (v12 + Int32.ofInt 1) v13 v17 M L hP
def PL_L_law_710 (sc : SCT) (K : Int32 → Mem → LMem → Prop) (C_573 : Int32 → Int32 → Int32 → Int32 → Int32 → Int32 → Int32 → Int32 → Int32 → Mem → LMem → Prop) : Nat → Int32 → Int32 → Int32 → Int32 → Int32 → Int32 → Int32 → Int32 → Int32 → Int32 → Int32 → Int32 → Mem → LMem → Prop
  | 0, _, _, _, _, _, _, _, _, _, _, _, _, _, _ => False
  | n_ + 1, v3, v6, v7, v8, v9, v10, v11, v12, v13, v15, v16, v17, M, L => P_X9_call v15 v16 v17 (Int32.ofInt 60) M L (fun v_163 M_161 L_162 => ((v_163 = v12 → PL_L_law_747 sc K C_573 100000 v3 v6 (v7 + v17) (v8 + Int32.ofInt 5) (v9 &&& (Int32.ofInt 1)) v10 v11 v12 v13 v17 M_161 L_162) ∧ (¬ (v_163 = v12) → PL_L_law_747 sc K C_573 100000 v3 v6 (v7 + v17) (v8 + Int32.ofInt 5) (v9 &&& (Int32.ofInt 0)) v10 v11 v12 v13 v17 M_161 L_162)))
theorem tl_L_law_710 {E : VE} {sc : SCT} (hsc : SCE E sc) {K : Int32 → Mem → LMem → Prop} {C_573 : Int32 → Int32 → Int32 → Int32 → Int32 → Int32 → Int32 → Int32 → Int32 → Mem → LMem → Prop} (hK : ∀ (v : Int32) (M : Mem) (L : LMem), K v M L → v = 1) (hC_573 : ∀ (v3 : Int32) (v6 : Int32) (v7 : Int32) (v8 : Int32) (v9 : Int32) (v10 : Int32) (v11 : Int32) (v12 : Int32) (v13 : Int32) (M : Mem) (L : LMem), C_573 v3 v6 v7 v8 v9 v10 v11 v12 v13 M L → Wr E 573 [.ref 75, .ref 0, .ref 74, .int v3, .null, .null, .int v6, .int v7, .int v8, .int v9, .int v10, .int v11, .int v12, .int v13, .null, .null, .null, .null, .null, .null, .null] [] M L) : ∀ (n_ : Nat) (v3 : Int32) (v6 : Int32) (v7 : Int32) (v8 : Int32) (v9 : Int32) (v10 : Int32) (v11 : Int32) (v12 : Int32) (v13 : Int32) (v15 : Int32) (v16 : Int32) (v17 : Int32) (M : Mem) (L : LMem), PL_L_law_710 sc K C_573 n_ v3 v6 v7 v8 v9 v10 v11 v12 v13 v15 v16 v17 M L → Wr E 710 [.ref 75, .ref 0, .ref 74, .int v3, .null, .null, .int v6, .int v7, .int v8, .int v9, .int v10, .int v11, .int v12, .int v13, .null, .int v15, .int v16, .int v17, .null, .null, .null] [] M L := by
  intro n_
  induction n_ with
  | zero => intro v3 v6 v7 v8 v9 v10 v11 v12 v13 v15 v16 v17 M L hP; exact False.elim hP
  | succ n_ ih =>
    intro v3 v6 v7 v8 v9 v10 v11 v12 v13 v15 v16 v17 M L hP
    unfold PL_L_law_710 at hP
    refine wr_seg (pc' := 731) [.iinc 8 5, .iload 7, .iload 17, .iadd, .istore 7, .iload 9, .aload 1, .iload 15, .iload 16, .iload 17, .iconst 60] (by decide +kernel) rfl (?_ : Wr E 731 [.ref 75, .ref 0, .ref 74, .int v3, .null, .null, .int v6, .int (v7 + v17), .int (v8 + Int32.ofInt 5), .int v9, .int v10, .int v11, .int v12, .int v13, .null, .int v15, .int v16, .int v17, .null, .null, .null] [.int (Int32.ofInt 60), .int v17, .int v16, .int v15, .ref 0, .int v9] M L)
    refine wr_callV 72 0 [.int v15, .int v16, .int v17, .int (Int32.ofInt 60)] (i := 66) (by decide +kernel) (by decide +kernel) (by decide +kernel) (by decide +kernel) rfl rfl rfl (rest := [.int v9]) rfl rfl ?_
    refine t_X9_call hP (fun v_163 M_161 L_162 hP => ?_)
    show Wr E 734 [.ref 75, .ref 0, .ref 74, .int v3, .null, .null, .int v6, .int (v7 + v17), .int (v8 + Int32.ofInt 5), .int v9, .int v10, .int v11, .int v12, .int v13, .null, .int v15, .int v16, .int v17, .null, .null, .null] [.int v_163, .int v9] M_161 L_162
    refine wr_seg (pc' := 736) [.iload 12] (by decide +kernel) rfl (?_ : Wr E 736 [.ref 75, .ref 0, .ref 74, .int v3, .null, .null, .int v6, .int (v7 + v17), .int (v8 + Int32.ofInt 5), .int v9, .int v10, .int v11, .int v12, .int v13, .null, .int v15, .int v16, .int v17, .null, .null, .null] [.int v12, .int v_163, .int v9] M_161 L_162)
    refine wp_icmpne (off := 7) 743 (by decide +kernel) (by decide) (fun c_164 => ?_) (fun c_164 => ?_)
    · have hP := hP.2 c_164
      refine wr_seg (pc' := 747) [.iconst 0, .iand, .istore 9] (by decide +kernel) rfl (?_ : Wr E 747 [.ref 75, .ref 0, .ref 74, .int v3, .null, .null, .int v6, .int (v7 + v17), .int (v8 + Int32.ofInt 5), .int (v9 &&& (Int32.ofInt 0)), .int v10, .int v11, .int v12, .int v13, .null, .int v15, .int v16, .int v17, .null, .null, .null] [] M_161 L_162)
      refine wp_drop (lo := [.ref 75, .ref 0, .ref 74, .int v3, .null, .null, .int v6, .int (v7 + v17), .int (v8 + Int32.ofInt 5), .int (v9 &&& (Int32.ofInt 0)), .int v10, .int v11, .int v12, .int v13, .null, .null, .null, .int v17, .null, .null, .null]) ⟨Or.inr rfl, Or.inr rfl, Or.inr rfl, Or.inr rfl, Or.inl rfl, Or.inl rfl, Or.inr rfl, Or.inr rfl, Or.inr rfl, Or.inr rfl, Or.inr rfl, Or.inr rfl, Or.inr rfl, Or.inr rfl, Or.inl rfl, Or.inl rfl, Or.inl rfl, Or.inr rfl, Or.inl rfl, Or.inl rfl, Or.inl rfl, trivial⟩ ?_
      exact tl_L_law_747 hsc hK hC_573 100000 v3 v6 (v7 + v17) (v8 + Int32.ofInt 5) (v9 &&& (Int32.ofInt 0)) v10 v11 v12 v13 v17 M_161 L_162 hP
    · have hP := hP.1 c_164
      refine wr_seg (pc' := 747) [.iconst 1, .goto 0, .iand, .istore 9] (by decide +kernel) rfl (?_ : Wr E 747 [.ref 75, .ref 0, .ref 74, .int v3, .null, .null, .int v6, .int (v7 + v17), .int (v8 + Int32.ofInt 5), .int (v9 &&& (Int32.ofInt 1)), .int v10, .int v11, .int v12, .int v13, .null, .int v15, .int v16, .int v17, .null, .null, .null] [] M_161 L_162)
      refine wp_drop (lo := [.ref 75, .ref 0, .ref 74, .int v3, .null, .null, .int v6, .int (v7 + v17), .int (v8 + Int32.ofInt 5), .int (v9 &&& (Int32.ofInt 1)), .int v10, .int v11, .int v12, .int v13, .null, .null, .null, .int v17, .null, .null, .null]) ⟨Or.inr rfl, Or.inr rfl, Or.inr rfl, Or.inr rfl, Or.inl rfl, Or.inl rfl, Or.inr rfl, Or.inr rfl, Or.inr rfl, Or.inr rfl, Or.inr rfl, Or.inr rfl, Or.inr rfl, Or.inr rfl, Or.inl rfl, Or.inl rfl, Or.inl rfl, Or.inr rfl, Or.inl rfl, Or.inl rfl, Or.inl rfl, trivial⟩ ?_
      exact tl_L_law_747 hsc hK hC_573 100000 v3 v6 (v7 + v17) (v8 + Int32.ofInt 5) (v9 &&& (Int32.ofInt 1)) v10 v11 v12 v13 v17 M_161 L_162 hP
def PL_L_law_573 (sc : SCT) (K : Int32 → Mem → LMem → Prop)  : Nat → Int32 → Int32 → Int32 → Int32 → Int32 → Int32 → Int32 → Int32 → Int32 → Mem → LMem → Prop
  | 0, _, _, _, _, _, _, _, _, _, _, _ => False
  | n_ + 1, v3, v6, v7, v8, v9, v10, v11, v12, v13, M, L => (((Int32.ofInt 5) ≤ v13 → PL_L_law_779 sc K 100000 v3 v6 v7 v8 v9 v10 v11 v12 M L) ∧ (¬ ((Int32.ofInt 5) ≤ v13) → ((v3 ≤ 0 → PL_L_law_779 sc K 100000 v3 v6 v7 v8 v9 v10 v11 v12 M L) ∧ (¬ (v3 ≤ 0) → (CellOK (v13 + (Int32.ofInt 140)) v3 ∧ (vp_in ((Int32.ofInt 4) * (f_L_cell sc (v13 + (Int32.ofInt 140)) v3)) 48 ∧ (vp_in (((Int32.ofInt 4) * (f_L_cell sc (v13 + (Int32.ofInt 140)) v3)) + (Int32.ofInt 1)) 48 ∧ P_X9_far (M 74 (((Int32.ofInt 4) * (f_L_cell sc (v13 + (Int32.ofInt 140)) v3)).toNatClampNeg)) (M 74 ((((Int32.ofInt 4) * (f_L_cell sc (v13 + (Int32.ofInt 140)) v3)) + (Int32.ofInt 1)).toNatClampNeg)) M L (fun v_154 M_152 L_153 => (((Int32.ofInt 99) ≤ v_154 → PL_L_law_773 sc K (PL_L_law_573 sc K n_) 100000 v3 v6 v7 v8 v9 v10 v11 v12 v13 M_152 L_153) ∧ (¬ ((Int32.ofInt 99) ≤ v_154) → (CellOK (v13 + (Int32.ofInt 150)) (Int32.ofInt 9) ∧ P_X9_say ((Int32.ofInt 65) + (M 74 (((Int32.ofInt 4) * (f_L_cell sc (v13 + (Int32.ofInt 140)) v3)).toNatClampNeg))) M_152 L_153 (fun v_159 M_157 L_158 => ((v_159 ≤ 0 → PL_L_law_710 sc K (PL_L_law_573 sc K n_) 100000 v3 v6 v7 v8 (v9 &&& (Int32.ofInt 0)) v10 v11 v12 v13 (M 74 (((Int32.ofInt 4) * (f_L_cell sc (v13 + (Int32.ofInt 140)) v3)).toNatClampNeg)) (M 74 ((((Int32.ofInt 4) * (f_L_cell sc (v13 + (Int32.ofInt 140)) v3)) + (Int32.ofInt 1)).toNatClampNeg)) ((Int32.ofInt 1) + (f_L_cell sc (v13 + (Int32.ofInt 150)) (Int32.ofInt 9))) M_157 L_158) ∧ (¬ (v_159 ≤ 0) → P_X9_say ((Int32.ofInt 65) + (M 74 ((((Int32.ofInt 4) * (f_L_cell sc (v13 + (Int32.ofInt 140)) v3)) + (Int32.ofInt 1)).toNatClampNeg))) M_157 L_158 (fun v_168 M_166 L_167 => ((v_168 ≤ 0 → PL_L_law_710 sc K (PL_L_law_573 sc K n_) 100000 v3 v6 v7 v8 (v9 &&& (Int32.ofInt 0)) v10 v11 v12 v13 (M 74 (((Int32.ofInt 4) * (f_L_cell sc (v13 + (Int32.ofInt 140)) v3)).toNatClampNeg)) (M 74 ((((Int32.ofInt 4) * (f_L_cell sc (v13 + (Int32.ofInt 140)) v3)) + (Int32.ofInt 1)).toNatClampNeg)) ((Int32.ofInt 1) + (f_L_cell sc (v13 + (Int32.ofInt 150)) (Int32.ofInt 9))) M_166 L_167) ∧ (¬ (v_168 ≤ 0) → P_X9_say ((Int32.ofInt 48) + ((Int32.ofInt 1) + (f_L_cell sc (v13 + (Int32.ofInt 150)) (Int32.ofInt 9)))) M_166 L_167 (fun v_172 M_170 L_171 => ((v_172 ≤ 0 → PL_L_law_710 sc K (PL_L_law_573 sc K n_) 100000 v3 v6 v7 v8 (v9 &&& (Int32.ofInt 0)) v10 v11 v12 v13 (M 74 (((Int32.ofInt 4) * (f_L_cell sc (v13 + (Int32.ofInt 140)) v3)).toNatClampNeg)) (M 74 ((((Int32.ofInt 4) * (f_L_cell sc (v13 + (Int32.ofInt 140)) v3)) + (Int32.ofInt 1)).toNatClampNeg)) ((Int32.ofInt 1) + (f_L_cell sc (v13 + (Int32.ofInt 150)) (Int32.ofInt 9))) M_170 L_171) ∧ (¬ (v_172 ≤ 0) → P_X9_say (Int32.ofInt 46) M_170 L_171 (fun v_176 M_174 L_175 => ((v_176 ≤ 0 → PL_L_law_710 sc K (PL_L_law_573 sc K n_) 100000 v3 v6 v7 v8 (v9 &&& (Int32.ofInt 0)) v10 v11 v12 v13 (M 74 (((Int32.ofInt 4) * (f_L_cell sc (v13 + (Int32.ofInt 140)) v3)).toNatClampNeg)) (M 74 ((((Int32.ofInt 4) * (f_L_cell sc (v13 + (Int32.ofInt 140)) v3)) + (Int32.ofInt 1)).toNatClampNeg)) ((Int32.ofInt 1) + (f_L_cell sc (v13 + (Int32.ofInt 150)) (Int32.ofInt 9))) M_174 L_175) ∧ (¬ (v_176 ≤ 0) → P_X9_say ((Int32.ofInt 48) + ((Int32.ofInt 1) + (f_L_cell sc (v13 + (Int32.ofInt 150)) (Int32.ofInt 9)))) M_174 L_175 (fun v_180 M_178 L_179 => ((v_180 ≤ 0 → PL_L_law_710 sc K (PL_L_law_573 sc K n_) 100000 v3 v6 v7 v8 (v9 &&& (Int32.ofInt 0)) v10 v11 v12 v13 (M 74 (((Int32.ofInt 4) * (f_L_cell sc (v13 + (Int32.ofInt 140)) v3)).toNatClampNeg)) (M 74 ((((Int32.ofInt 4) * (f_L_cell sc (v13 + (Int32.ofInt 140)) v3)) + (Int32.ofInt 1)).toNatClampNeg)) ((Int32.ofInt 1) + (f_L_cell sc (v13 + (Int32.ofInt 150)) (Int32.ofInt 9))) M_178 L_179) ∧ (¬ (v_180 ≤ 0) → PL_L_law_710 sc K (PL_L_law_573 sc K n_) 100000 v3 v6 v7 v8 (v9 &&& (Int32.ofInt 1)) v10 v11 v12 v13 (M 74 (((Int32.ofInt 4) * (f_L_cell sc (v13 + (Int32.ofInt 140)) v3)).toNatClampNeg)) (M 74 ((((Int32.ofInt 4) * (f_L_cell sc (v13 + (Int32.ofInt 140)) v3)) + (Int32.ofInt 1)).toNatClampNeg)) ((Int32.ofInt 1) + (f_L_cell sc (v13 + (Int32.ofInt 150)) (Int32.ofInt 9))) M_178 L_179))))))))))))))))))))))))))
theorem tl_L_law_573 {E : VE} {sc : SCT} (hsc : SCE E sc) {K : Int32 → Mem → LMem → Prop}  (hK : ∀ (v : Int32) (M : Mem) (L : LMem), K v M L → v = 1)  : ∀ (n_ : Nat) (v3 : Int32) (v6 : Int32) (v7 : Int32) (v8 : Int32) (v9 : Int32) (v10 : Int32) (v11 : Int32) (v12 : Int32) (v13 : Int32) (M : Mem) (L : LMem), PL_L_law_573 sc K n_ v3 v6 v7 v8 v9 v10 v11 v12 v13 M L → Wr E 573 [.ref 75, .ref 0, .ref 74, .int v3, .null, .null, .int v6, .int v7, .int v8, .int v9, .int v10, .int v11, .int v12, .int v13, .null, .null, .null, .null, .null, .null, .null] [] M L := by
  intro n_
  induction n_ with
  | zero => intro v3 v6 v7 v8 v9 v10 v11 v12 v13 M L hP; exact False.elim hP
  | succ n_ ih =>
    intro v3 v6 v7 v8 v9 v10 v11 v12 v13 M L hP
    unfold PL_L_law_573 at hP
    refine wr_seg (pc' := 576) [.iload 13, .iconst 5] (by decide +kernel) rfl (?_ : Wr E 576 [.ref 75, .ref 0, .ref 74, .int v3, .null, .null, .int v6, .int v7, .int v8, .int v9, .int v10, .int v11, .int v12, .int v13, .null, .null, .null, .null, .null, .null, .null] [.int (Int32.ofInt 5), .int v13] M L)
    refine wp_icmpge (off := 203) 779 (by decide +kernel) (by decide) (fun c_35 => ?_) (fun c_35 => ?_)
    · have hP := hP.1 c_35
      refine wp_drop (lo := [.ref 75, .ref 0, .ref 74, .int v3, .null, .null, .int v6, .int v7, .int v8, .int v9, .int v10, .int v11, .int v12, .null, .null, .null, .null, .null, .null, .null, .null]) ⟨Or.inr rfl, Or.inr rfl, Or.inr rfl, Or.inr rfl, Or.inl rfl, Or.inl rfl, Or.inr rfl, Or.inr rfl, Or.inr rfl, Or.inr rfl, Or.inr rfl, Or.inr rfl, Or.inr rfl, Or.inl rfl, Or.inl rfl, Or.inl rfl, Or.inl rfl, Or.inl rfl, Or.inl rfl, Or.inl rfl, Or.inl rfl, trivial⟩ ?_
      exact tl_L_law_779 hsc hK 100000 v3 v6 v7 v8 v9 v10 v11 v12 M L hP
    · have hP := hP.2 c_35
      refine wr_seg (pc' := 580) [.iload 3] (by decide +kernel) rfl (?_ : Wr E 580 [.ref 75, .ref 0, .ref 74, .int v3, .null, .null, .int v6, .int v7, .int v8, .int v9, .int v10, .int v11, .int v12, .int v13, .null, .null, .null, .null, .null, .null, .null] [.int v3] M L)
      refine wp_ifle (off := 199) 779 (by decide +kernel) (by decide) (fun c_148 => ?_) (fun c_148 => ?_)
      · have hP := hP.1 c_148
        refine wp_drop (lo := [.ref 75, .ref 0, .ref 74, .int v3, .null, .null, .int v6, .int v7, .int v8, .int v9, .int v10, .int v11, .int v12, .null, .null, .null, .null, .null, .null, .null, .null]) ⟨Or.inr rfl, Or.inr rfl, Or.inr rfl, Or.inr rfl, Or.inl rfl, Or.inl rfl, Or.inr rfl, Or.inr rfl, Or.inr rfl, Or.inr rfl, Or.inr rfl, Or.inr rfl, Or.inr rfl, Or.inl rfl, Or.inl rfl, Or.inl rfl, Or.inl rfl, Or.inl rfl, Or.inl rfl, Or.inl rfl, Or.inl rfl, trivial⟩ ?_
        exact tl_L_law_779 hsc hK 100000 v3 v6 v7 v8 v9 v10 v11 v12 M L hP
      · have hP := hP.2 c_148
        refine wr_seg (pc' := 591) [.aload 0, .iload 13, .iconst 140, .iadd, .iload 3] (by decide +kernel) rfl (?_ : Wr E 591 [.ref 75, .ref 0, .ref 74, .int v3, .null, .null, .int v6, .int v7, .int v8, .int v9, .int v10, .int v11, .int v12, .int v13, .null, .null, .null, .null, .null, .null, .null] [.int v3, .int (v13 + (Int32.ofInt 140)), .ref 75] M L)
        refine wr_callS 89 [.ref 75, .int (v13 + (Int32.ofInt 140)), .int v3] (i := 14) (by decide +kernel) (by decide +kernel) (by decide +kernel) rfl rfl rfl (rest := []) rfl rfl ?_
        obtain ⟨a_149, hP⟩ := hP
        refine s_L_cell hsc (v13 + (Int32.ofInt 140)) v3 a_149 ?_
        show Wr E 594 [.ref 75, .ref 0, .ref 74, .int v3, .null, .null, .int v6, .int v7, .int v8, .int v9, .int v10, .int v11, .int v12, .int v13, .null, .null, .null, .null, .null, .null, .null] [.int (f_L_cell sc (v13 + (Int32.ofInt 140)) v3)] M L
        obtain ⟨a_150, hP⟩ := hP
        refine wr_seg (pc' := 602) [.istore 14, .aload 2, .iconst 4, .iload 14, .imul, .iaload] (by decide +kernel) rfl (show aok 74 0 ((Int32.ofInt 4) * (f_L_cell sc (v13 + (Int32.ofInt 140)) v3)) ∧ Wr E 602 [.ref 75, .ref 0, .ref 74, .int v3, .null, .null, .int v6, .int v7, .int v8, .int v9, .int v10, .int v11, .int v12, .int v13, .int (f_L_cell sc (v13 + (Int32.ofInt 140)) v3), .null, .null, .null, .null, .null, .null] [.int (M 74 (((Int32.ofInt 4) * (f_L_cell sc (v13 + (Int32.ofInt 140)) v3)).toNatClampNeg))] M L from ⟨⟨rfl, a_150⟩, ?_⟩)
        obtain ⟨a_151, hP⟩ := hP
        refine wr_seg (pc' := 612) [.istore 15, .aload 2, .iconst 4, .iload 14, .imul, .iconst 1, .iadd, .iaload] (by decide +kernel) rfl (show aok 74 0 (((Int32.ofInt 4) * (f_L_cell sc (v13 + (Int32.ofInt 140)) v3)) + (Int32.ofInt 1)) ∧ Wr E 612 [.ref 75, .ref 0, .ref 74, .int v3, .null, .null, .int v6, .int v7, .int v8, .int v9, .int v10, .int v11, .int v12, .int v13, .int (f_L_cell sc (v13 + (Int32.ofInt 140)) v3), .int (M 74 (((Int32.ofInt 4) * (f_L_cell sc (v13 + (Int32.ofInt 140)) v3)).toNatClampNeg)), .null, .null, .null, .null, .null] [.int (M 74 ((((Int32.ofInt 4) * (f_L_cell sc (v13 + (Int32.ofInt 140)) v3)) + (Int32.ofInt 1)).toNatClampNeg))] M L from ⟨⟨rfl, a_151⟩, ?_⟩)
        refine wr_seg (pc' := 619) [.istore 16, .aload 1, .iload 15, .iload 16] (by decide +kernel) rfl (?_ : Wr E 619 [.ref 75, .ref 0, .ref 74, .int v3, .null, .null, .int v6, .int v7, .int v8, .int v9, .int v10, .int v11, .int v12, .int v13, .int (f_L_cell sc (v13 + (Int32.ofInt 140)) v3), .int (M 74 (((Int32.ofInt 4) * (f_L_cell sc (v13 + (Int32.ofInt 140)) v3)).toNatClampNeg)), .int (M 74 ((((Int32.ofInt 4) * (f_L_cell sc (v13 + (Int32.ofInt 140)) v3)) + (Int32.ofInt 1)).toNatClampNeg)), .null, .null, .null, .null] [.int (M 74 ((((Int32.ofInt 4) * (f_L_cell sc (v13 + (Int32.ofInt 140)) v3)) + (Int32.ofInt 1)).toNatClampNeg)), .int (M 74 (((Int32.ofInt 4) * (f_L_cell sc (v13 + (Int32.ofInt 140)) v3)).toNatClampNeg)), .ref 0] M L)
        refine wr_callV 79 0 [.int (M 74 (((Int32.ofInt 4) * (f_L_cell sc (v13 + (Int32.ofInt 140)) v3)).toNatClampNeg)), .int (M 74 ((((Int32.ofInt 4) * (f_L_cell sc (v13 + (Int32.ofInt 140)) v3)) + (Int32.ofInt 1)).toNatClampNeg))] (i := 54) (by decide +kernel) (by decide +kernel) (by decide +kernel) (by decide +kernel) rfl rfl rfl (rest := []) rfl rfl ?_
        refine t_X9_far hP (fun v_154 M_152 L_153 hP => ?_)
        show Wr E 622 [.ref 75, .ref 0, .ref 74, .int v3, .null, .null, .int v6, .int v7, .int v8, .int v9, .int v10, .int v11, .int v12, .int v13, .int (f_L_cell sc (v13 + (Int32.ofInt 140)) v3), .int (M 74 (((Int32.ofInt 4) * (f_L_cell sc (v13 + (Int32.ofInt 140)) v3)).toNatClampNeg)), .int (M 74 ((((Int32.ofInt 4) * (f_L_cell sc (v13 + (Int32.ofInt 140)) v3)) + (Int32.ofInt 1)).toNatClampNeg)), .null, .null, .null, .null] [.int v_154] M_152 L_153
        refine wr_seg (pc' := 624) [.iconst 99] (by decide +kernel) rfl (?_ : Wr E 624 [.ref 75, .ref 0, .ref 74, .int v3, .null, .null, .int v6, .int v7, .int v8, .int v9, .int v10, .int v11, .int v12, .int v13, .int (f_L_cell sc (v13 + (Int32.ofInt 140)) v3), .int (M 74 (((Int32.ofInt 4) * (f_L_cell sc (v13 + (Int32.ofInt 140)) v3)).toNatClampNeg)), .int (M 74 ((((Int32.ofInt 4) * (f_L_cell sc (v13 + (Int32.ofInt 140)) v3)) + (Int32.ofInt 1)).toNatClampNeg)), .null, .null, .null, .null] [.int (Int32.ofInt 99), .int v_154] M_152 L_153)
        refine wp_icmpge (off := 149) 773 (by decide +kernel) (by decide) (fun c_155 => ?_) (fun c_155 => ?_)
        · have hP := hP.1 c_155
          refine wp_drop (lo := [.ref 75, .ref 0, .ref 74, .int v3, .null, .null, .int v6, .int v7, .int v8, .int v9, .int v10, .int v11, .int v12, .int v13, .null, .null, .null, .null, .null, .null, .null]) ⟨Or.inr rfl, Or.inr rfl, Or.inr rfl, Or.inr rfl, Or.inl rfl, Or.inl rfl, Or.inr rfl, Or.inr rfl, Or.inr rfl, Or.inr rfl, Or.inr rfl, Or.inr rfl, Or.inr rfl, Or.inr rfl, Or.inl rfl, Or.inl rfl, Or.inl rfl, Or.inl rfl, Or.inl rfl, Or.inl rfl, Or.inl rfl, trivial⟩ ?_
          exact tl_L_law_773 hsc hK (fun v3 v6 v7 v8 v9 v10 v11 v12 v13 M L hP => ih v3 v6 v7 v8 v9 v10 v11 v12 v13 M L hP) 100000 v3 v6 v7 v8 v9 v10 v11 v12 v13 M_152 L_153 hP
        · have hP := hP.2 c_155
          refine wr_seg (pc' := 637) [.iconst 1, .aload 0, .iload 13, .iconst 150, .iadd, .iconst 9] (by decide +kernel) rfl (?_ : Wr E 637 [.ref 75, .ref 0, .ref 74, .int v3, .null, .null, .int v6, .int v7, .int v8, .int v9, .int v10, .int v11, .int v12, .int v13, .int (f_L_cell sc (v13 + (Int32.ofInt 140)) v3), .int (M 74 (((Int32.ofInt 4) * (f_L_cell sc (v13 + (Int32.ofInt 140)) v3)).toNatClampNeg)), .int (M 74 ((((Int32.ofInt 4) * (f_L_cell sc (v13 + (Int32.ofInt 140)) v3)) + (Int32.ofInt 1)).toNatClampNeg)), .null, .null, .null, .null] [.int (Int32.ofInt 9), .int (v13 + (Int32.ofInt 150)), .ref 75, .int (Int32.ofInt 1)] M_152 L_153)
          refine wr_callS 89 [.ref 75, .int (v13 + (Int32.ofInt 150)), .int (Int32.ofInt 9)] (i := 14) (by decide +kernel) (by decide +kernel) (by decide +kernel) rfl rfl rfl (rest := [.int (Int32.ofInt 1)]) rfl rfl ?_
          obtain ⟨a_156, hP⟩ := hP
          refine s_L_cell hsc (v13 + (Int32.ofInt 150)) (Int32.ofInt 9) a_156 ?_
          show Wr E 640 [.ref 75, .ref 0, .ref 74, .int v3, .null, .null, .int v6, .int v7, .int v8, .int v9, .int v10, .int v11, .int v12, .int v13, .int (f_L_cell sc (v13 + (Int32.ofInt 140)) v3), .int (M 74 (((Int32.ofInt 4) * (f_L_cell sc (v13 + (Int32.ofInt 140)) v3)).toNatClampNeg)), .int (M 74 ((((Int32.ofInt 4) * (f_L_cell sc (v13 + (Int32.ofInt 140)) v3)) + (Int32.ofInt 1)).toNatClampNeg)), .null, .null, .null, .null] [.int (f_L_cell sc (v13 + (Int32.ofInt 150)) (Int32.ofInt 9)), .int (Int32.ofInt 1)] M_152 L_153
          refine wr_seg (pc' := 651) [.iadd, .istore 17, .iload 9, .aload 1, .iconst 65, .iload 15, .iadd] (by decide +kernel) rfl (?_ : Wr E 651 [.ref 75, .ref 0, .ref 74, .int v3, .null, .null, .int v6, .int v7, .int v8, .int v9, .int v10, .int v11, .int v12, .int v13, .int (f_L_cell sc (v13 + (Int32.ofInt 140)) v3), .int (M 74 (((Int32.ofInt 4) * (f_L_cell sc (v13 + (Int32.ofInt 140)) v3)).toNatClampNeg)), .int (M 74 ((((Int32.ofInt 4) * (f_L_cell sc (v13 + (Int32.ofInt 140)) v3)) + (Int32.ofInt 1)).toNatClampNeg)), .int ((Int32.ofInt 1) + (f_L_cell sc (v13 + (Int32.ofInt 150)) (Int32.ofInt 9))), .null, .null, .null] [.int ((Int32.ofInt 65) + (M 74 (((Int32.ofInt 4) * (f_L_cell sc (v13 + (Int32.ofInt 140)) v3)).toNatClampNeg))), .ref 0, .int v9] M_152 L_153)
          refine wr_callV 60 0 [.int ((Int32.ofInt 65) + (M 74 (((Int32.ofInt 4) * (f_L_cell sc (v13 + (Int32.ofInt 140)) v3)).toNatClampNeg)))] (i := 20) (by decide +kernel) (by decide +kernel) (by decide +kernel) (by decide +kernel) rfl rfl rfl (rest := [.int v9]) rfl rfl ?_
          refine t_X9_say hP (fun v_159 M_157 L_158 hP => ?_)
          show Wr E 654 [.ref 75, .ref 0, .ref 74, .int v3, .null, .null, .int v6, .int v7, .int v8, .int v9, .int v10, .int v11, .int v12, .int v13, .int (f_L_cell sc (v13 + (Int32.ofInt 140)) v3), .int (M 74 (((Int32.ofInt 4) * (f_L_cell sc (v13 + (Int32.ofInt 140)) v3)).toNatClampNeg)), .int (M 74 ((((Int32.ofInt 4) * (f_L_cell sc (v13 + (Int32.ofInt 140)) v3)) + (Int32.ofInt 1)).toNatClampNeg)), .int ((Int32.ofInt 1) + (f_L_cell sc (v13 + (Int32.ofInt 150)) (Int32.ofInt 9))), .null, .null, .null] [.int v_159, .int v9] M_157 L_158
          refine wp_ifle (off := 52) 706 (by decide +kernel) (by decide) (fun c_160 => ?_) (fun c_160 => ?_)
          · have hP := hP.1 c_160
            refine wr_seg (pc' := 710) [.iconst 0, .iand, .istore 9] (by decide +kernel) rfl (?_ : Wr E 710 [.ref 75, .ref 0, .ref 74, .int v3, .null, .null, .int v6, .int v7, .int v8, .int (v9 &&& (Int32.ofInt 0)), .int v10, .int v11, .int v12, .int v13, .int (f_L_cell sc (v13 + (Int32.ofInt 140)) v3), .int (M 74 (((Int32.ofInt 4) * (f_L_cell sc (v13 + (Int32.ofInt 140)) v3)).toNatClampNeg)), .int (M 74 ((((Int32.ofInt 4) * (f_L_cell sc (v13 + (Int32.ofInt 140)) v3)) + (Int32.ofInt 1)).toNatClampNeg)), .int ((Int32.ofInt 1) + (f_L_cell sc (v13 + (Int32.ofInt 150)) (Int32.ofInt 9))), .null, .null, .null] [] M_157 L_158)
            refine wp_drop (lo := [.ref 75, .ref 0, .ref 74, .int v3, .null, .null, .int v6, .int v7, .int v8, .int (v9 &&& (Int32.ofInt 0)), .int v10, .int v11, .int v12, .int v13, .null, .int (M 74 (((Int32.ofInt 4) * (f_L_cell sc (v13 + (Int32.ofInt 140)) v3)).toNatClampNeg)), .int (M 74 ((((Int32.ofInt 4) * (f_L_cell sc (v13 + (Int32.ofInt 140)) v3)) + (Int32.ofInt 1)).toNatClampNeg)), .int ((Int32.ofInt 1) + (f_L_cell sc (v13 + (Int32.ofInt 150)) (Int32.ofInt 9))), .null, .null, .null]) ⟨Or.inr rfl, Or.inr rfl, Or.inr rfl, Or.inr rfl, Or.inl rfl, Or.inl rfl, Or.inr rfl, Or.inr rfl, Or.inr rfl, Or.inr rfl, Or.inr rfl, Or.inr rfl, Or.inr rfl, Or.inr rfl, Or.inl rfl, Or.inr rfl, Or.inr rfl, Or.inr rfl, Or.inl rfl, Or.inl rfl, Or.inl rfl, trivial⟩ ?_
            exact tl_L_law_710 hsc hK (fun v3 v6 v7 v8 v9 v10 v11 v12 v13 M L hP => ih v3 v6 v7 v8 v9 v10 v11 v12 v13 M L hP) 100000 v3 v6 v7 v8 (v9 &&& (Int32.ofInt 0)) v10 v11 v12 v13 (M 74 (((Int32.ofInt 4) * (f_L_cell sc (v13 + (Int32.ofInt 140)) v3)).toNatClampNeg)) (M 74 ((((Int32.ofInt 4) * (f_L_cell sc (v13 + (Int32.ofInt 140)) v3)) + (Int32.ofInt 1)).toNatClampNeg)) ((Int32.ofInt 1) + (f_L_cell sc (v13 + (Int32.ofInt 150)) (Int32.ofInt 9))) M_157 L_158 hP
          · have hP := hP.2 c_160
            refine wr_seg (pc' := 663) [.aload 1, .iconst 65, .iload 16, .iadd] (by decide +kernel) rfl (?_ : Wr E 663 [.ref 75, .ref 0, .ref 74, .int v3, .null, .null, .int v6, .int v7, .int v8, .int v9, .int v10, .int v11, .int v12, .int v13, .int (f_L_cell sc (v13 + (Int32.ofInt 140)) v3), .int (M 74 (((Int32.ofInt 4) * (f_L_cell sc (v13 + (Int32.ofInt 140)) v3)).toNatClampNeg)), .int (M 74 ((((Int32.ofInt 4) * (f_L_cell sc (v13 + (Int32.ofInt 140)) v3)) + (Int32.ofInt 1)).toNatClampNeg)), .int ((Int32.ofInt 1) + (f_L_cell sc (v13 + (Int32.ofInt 150)) (Int32.ofInt 9))), .null, .null, .null] [.int ((Int32.ofInt 65) + (M 74 ((((Int32.ofInt 4) * (f_L_cell sc (v13 + (Int32.ofInt 140)) v3)) + (Int32.ofInt 1)).toNatClampNeg))), .ref 0, .int v9] M_157 L_158)
            refine wr_callV 60 0 [.int ((Int32.ofInt 65) + (M 74 ((((Int32.ofInt 4) * (f_L_cell sc (v13 + (Int32.ofInt 140)) v3)) + (Int32.ofInt 1)).toNatClampNeg)))] (i := 20) (by decide +kernel) (by decide +kernel) (by decide +kernel) (by decide +kernel) rfl rfl rfl (rest := [.int v9]) rfl rfl ?_
            refine t_X9_say hP (fun v_168 M_166 L_167 hP => ?_)
            show Wr E 666 [.ref 75, .ref 0, .ref 74, .int v3, .null, .null, .int v6, .int v7, .int v8, .int v9, .int v10, .int v11, .int v12, .int v13, .int (f_L_cell sc (v13 + (Int32.ofInt 140)) v3), .int (M 74 (((Int32.ofInt 4) * (f_L_cell sc (v13 + (Int32.ofInt 140)) v3)).toNatClampNeg)), .int (M 74 ((((Int32.ofInt 4) * (f_L_cell sc (v13 + (Int32.ofInt 140)) v3)) + (Int32.ofInt 1)).toNatClampNeg)), .int ((Int32.ofInt 1) + (f_L_cell sc (v13 + (Int32.ofInt 150)) (Int32.ofInt 9))), .null, .null, .null] [.int v_168, .int v9] M_166 L_167
            refine wp_ifle (off := 40) 706 (by decide +kernel) (by decide) (fun c_169 => ?_) (fun c_169 => ?_)
            · have hP := hP.1 c_169
              refine wr_seg (pc' := 710) [.iconst 0, .iand, .istore 9] (by decide +kernel) rfl (?_ : Wr E 710 [.ref 75, .ref 0, .ref 74, .int v3, .null, .null, .int v6, .int v7, .int v8, .int (v9 &&& (Int32.ofInt 0)), .int v10, .int v11, .int v12, .int v13, .int (f_L_cell sc (v13 + (Int32.ofInt 140)) v3), .int (M 74 (((Int32.ofInt 4) * (f_L_cell sc (v13 + (Int32.ofInt 140)) v3)).toNatClampNeg)), .int (M 74 ((((Int32.ofInt 4) * (f_L_cell sc (v13 + (Int32.ofInt 140)) v3)) + (Int32.ofInt 1)).toNatClampNeg)), .int ((Int32.ofInt 1) + (f_L_cell sc (v13 + (Int32.ofInt 150)) (Int32.ofInt 9))), .null, .null, .null] [] M_166 L_167)
              refine wp_drop (lo := [.ref 75, .ref 0, .ref 74, .int v3, .null, .null, .int v6, .int v7, .int v8, .int (v9 &&& (Int32.ofInt 0)), .int v10, .int v11, .int v12, .int v13, .null, .int (M 74 (((Int32.ofInt 4) * (f_L_cell sc (v13 + (Int32.ofInt 140)) v3)).toNatClampNeg)), .int (M 74 ((((Int32.ofInt 4) * (f_L_cell sc (v13 + (Int32.ofInt 140)) v3)) + (Int32.ofInt 1)).toNatClampNeg)), .int ((Int32.ofInt 1) + (f_L_cell sc (v13 + (Int32.ofInt 150)) (Int32.ofInt 9))), .null, .null, .null]) ⟨Or.inr rfl, Or.inr rfl, Or.inr rfl, Or.inr rfl, Or.inl rfl, Or.inl rfl, Or.inr rfl, Or.inr rfl, Or.inr rfl, Or.inr rfl, Or.inr rfl, Or.inr rfl, Or.inr rfl, Or.inr rfl, Or.inl rfl, Or.inr rfl, Or.inr rfl, Or.inr rfl, Or.inl rfl, Or.inl rfl, Or.inl rfl, trivial⟩ ?_
              exact tl_L_law_710 hsc hK (fun v3 v6 v7 v8 v9 v10 v11 v12 v13 M L hP => ih v3 v6 v7 v8 v9 v10 v11 v12 v13 M L hP) 100000 v3 v6 v7 v8 (v9 &&& (Int32.ofInt 0)) v10 v11 v12 v13 (M 74 (((Int32.ofInt 4) * (f_L_cell sc (v13 + (Int32.ofInt 140)) v3)).toNatClampNeg)) (M 74 ((((Int32.ofInt 4) * (f_L_cell sc (v13 + (Int32.ofInt 140)) v3)) + (Int32.ofInt 1)).toNatClampNeg)) ((Int32.ofInt 1) + (f_L_cell sc (v13 + (Int32.ofInt 150)) (Int32.ofInt 9))) M_166 L_167 hP
            · have hP := hP.2 c_169
              refine wr_seg (pc' := 675) [.aload 1, .iconst 48, .iload 17, .iadd] (by decide +kernel) rfl (?_ : Wr E 675 [.ref 75, .ref 0, .ref 74, .int v3, .null, .null, .int v6, .int v7, .int v8, .int v9, .int v10, .int v11, .int v12, .int v13, .int (f_L_cell sc (v13 + (Int32.ofInt 140)) v3), .int (M 74 (((Int32.ofInt 4) * (f_L_cell sc (v13 + (Int32.ofInt 140)) v3)).toNatClampNeg)), .int (M 74 ((((Int32.ofInt 4) * (f_L_cell sc (v13 + (Int32.ofInt 140)) v3)) + (Int32.ofInt 1)).toNatClampNeg)), .int ((Int32.ofInt 1) + (f_L_cell sc (v13 + (Int32.ofInt 150)) (Int32.ofInt 9))), .null, .null, .null] [.int ((Int32.ofInt 48) + ((Int32.ofInt 1) + (f_L_cell sc (v13 + (Int32.ofInt 150)) (Int32.ofInt 9)))), .ref 0, .int v9] M_166 L_167)
              refine wr_callV 60 0 [.int ((Int32.ofInt 48) + ((Int32.ofInt 1) + (f_L_cell sc (v13 + (Int32.ofInt 150)) (Int32.ofInt 9))))] (i := 20) (by decide +kernel) (by decide +kernel) (by decide +kernel) (by decide +kernel) rfl rfl rfl (rest := [.int v9]) rfl rfl ?_
              refine t_X9_say hP (fun v_172 M_170 L_171 hP => ?_)
              show Wr E 678 [.ref 75, .ref 0, .ref 74, .int v3, .null, .null, .int v6, .int v7, .int v8, .int v9, .int v10, .int v11, .int v12, .int v13, .int (f_L_cell sc (v13 + (Int32.ofInt 140)) v3), .int (M 74 (((Int32.ofInt 4) * (f_L_cell sc (v13 + (Int32.ofInt 140)) v3)).toNatClampNeg)), .int (M 74 ((((Int32.ofInt 4) * (f_L_cell sc (v13 + (Int32.ofInt 140)) v3)) + (Int32.ofInt 1)).toNatClampNeg)), .int ((Int32.ofInt 1) + (f_L_cell sc (v13 + (Int32.ofInt 150)) (Int32.ofInt 9))), .null, .null, .null] [.int v_172, .int v9] M_170 L_171
              refine wp_ifle (off := 28) 706 (by decide +kernel) (by decide) (fun c_173 => ?_) (fun c_173 => ?_)
              · have hP := hP.1 c_173
                refine wr_seg (pc' := 710) [.iconst 0, .iand, .istore 9] (by decide +kernel) rfl (?_ : Wr E 710 [.ref 75, .ref 0, .ref 74, .int v3, .null, .null, .int v6, .int v7, .int v8, .int (v9 &&& (Int32.ofInt 0)), .int v10, .int v11, .int v12, .int v13, .int (f_L_cell sc (v13 + (Int32.ofInt 140)) v3), .int (M 74 (((Int32.ofInt 4) * (f_L_cell sc (v13 + (Int32.ofInt 140)) v3)).toNatClampNeg)), .int (M 74 ((((Int32.ofInt 4) * (f_L_cell sc (v13 + (Int32.ofInt 140)) v3)) + (Int32.ofInt 1)).toNatClampNeg)), .int ((Int32.ofInt 1) + (f_L_cell sc (v13 + (Int32.ofInt 150)) (Int32.ofInt 9))), .null, .null, .null] [] M_170 L_171)
                refine wp_drop (lo := [.ref 75, .ref 0, .ref 74, .int v3, .null, .null, .int v6, .int v7, .int v8, .int (v9 &&& (Int32.ofInt 0)), .int v10, .int v11, .int v12, .int v13, .null, .int (M 74 (((Int32.ofInt 4) * (f_L_cell sc (v13 + (Int32.ofInt 140)) v3)).toNatClampNeg)), .int (M 74 ((((Int32.ofInt 4) * (f_L_cell sc (v13 + (Int32.ofInt 140)) v3)) + (Int32.ofInt 1)).toNatClampNeg)), .int ((Int32.ofInt 1) + (f_L_cell sc (v13 + (Int32.ofInt 150)) (Int32.ofInt 9))), .null, .null, .null]) ⟨Or.inr rfl, Or.inr rfl, Or.inr rfl, Or.inr rfl, Or.inl rfl, Or.inl rfl, Or.inr rfl, Or.inr rfl, Or.inr rfl, Or.inr rfl, Or.inr rfl, Or.inr rfl, Or.inr rfl, Or.inr rfl, Or.inl rfl, Or.inr rfl, Or.inr rfl, Or.inr rfl, Or.inl rfl, Or.inl rfl, Or.inl rfl, trivial⟩ ?_
                exact tl_L_law_710 hsc hK (fun v3 v6 v7 v8 v9 v10 v11 v12 v13 M L hP => ih v3 v6 v7 v8 v9 v10 v11 v12 v13 M L hP) 100000 v3 v6 v7 v8 (v9 &&& (Int32.ofInt 0)) v10 v11 v12 v13 (M 74 (((Int32.ofInt 4) * (f_L_cell sc (v13 + (Int32.ofInt 140)) v3)).toNatClampNeg)) (M 74 ((((Int32.ofInt 4) * (f_L_cell sc (v13 + (Int32.ofInt 140)) v3)) + (Int32.ofInt 1)).toNatClampNeg)) ((Int32.ofInt 1) + (f_L_cell sc (v13 + (Int32.ofInt 150)) (Int32.ofInt 9))) M_170 L_171 hP
              · have hP := hP.2 c_173
                refine wr_seg (pc' := 684) [.aload 1, .iconst 46] (by decide +kernel) rfl (?_ : Wr E 684 [.ref 75, .ref 0, .ref 74, .int v3, .null, .null, .int v6, .int v7, .int v8, .int v9, .int v10, .int v11, .int v12, .int v13, .int (f_L_cell sc (v13 + (Int32.ofInt 140)) v3), .int (M 74 (((Int32.ofInt 4) * (f_L_cell sc (v13 + (Int32.ofInt 140)) v3)).toNatClampNeg)), .int (M 74 ((((Int32.ofInt 4) * (f_L_cell sc (v13 + (Int32.ofInt 140)) v3)) + (Int32.ofInt 1)).toNatClampNeg)), .int ((Int32.ofInt 1) + (f_L_cell sc (v13 + (Int32.ofInt 150)) (Int32.ofInt 9))), .null, .null, .null] [.int (Int32.ofInt 46), .ref 0, .int v9] M_170 L_171)
                refine wr_callV 60 0 [.int (Int32.ofInt 46)] (i := 20) (by decide +kernel) (by decide +kernel) (by decide +kernel) (by decide +kernel) rfl rfl rfl (rest := [.int v9]) rfl rfl ?_
                refine t_X9_say hP (fun v_176 M_174 L_175 hP => ?_)
                show Wr E 687 [.ref 75, .ref 0, .ref 74, .int v3, .null, .null, .int v6, .int v7, .int v8, .int v9, .int v10, .int v11, .int v12, .int v13, .int (f_L_cell sc (v13 + (Int32.ofInt 140)) v3), .int (M 74 (((Int32.ofInt 4) * (f_L_cell sc (v13 + (Int32.ofInt 140)) v3)).toNatClampNeg)), .int (M 74 ((((Int32.ofInt 4) * (f_L_cell sc (v13 + (Int32.ofInt 140)) v3)) + (Int32.ofInt 1)).toNatClampNeg)), .int ((Int32.ofInt 1) + (f_L_cell sc (v13 + (Int32.ofInt 150)) (Int32.ofInt 9))), .null, .null, .null] [.int v_176, .int v9] M_174 L_175
                refine wp_ifle (off := 19) 706 (by decide +kernel) (by decide) (fun c_177 => ?_) (fun c_177 => ?_)
                · have hP := hP.1 c_177
                  refine wr_seg (pc' := 710) [.iconst 0, .iand, .istore 9] (by decide +kernel) rfl (?_ : Wr E 710 [.ref 75, .ref 0, .ref 74, .int v3, .null, .null, .int v6, .int v7, .int v8, .int (v9 &&& (Int32.ofInt 0)), .int v10, .int v11, .int v12, .int v13, .int (f_L_cell sc (v13 + (Int32.ofInt 140)) v3), .int (M 74 (((Int32.ofInt 4) * (f_L_cell sc (v13 + (Int32.ofInt 140)) v3)).toNatClampNeg)), .int (M 74 ((((Int32.ofInt 4) * (f_L_cell sc (v13 + (Int32.ofInt 140)) v3)) + (Int32.ofInt 1)).toNatClampNeg)), .int ((Int32.ofInt 1) + (f_L_cell sc (v13 + (Int32.ofInt 150)) (Int32.ofInt 9))), .null, .null, .null] [] M_174 L_175)
                  refine wp_drop (lo := [.ref 75, .ref 0, .ref 74, .int v3, .null, .null, .int v6, .int v7, .int v8, .int (v9 &&& (Int32.ofInt 0)), .int v10, .int v11, .int v12, .int v13, .null, .int (M 74 (((Int32.ofInt 4) * (f_L_cell sc (v13 + (Int32.ofInt 140)) v3)).toNatClampNeg)), .int (M 74 ((((Int32.ofInt 4) * (f_L_cell sc (v13 + (Int32.ofInt 140)) v3)) + (Int32.ofInt 1)).toNatClampNeg)), .int ((Int32.ofInt 1) + (f_L_cell sc (v13 + (Int32.ofInt 150)) (Int32.ofInt 9))), .null, .null, .null]) ⟨Or.inr rfl, Or.inr rfl, Or.inr rfl, Or.inr rfl, Or.inl rfl, Or.inl rfl, Or.inr rfl, Or.inr rfl, Or.inr rfl, Or.inr rfl, Or.inr rfl, Or.inr rfl, Or.inr rfl, Or.inr rfl, Or.inl rfl, Or.inr rfl, Or.inr rfl, Or.inr rfl, Or.inl rfl, Or.inl rfl, Or.inl rfl, trivial⟩ ?_
                  exact tl_L_law_710 hsc hK (fun v3 v6 v7 v8 v9 v10 v11 v12 v13 M L hP => ih v3 v6 v7 v8 v9 v10 v11 v12 v13 M L hP) 100000 v3 v6 v7 v8 (v9 &&& (Int32.ofInt 0)) v10 v11 v12 v13 (M 74 (((Int32.ofInt 4) * (f_L_cell sc (v13 + (Int32.ofInt 140)) v3)).toNatClampNeg)) (M 74 ((((Int32.ofInt 4) * (f_L_cell sc (v13 + (Int32.ofInt 140)) v3)) + (Int32.ofInt 1)).toNatClampNeg)) ((Int32.ofInt 1) + (f_L_cell sc (v13 + (Int32.ofInt 150)) (Int32.ofInt 9))) M_174 L_175 hP
                · have hP := hP.2 c_177
                  refine wr_seg (pc' := 696) [.aload 1, .iconst 48, .iload 17, .iadd] (by decide +kernel) rfl (?_ : Wr E 696 [.ref 75, .ref 0, .ref 74, .int v3, .null, .null, .int v6, .int v7, .int v8, .int v9, .int v10, .int v11, .int v12, .int v13, .int (f_L_cell sc (v13 + (Int32.ofInt 140)) v3), .int (M 74 (((Int32.ofInt 4) * (f_L_cell sc (v13 + (Int32.ofInt 140)) v3)).toNatClampNeg)), .int (M 74 ((((Int32.ofInt 4) * (f_L_cell sc (v13 + (Int32.ofInt 140)) v3)) + (Int32.ofInt 1)).toNatClampNeg)), .int ((Int32.ofInt 1) + (f_L_cell sc (v13 + (Int32.ofInt 150)) (Int32.ofInt 9))), .null, .null, .null] [.int ((Int32.ofInt 48) + ((Int32.ofInt 1) + (f_L_cell sc (v13 + (Int32.ofInt 150)) (Int32.ofInt 9)))), .ref 0, .int v9] M_174 L_175)
                  refine wr_callV 60 0 [.int ((Int32.ofInt 48) + ((Int32.ofInt 1) + (f_L_cell sc (v13 + (Int32.ofInt 150)) (Int32.ofInt 9))))] (i := 20) (by decide +kernel) (by decide +kernel) (by decide +kernel) (by decide +kernel) rfl rfl rfl (rest := [.int v9]) rfl rfl ?_
                  refine t_X9_say hP (fun v_180 M_178 L_179 hP => ?_)
                  show Wr E 699 [.ref 75, .ref 0, .ref 74, .int v3, .null, .null, .int v6, .int v7, .int v8, .int v9, .int v10, .int v11, .int v12, .int v13, .int (f_L_cell sc (v13 + (Int32.ofInt 140)) v3), .int (M 74 (((Int32.ofInt 4) * (f_L_cell sc (v13 + (Int32.ofInt 140)) v3)).toNatClampNeg)), .int (M 74 ((((Int32.ofInt 4) * (f_L_cell sc (v13 + (Int32.ofInt 140)) v3)) + (Int32.ofInt 1)).toNatClampNeg)), .int ((Int32.ofInt 1) + (f_L_cell sc (v13 + (Int32.ofInt 150)) (Int32.ofInt 9))), .null, .null, .null] [.int v_180, .int v9] M_178 L_179
                  refine wp_ifle (off := 7) 706 (by decide +kernel) (by decide) (fun c_181 => ?_) (fun c_181 => ?_)
                  · have hP := hP.1 c_181
                    refine wr_seg (pc' := 710) [.iconst 0, .iand, .istore 9] (by decide +kernel) rfl (?_ : Wr E 710 [.ref 75, .ref 0, .ref 74, .int v3, .null, .null, .int v6, .int v7, .int v8, .int (v9 &&& (Int32.ofInt 0)), .int v10, .int v11, .int v12, .int v13, .int (f_L_cell sc (v13 + (Int32.ofInt 140)) v3), .int (M 74 (((Int32.ofInt 4) * (f_L_cell sc (v13 + (Int32.ofInt 140)) v3)).toNatClampNeg)), .int (M 74 ((((Int32.ofInt 4) * (f_L_cell sc (v13 + (Int32.ofInt 140)) v3)) + (Int32.ofInt 1)).toNatClampNeg)), .int ((Int32.ofInt 1) + (f_L_cell sc (v13 + (Int32.ofInt 150)) (Int32.ofInt 9))), .null, .null, .null] [] M_178 L_179)
                    refine wp_drop (lo := [.ref 75, .ref 0, .ref 74, .int v3, .null, .null, .int v6, .int v7, .int v8, .int (v9 &&& (Int32.ofInt 0)), .int v10, .int v11, .int v12, .int v13, .null, .int (M 74 (((Int32.ofInt 4) * (f_L_cell sc (v13 + (Int32.ofInt 140)) v3)).toNatClampNeg)), .int (M 74 ((((Int32.ofInt 4) * (f_L_cell sc (v13 + (Int32.ofInt 140)) v3)) + (Int32.ofInt 1)).toNatClampNeg)), .int ((Int32.ofInt 1) + (f_L_cell sc (v13 + (Int32.ofInt 150)) (Int32.ofInt 9))), .null, .null, .null]) ⟨Or.inr rfl, Or.inr rfl, Or.inr rfl, Or.inr rfl, Or.inl rfl, Or.inl rfl, Or.inr rfl, Or.inr rfl, Or.inr rfl, Or.inr rfl, Or.inr rfl, Or.inr rfl, Or.inr rfl, Or.inr rfl, Or.inl rfl, Or.inr rfl, Or.inr rfl, Or.inr rfl, Or.inl rfl, Or.inl rfl, Or.inl rfl, trivial⟩ ?_
                    exact tl_L_law_710 hsc hK (fun v3 v6 v7 v8 v9 v10 v11 v12 v13 M L hP => ih v3 v6 v7 v8 v9 v10 v11 v12 v13 M L hP) 100000 v3 v6 v7 v8 (v9 &&& (Int32.ofInt 0)) v10 v11 v12 v13 (M 74 (((Int32.ofInt 4) * (f_L_cell sc (v13 + (Int32.ofInt 140)) v3)).toNatClampNeg)) (M 74 ((((Int32.ofInt 4) * (f_L_cell sc (v13 + (Int32.ofInt 140)) v3)) + (Int32.ofInt 1)).toNatClampNeg)) ((Int32.ofInt 1) + (f_L_cell sc (v13 + (Int32.ofInt 150)) (Int32.ofInt 9))) M_178 L_179 hP
                  · have hP := hP.2 c_181
                    refine wr_seg (pc' := 710) [.iconst 1, .goto 0, .iand, .istore 9] (by decide +kernel) rfl (?_ : Wr E 710 [.ref 75, .ref 0, .ref 74, .int v3, .null, .null, .int v6, .int v7, .int v8, .int (v9 &&& (Int32.ofInt 1)), .int v10, .int v11, .int v12, .int v13, .int (f_L_cell sc (v13 + (Int32.ofInt 140)) v3), .int (M 74 (((Int32.ofInt 4) * (f_L_cell sc (v13 + (Int32.ofInt 140)) v3)).toNatClampNeg)), .int (M 74 ((((Int32.ofInt 4) * (f_L_cell sc (v13 + (Int32.ofInt 140)) v3)) + (Int32.ofInt 1)).toNatClampNeg)), .int ((Int32.ofInt 1) + (f_L_cell sc (v13 + (Int32.ofInt 150)) (Int32.ofInt 9))), .null, .null, .null] [] M_178 L_179)
                    refine wp_drop (lo := [.ref 75, .ref 0, .ref 74, .int v3, .null, .null, .int v6, .int v7, .int v8, .int (v9 &&& (Int32.ofInt 1)), .int v10, .int v11, .int v12, .int v13, .null, .int (M 74 (((Int32.ofInt 4) * (f_L_cell sc (v13 + (Int32.ofInt 140)) v3)).toNatClampNeg)), .int (M 74 ((((Int32.ofInt 4) * (f_L_cell sc (v13 + (Int32.ofInt 140)) v3)) + (Int32.ofInt 1)).toNatClampNeg)), .int ((Int32.ofInt 1) + (f_L_cell sc (v13 + (Int32.ofInt 150)) (Int32.ofInt 9))), .null, .null, .null]) ⟨Or.inr rfl, Or.inr rfl, Or.inr rfl, Or.inr rfl, Or.inl rfl, Or.inl rfl, Or.inr rfl, Or.inr rfl, Or.inr rfl, Or.inr rfl, Or.inr rfl, Or.inr rfl, Or.inr rfl, Or.inr rfl, Or.inl rfl, Or.inr rfl, Or.inr rfl, Or.inr rfl, Or.inl rfl, Or.inl rfl, Or.inl rfl, trivial⟩ ?_
                    exact tl_L_law_710 hsc hK (fun v3 v6 v7 v8 v9 v10 v11 v12 v13 M L hP => ih v3 v6 v7 v8 v9 v10 v11 v12 v13 M L hP) 100000 v3 v6 v7 v8 (v9 &&& (Int32.ofInt 1)) v10 v11 v12 v13 (M 74 (((Int32.ofInt 4) * (f_L_cell sc (v13 + (Int32.ofInt 140)) v3)).toNatClampNeg)) (M 74 ((((Int32.ofInt 4) * (f_L_cell sc (v13 + (Int32.ofInt 140)) v3)) + (Int32.ofInt 1)).toNatClampNeg)) ((Int32.ofInt 1) + (f_L_cell sc (v13 + (Int32.ofInt 150)) (Int32.ofInt 9))) M_178 L_179 hP
def PL_L_law_561 (sc : SCT) (K : Int32 → Mem → LMem → Prop)  : Nat → Int32 → Int32 → Int32 → Int32 → Int32 → Mem → LMem → Prop
  | 0, _, _, _, _, _, _, _ => False
  | n_ + 1, v3, v6, v7, v8, v9, M, L => PL_L_law_573 sc K 100000 v3 v6 v7 v8 v9 (Int32.ofInt 0) (Int32.ofInt 0) (Int32.ofInt 0) (Int32.ofInt 0) M L
theorem tl_L_law_561 {E : VE} {sc : SCT} (hsc : SCE E sc) {K : Int32 → Mem → LMem → Prop}  (hK : ∀ (v : Int32) (M : Mem) (L : LMem), K v M L → v = 1)  : ∀ (n_ : Nat) (v3 : Int32) (v6 : Int32) (v7 : Int32) (v8 : Int32) (v9 : Int32) (M : Mem) (L : LMem), PL_L_law_561 sc K n_ v3 v6 v7 v8 v9 M L → Wr E 561 [.ref 75, .ref 0, .ref 74, .int v3, .null, .null, .int v6, .int v7, .int v8, .int v9, .null, .null, .null, .null, .null, .null, .null, .null, .null, .null, .null] [] M L := by
  intro n_
  induction n_ with
  | zero => intro v3 v6 v7 v8 v9 M L hP; exact False.elim hP
  | succ n_ ih =>
    intro v3 v6 v7 v8 v9 M L hP
    unfold PL_L_law_561 at hP
    refine wr_seg (pc' := 573) [.iconst 0, .istore 10, .iconst 0, .istore 11, .iconst 0, .istore 12, .iconst 0, .istore 13] (by decide +kernel) rfl (?_ : Wr E 573 [.ref 75, .ref 0, .ref 74, .int v3, .null, .null, .int v6, .int v7, .int v8, .int v9, .int (Int32.ofInt 0), .int (Int32.ofInt 0), .int (Int32.ofInt 0), .int (Int32.ofInt 0), .null, .null, .null, .null, .null, .null, .null] [] M L)
    exact tl_L_law_573 hsc hK 100000 v3 v6 v7 v8 v9 (Int32.ofInt 0) (Int32.ofInt 0) (Int32.ofInt 0) (Int32.ofInt 0) M L hP
def PL_L_law_527 (sc : SCT) (K : Int32 → Mem → LMem → Prop)  : Nat → Int32 → Mem → LMem → Prop
  | 0, _, _, _ => False
  | n_ + 1, v3, M, L => P_X9_know (M 74 ((Int32.ofInt 0).toNatClampNeg)) (Int32.ofInt 3) M L (fun v_33 M_31 L_32 => ((v_33 = 0 → P_X9_clear M_31 L_32 (fun v_184 M_182 L_183 => ((v_184 = 0 → PL_L_law_561 sc K 100000 v3 (Int32.ofInt 0) (Int32.ofInt 0) (Int32.ofInt 0) (Int32.ofInt 1) M_182 L_183) ∧ (¬ (v_184 = 0) → PL_L_law_561 sc K 100000 v3 (Int32.ofInt 0) (Int32.ofInt 0) (Int32.ofInt 0) (Int32.ofInt 0) M_182 L_183)))) ∧ (¬ (v_33 = 0) → PL_L_law_561 sc K 100000 v3 (Int32.ofInt 0) (Int32.ofInt 0) (Int32.ofInt 0) (Int32.ofInt 0) M_31 L_32)))
theorem tl_L_law_527 {E : VE} {sc : SCT} (hsc : SCE E sc) {K : Int32 → Mem → LMem → Prop}  (hK : ∀ (v : Int32) (M : Mem) (L : LMem), K v M L → v = 1)  : ∀ (n_ : Nat) (v3 : Int32) (M : Mem) (L : LMem), PL_L_law_527 sc K n_ v3 M L → Wr E 527 [.ref 75, .ref 0, .ref 74, .int v3, .null, .null, .null, .null, .null, .null, .null, .null, .null, .null, .null, .null, .null, .null, .null, .null, .null] [] M L := by
  intro n_
  induction n_ with
  | zero => intro v3 M L hP; exact False.elim hP
  | succ n_ ih =>
    intro v3 M L hP
    unfold PL_L_law_527 at hP
    refine wr_seg (pc' := 540) [.iconst 0, .istore 6, .iconst 0, .istore 7, .iconst 0, .istore 8, .aload 1, .aload 2, .iconst 0, .iaload] (by decide +kernel) rfl (show aok 74 0 (Int32.ofInt 0) ∧ Wr E 540 [.ref 75, .ref 0, .ref 74, .int v3, .null, .null, .int (Int32.ofInt 0), .int (Int32.ofInt 0), .int (Int32.ofInt 0), .null, .null, .null, .null, .null, .null, .null, .null, .null, .null, .null, .null] [.int (M 74 ((Int32.ofInt 0).toNatClampNeg)), .ref 0] M L from ⟨⟨rfl, (vp_lit 0 48 (by decide))⟩, ?_⟩)
    refine wr_seg (pc' := 541) [.iconst 3] (by decide +kernel) rfl (?_ : Wr E 541 [.ref 75, .ref 0, .ref 74, .int v3, .null, .null, .int (Int32.ofInt 0), .int (Int32.ofInt 0), .int (Int32.ofInt 0), .null, .null, .null, .null, .null, .null, .null, .null, .null, .null, .null, .null] [.int (Int32.ofInt 3), .int (M 74 ((Int32.ofInt 0).toNatClampNeg)), .ref 0] M L)
    refine wr_callV 70 0 [.int (M 74 ((Int32.ofInt 0).toNatClampNeg)), .int (Int32.ofInt 3)] (i := 60) (by decide +kernel) (by decide +kernel) (by decide +kernel) (by decide +kernel) rfl rfl rfl (rest := []) rfl rfl ?_
    refine t_X9_know hP (fun v_33 M_31 L_32 hP => ?_)
    show Wr E 544 [.ref 75, .ref 0, .ref 74, .int v3, .null, .null, .int (Int32.ofInt 0), .int (Int32.ofInt 0), .int (Int32.ofInt 0), .null, .null, .null, .null, .null, .null, .null, .null, .null, .null, .null, .null] [.int v_33] M_31 L_32
    refine wp_ifne (off := 14) 558 (by decide +kernel) (by decide) (fun c_34 => ?_) (fun c_34 => ?_)
    · have hP := hP.2 c_34
      refine wr_seg (pc' := 561) [.iconst 0, .istore 9] (by decide +kernel) rfl (?_ : Wr E 561 [.ref 75, .ref 0, .ref 74, .int v3, .null, .null, .int (Int32.ofInt 0), .int (Int32.ofInt 0), .int (Int32.ofInt 0), .int (Int32.ofInt 0), .null, .null, .null, .null, .null, .null, .null, .null, .null, .null, .null] [] M_31 L_32)
      exact tl_L_law_561 hsc hK 100000 v3 (Int32.ofInt 0) (Int32.ofInt 0) (Int32.ofInt 0) (Int32.ofInt 0) M_31 L_32 hP
    · have hP := hP.1 c_34
      refine wr_seg (pc' := 548) [.aload 1] (by decide +kernel) rfl (?_ : Wr E 548 [.ref 75, .ref 0, .ref 74, .int v3, .null, .null, .int (Int32.ofInt 0), .int (Int32.ofInt 0), .int (Int32.ofInt 0), .null, .null, .null, .null, .null, .null, .null, .null, .null, .null, .null, .null] [.ref 0] M_31 L_32)
      refine wr_callV 73 0 [] (i := 63) (by decide +kernel) (by decide +kernel) (by decide +kernel) (by decide +kernel) rfl rfl rfl (rest := []) rfl rfl ?_
      refine t_X9_clear hP (fun v_184 M_182 L_183 hP => ?_)
      show Wr E 551 [.ref 75, .ref 0, .ref 74, .int v3, .null, .null, .int (Int32.ofInt 0), .int (Int32.ofInt 0), .int (Int32.ofInt 0), .null, .null, .null, .null, .null, .null, .null, .null, .null, .null, .null, .null] [.int v_184] M_182 L_183
      refine wp_ifne (off := 7) 558 (by decide +kernel) (by decide) (fun c_185 => ?_) (fun c_185 => ?_)
      · have hP := hP.2 c_185
        refine wr_seg (pc' := 561) [.iconst 0, .istore 9] (by decide +kernel) rfl (?_ : Wr E 561 [.ref 75, .ref 0, .ref 74, .int v3, .null, .null, .int (Int32.ofInt 0), .int (Int32.ofInt 0), .int (Int32.ofInt 0), .int (Int32.ofInt 0), .null, .null, .null, .null, .null, .null, .null, .null, .null, .null, .null] [] M_182 L_183)
        exact tl_L_law_561 hsc hK 100000 v3 (Int32.ofInt 0) (Int32.ofInt 0) (Int32.ofInt 0) (Int32.ofInt 0) M_182 L_183 hP
      · have hP := hP.1 c_185
        refine wr_seg (pc' := 561) [.iconst 1, .goto 0, .istore 9] (by decide +kernel) rfl (?_ : Wr E 561 [.ref 75, .ref 0, .ref 74, .int v3, .null, .null, .int (Int32.ofInt 0), .int (Int32.ofInt 0), .int (Int32.ofInt 0), .int (Int32.ofInt 1), .null, .null, .null, .null, .null, .null, .null, .null, .null, .null, .null] [] M_182 L_183)
        exact tl_L_law_561 hsc hK 100000 v3 (Int32.ofInt 0) (Int32.ofInt 0) (Int32.ofInt 0) (Int32.ofInt 1) M_182 L_183 hP
def PL_L_law_475 (sc : SCT) (K : Int32 → Mem → LMem → Prop)  : Nat → Int32 → Int32 → Mem → LMem → Prop
  | 0, _, _, _, _ => False
  | n_ + 1, v3, v5, M, L => P_X9_further (Int32.ofInt 1) (Int32.ofInt 2) M L (fun v_14 M_12 L_13 => ((v_14 = v5 → P_X9_further (Int32.ofInt 1) (Int32.ofInt 1) M_12 L_13 (fun v_18 M_16 L_17 => ((v5 < v_18 → K (Int32.ofInt 0) M_16 L_17) ∧ (¬ (v5 < v_18) → P_X9_further (Int32.ofInt 1) (Int32.ofInt 1) M_16 L_17 (fun v_22 M_20 L_21 => P_X9_further (Int32.ofInt 9) (Int32.ofInt 1) M_20 L_21 (fun v_25 M_23 L_24 => ((v_25 < v_22 → K (Int32.ofInt 0) M_23 L_24) ∧ (¬ (v_25 < v_22) → P_X9_further (Int32.ofInt 9) (Int32.ofInt 1) M_23 L_24 (fun v_29 M_27 L_28 => ((v_29 ≤ v5 → PL_L_law_527 sc K 100000 v3 M_27 L_28) ∧ (¬ (v_29 ≤ v5) → K (Int32.ofInt 0) M_27 L_28))))))))))) ∧ (¬ (v_14 = v5) → K (Int32.ofInt 0) M_12 L_13)))
theorem tl_L_law_475 {E : VE} {sc : SCT} (hsc : SCE E sc) {K : Int32 → Mem → LMem → Prop}  (hK : ∀ (v : Int32) (M : Mem) (L : LMem), K v M L → v = 1)  : ∀ (n_ : Nat) (v3 : Int32) (v5 : Int32) (M : Mem) (L : LMem), PL_L_law_475 sc K n_ v3 v5 M L → Wr E 475 [.ref 75, .ref 0, .ref 74, .int v3, .null, .int v5, .null, .null, .null, .null, .null, .null, .null, .null, .null, .null, .null, .null, .null, .null, .null] [] M L := by
  intro n_
  induction n_ with
  | zero => intro v3 v5 M L hP; exact False.elim hP
  | succ n_ ih =>
    intro v3 v5 M L hP
    unfold PL_L_law_475 at hP
    refine wr_seg (pc' := 478) [.aload 1, .iconst 1, .iconst 2] (by decide +kernel) rfl (?_ : Wr E 478 [.ref 75, .ref 0, .ref 74, .int v3, .null, .int v5, .null, .null, .null, .null, .null, .null, .null, .null, .null, .null, .null, .null, .null, .null, .null] [.int (Int32.ofInt 2), .int (Int32.ofInt 1), .ref 0] M L)
    refine wr_callV 80 0 [.int (Int32.ofInt 1), .int (Int32.ofInt 2)] (i := 57) (by decide +kernel) (by decide +kernel) (by decide +kernel) (by decide +kernel) rfl rfl rfl (rest := []) rfl rfl ?_
    refine t_X9_further hP (fun v_14 M_12 L_13 hP => ?_)
    show Wr E 481 [.ref 75, .ref 0, .ref 74, .int v3, .null, .int v5, .null, .null, .null, .null, .null, .null, .null, .null, .null, .null, .null, .null, .null, .null, .null] [.int v_14] M_12 L_13
    refine wr_seg (pc' := 483) [.iload 5] (by decide +kernel) rfl (?_ : Wr E 483 [.ref 75, .ref 0, .ref 74, .int v3, .null, .int v5, .null, .null, .null, .null, .null, .null, .null, .null, .null, .null, .null, .null, .null, .null, .null] [.int v5, .int v_14] M_12 L_13)
    refine wp_icmpne (off := 42) 525 (by decide +kernel) (by decide) (fun c_15 => ?_) (fun c_15 => ?_)
    · have hP := hP.2 c_15
      refine wr_seg (pc' := 526) [.iconst 0] (by decide +kernel) rfl (?_ : Wr E 526 [.ref 75, .ref 0, .ref 74, .int v3, .null, .int v5, .null, .null, .null, .null, .null, .null, .null, .null, .null, .null, .null, .null, .null, .null, .null] [.int (Int32.ofInt 0)] M_12 L_13)
      have hv := hK _ _ _ hP
      rw [hv]
      exact wr_ret (by decide +kernel)
    · have hP := hP.1 c_15
      refine wr_seg (pc' := 489) [.aload 1, .iconst 1, .iconst 1] (by decide +kernel) rfl (?_ : Wr E 489 [.ref 75, .ref 0, .ref 74, .int v3, .null, .int v5, .null, .null, .null, .null, .null, .null, .null, .null, .null, .null, .null, .null, .null, .null, .null] [.int (Int32.ofInt 1), .int (Int32.ofInt 1), .ref 0] M_12 L_13)
      refine wr_callV 80 0 [.int (Int32.ofInt 1), .int (Int32.ofInt 1)] (i := 57) (by decide +kernel) (by decide +kernel) (by decide +kernel) (by decide +kernel) rfl rfl rfl (rest := []) rfl rfl ?_
      refine t_X9_further hP (fun v_18 M_16 L_17 hP => ?_)
      show Wr E 492 [.ref 75, .ref 0, .ref 74, .int v3, .null, .int v5, .null, .null, .null, .null, .null, .null, .null, .null, .null, .null, .null, .null, .null, .null, .null] [.int v_18] M_16 L_17
      refine wr_seg (pc' := 494) [.iload 5] (by decide +kernel) rfl (?_ : Wr E 494 [.ref 75, .ref 0, .ref 74, .int v3, .null, .int v5, .null, .null, .null, .null, .null, .null, .null, .null, .null, .null, .null, .null, .null, .null, .null] [.int v5, .int v_18] M_16 L_17)
      refine wp_icmpgt (off := 31) 525 (by decide +kernel) (by decide) (fun c_19 => ?_) (fun c_19 => ?_)
      · have hP := hP.1 c_19
        refine wr_seg (pc' := 526) [.iconst 0] (by decide +kernel) rfl (?_ : Wr E 526 [.ref 75, .ref 0, .ref 74, .int v3, .null, .int v5, .null, .null, .null, .null, .null, .null, .null, .null, .null, .null, .null, .null, .null, .null, .null] [.int (Int32.ofInt 0)] M_16 L_17)
        have hv := hK _ _ _ hP
        rw [hv]
        exact wr_ret (by decide +kernel)
      · have hP := hP.2 c_19
        refine wr_seg (pc' := 500) [.aload 1, .iconst 1, .iconst 1] (by decide +kernel) rfl (?_ : Wr E 500 [.ref 75, .ref 0, .ref 74, .int v3, .null, .int v5, .null, .null, .null, .null, .null, .null, .null, .null, .null, .null, .null, .null, .null, .null, .null] [.int (Int32.ofInt 1), .int (Int32.ofInt 1), .ref 0] M_16 L_17)
        refine wr_callV 80 0 [.int (Int32.ofInt 1), .int (Int32.ofInt 1)] (i := 57) (by decide +kernel) (by decide +kernel) (by decide +kernel) (by decide +kernel) rfl rfl rfl (rest := []) rfl rfl ?_
        refine t_X9_further hP (fun v_22 M_20 L_21 hP => ?_)
        show Wr E 503 [.ref 75, .ref 0, .ref 74, .int v3, .null, .int v5, .null, .null, .null, .null, .null, .null, .null, .null, .null, .null, .null, .null, .null, .null, .null] [.int v_22] M_20 L_21
        refine wr_seg (pc' := 507) [.aload 1, .iconst 9, .iconst 1] (by decide +kernel) rfl (?_ : Wr E 507 [.ref 75, .ref 0, .ref 74, .int v3, .null, .int v5, .null, .null, .null, .null, .null, .null, .null, .null, .null, .null, .null, .null, .null, .null, .null] [.int (Int32.ofInt 1), .int (Int32.ofInt 9), .ref 0, .int v_22] M_20 L_21)
        refine wr_callV 80 0 [.int (Int32.ofInt 9), .int (Int32.ofInt 1)] (i := 57) (by decide +kernel) (by decide +kernel) (by decide +kernel) (by decide +kernel) rfl rfl rfl (rest := [.int v_22]) rfl rfl ?_
        refine t_X9_further hP (fun v_25 M_23 L_24 hP => ?_)
        show Wr E 510 [.ref 75, .ref 0, .ref 74, .int v3, .null, .int v5, .null, .null, .null, .null, .null, .null, .null, .null, .null, .null, .null, .null, .null, .null, .null] [.int v_25, .int v_22] M_23 L_24
        refine wp_icmpgt (off := 15) 525 (by decide +kernel) (by decide) (fun c_26 => ?_) (fun c_26 => ?_)
        · have hP := hP.1 c_26
          refine wr_seg (pc' := 526) [.iconst 0] (by decide +kernel) rfl (?_ : Wr E 526 [.ref 75, .ref 0, .ref 74, .int v3, .null, .int v5, .null, .null, .null, .null, .null, .null, .null, .null, .null, .null, .null, .null, .null, .null, .null] [.int (Int32.ofInt 0)] M_23 L_24)
          have hv := hK _ _ _ hP
          rw [hv]
          exact wr_ret (by decide +kernel)
        · have hP := hP.2 c_26
          refine wr_seg (pc' := 517) [.aload 1, .iconst 9, .iconst 1] (by decide +kernel) rfl (?_ : Wr E 517 [.ref 75, .ref 0, .ref 74, .int v3, .null, .int v5, .null, .null, .null, .null, .null, .null, .null, .null, .null, .null, .null, .null, .null, .null, .null] [.int (Int32.ofInt 1), .int (Int32.ofInt 9), .ref 0] M_23 L_24)
          refine wr_callV 80 0 [.int (Int32.ofInt 9), .int (Int32.ofInt 1)] (i := 57) (by decide +kernel) (by decide +kernel) (by decide +kernel) (by decide +kernel) rfl rfl rfl (rest := []) rfl rfl ?_
          refine t_X9_further hP (fun v_29 M_27 L_28 hP => ?_)
          show Wr E 520 [.ref 75, .ref 0, .ref 74, .int v3, .null, .int v5, .null, .null, .null, .null, .null, .null, .null, .null, .null, .null, .null, .null, .null, .null, .null] [.int v_29] M_27 L_28
          refine wr_seg (pc' := 522) [.iload 5] (by decide +kernel) rfl (?_ : Wr E 522 [.ref 75, .ref 0, .ref 74, .int v3, .null, .int v5, .null, .null, .null, .null, .null, .null, .null, .null, .null, .null, .null, .null, .null, .null, .null] [.int v5, .int v_29] M_27 L_28)
          refine wp_icmple (off := 5) 527 (by decide +kernel) (by decide) (fun c_30 => ?_) (fun c_30 => ?_)
          · have hP := hP.1 c_30
            refine wp_drop (lo := [.ref 75, .ref 0, .ref 74, .int v3, .null, .null, .null, .null, .null, .null, .null, .null, .null, .null, .null, .null, .null, .null, .null, .null, .null]) ⟨Or.inr rfl, Or.inr rfl, Or.inr rfl, Or.inr rfl, Or.inl rfl, Or.inl rfl, Or.inl rfl, Or.inl rfl, Or.inl rfl, Or.inl rfl, Or.inl rfl, Or.inl rfl, Or.inl rfl, Or.inl rfl, Or.inl rfl, Or.inl rfl, Or.inl rfl, Or.inl rfl, Or.inl rfl, Or.inl rfl, Or.inl rfl, trivial⟩ ?_
            exact tl_L_law_527 hsc hK 100000 v3 M_27 L_28 hP
          · have hP := hP.2 c_30
            refine wr_seg (pc' := 526) [.iconst 0] (by decide +kernel) rfl (?_ : Wr E 526 [.ref 75, .ref 0, .ref 74, .int v3, .null, .int v5, .null, .null, .null, .null, .null, .null, .null, .null, .null, .null, .null, .null, .null, .null, .null] [.int (Int32.ofInt 0)] M_27 L_28)
            have hv := hK _ _ _ hP
            rw [hv]
            exact wr_ret (by decide +kernel)
def PL_L_law_463 (sc : SCT) (K : Int32 → Mem → LMem → Prop) (C_66 : Int32 → Int32 → Int32 → Int32 → Mem → LMem → Prop) (C_76 : Int32 → Int32 → Int32 → Int32 → Int32 → Mem → LMem → Prop) : Nat → Int32 → Int32 → Int32 → Int32 → Int32 → Mem → LMem → Prop
  | 0, _, _, _, _, _, _, _ => False
  | n_ + 1, v3, v4, v5, v6, v7, M, L => C_76 v3 v4 v5 v6 (v7 + Int32.ofInt 1) M L
theorem tl_L_law_463 {E : VE} {sc : SCT} (hsc : SCE E sc) {K : Int32 → Mem → LMem → Prop} {C_66 : Int32 → Int32 → Int32 → Int32 → Mem → LMem → Prop} {C_76 : Int32 → Int32 → Int32 → Int32 → Int32 → Mem → LMem → Prop} (hK : ∀ (v : Int32) (M : Mem) (L : LMem), K v M L → v = 1) (hC_66 : ∀ (v3 : Int32) (v4 : Int32) (v5 : Int32) (v6 : Int32) (M : Mem) (L : LMem), C_66 v3 v4 v5 v6 M L → Wr E 66 [.ref 75, .ref 0, .ref 74, .int v3, .int v4, .int v5, .int v6, .null, .null, .null, .null, .null, .null, .null, .null, .null, .null, .null, .null, .null, .null] [] M L) (hC_76 : ∀ (v3 : Int32) (v4 : Int32) (v5 : Int32) (v6 : Int32) (v7 : Int32) (M : Mem) (L : LMem), C_76 v3 v4 v5 v6 v7 M L → Wr E 76 [.ref 75, .ref 0, .ref 74, .int v3, .int v4, .int v5, .int v6, .int v7, .null, .null, .null, .null, .null, .null, .null, .null, .null, .null, .null, .null, .null] [] M L) : ∀ (n_ : Nat) (v3 : Int32) (v4 : Int32) (v5 : Int32) (v6 : Int32) (v7 : Int32) (M : Mem) (L : LMem), PL_L_law_463 sc K C_66 C_76 n_ v3 v4 v5 v6 v7 M L → Wr E 463 [.ref 75, .ref 0, .ref 74, .int v3, .int v4, .int v5, .int v6, .int v7, .null, .null, .null, .null, .null, .null, .null, .null, .null, .null, .null, .null, .null] [] M L := by
  intro n_
  induction n_ with
  | zero => intro v3 v4 v5 v6 v7 M L hP; exact False.elim hP
  | succ n_ ih =>
    intro v3 v4 v5 v6 v7 M L hP
    unfold PL_L_law_463 at hP
    refine wr_seg (pc' := 76) [.iinc 7 1, .goto 0] (by decide +kernel) rfl (?_ : Wr E 76 [.ref 75, .ref 0, .ref 74, .int v3, .int v4, .int v5, .int v6, .int (v7 + Int32.ofInt 1), .null, .null, .null, .null, .null, .null, .null, .null, .null, .null, .null, .null, .null] [] M L)
    exact hC_76 v3 v4 v5 v6 (v7 + Int32.ofInt 1) M L hP
def PL_L_law_395 (sc : SCT) (K : Int32 → Mem → LMem → Prop) (C_66 : Int32 → Int32 → Int32 → Int32 → Mem → LMem → Prop) (C_76 : Int32 → Int32 → Int32 → Int32 → Int32 → Mem → LMem → Prop) : Nat → Int32 → Int32 → Int32 → Int32 → Int32 → Int32 → Int32 → Mem → LMem → Prop
  | 0, _, _, _, _, _, _, _, _, _ => False
  | n_ + 1, v3, v4, v5, v6, v7, v8, v13, M, L => P_X9_heard v6 v7 M L (fun v_208 M_206 L_207 => P_X9_set (Int32.ofInt 1) (v4 &&& (((Int32.ofInt 1) <<< (v13 &&& 31)) ^^^ (Int32.ofInt (-1)))) M_206 L_207 (fun v_211 M_209 L_210 => ((v_211 = v4 → ((v8 < 0 → P_X9_set (Int32.ofInt 1) v4 M_209 L_210 (fun v_216 M_214 L_215 => ((v_216 = (v4 &&& (((Int32.ofInt 1) <<< (v13 &&& 31)) ^^^ (Int32.ofInt (-1)))) → PL_L_law_463 sc K C_66 C_76 100000 v3 v4 v5 v6 v7 M_214 L_215) ∧ (¬ (v_216 = (v4 &&& (((Int32.ofInt 1) <<< (v13 &&& 31)) ^^^ (Int32.ofInt (-1))))) → K (Int32.ofInt 0) M_214 L_215)))) ∧ (¬ (v8 < 0) → P_X9_heard v6 v7 M_209 L_210 (fun v_220 M_218 L_219 => (((v_208 &&& (v_220 ^^^ (Int32.ofInt (-1)))) = 0 → P_X9_set (Int32.ofInt 1) v4 M_218 L_219 (fun v_224 M_222 L_223 => ((v_224 = (v4 &&& (((Int32.ofInt 1) <<< (v13 &&& 31)) ^^^ (Int32.ofInt (-1)))) → PL_L_law_463 sc K C_66 C_76 100000 v3 v4 v5 v6 v7 M_222 L_223) ∧ (¬ (v_224 = (v4 &&& (((Int32.ofInt 1) <<< (v13 &&& 31)) ^^^ (Int32.ofInt (-1))))) → K (Int32.ofInt 0) M_222 L_223)))) ∧ (¬ ((v_208 &&& (v_220 ^^^ (Int32.ofInt (-1)))) = 0) → K (Int32.ofInt 0) M_218 L_219)))))) ∧ (¬ (v_211 = v4) → K (Int32.ofInt 0) M_209 L_210))))
theorem tl_L_law_395 {E : VE} {sc : SCT} (hsc : SCE E sc) {K : Int32 → Mem → LMem → Prop} {C_66 : Int32 → Int32 → Int32 → Int32 → Mem → LMem → Prop} {C_76 : Int32 → Int32 → Int32 → Int32 → Int32 → Mem → LMem → Prop} (hK : ∀ (v : Int32) (M : Mem) (L : LMem), K v M L → v = 1) (hC_66 : ∀ (v3 : Int32) (v4 : Int32) (v5 : Int32) (v6 : Int32) (M : Mem) (L : LMem), C_66 v3 v4 v5 v6 M L → Wr E 66 [.ref 75, .ref 0, .ref 74, .int v3, .int v4, .int v5, .int v6, .null, .null, .null, .null, .null, .null, .null, .null, .null, .null, .null, .null, .null, .null] [] M L) (hC_76 : ∀ (v3 : Int32) (v4 : Int32) (v5 : Int32) (v6 : Int32) (v7 : Int32) (M : Mem) (L : LMem), C_76 v3 v4 v5 v6 v7 M L → Wr E 76 [.ref 75, .ref 0, .ref 74, .int v3, .int v4, .int v5, .int v6, .int v7, .null, .null, .null, .null, .null, .null, .null, .null, .null, .null, .null, .null, .null] [] M L) : ∀ (n_ : Nat) (v3 : Int32) (v4 : Int32) (v5 : Int32) (v6 : Int32) (v7 : Int32) (v8 : Int32) (v13 : Int32) (M : Mem) (L : LMem), PL_L_law_395 sc K C_66 C_76 n_ v3 v4 v5 v6 v7 v8 v13 M L → Wr E 395 [.ref 75, .ref 0, .ref 74, .int v3, .int v4, .int v5, .int v6, .int v7, .int v8, .null, .null, .null, .null, .int v13, .null, .null, .null, .null, .null, .null, .null] [] M L := by
  intro n_
  induction n_ with
  | zero => intro v3 v4 v5 v6 v7 v8 v13 M L hP; exact False.elim hP
  | succ n_ ih =>
    intro v3 v4 v5 v6 v7 v8 v13 M L hP
    unfold PL_L_law_395 at hP
    refine wr_seg (pc' := 400) [.aload 1, .iload 6, .iload 7] (by decide +kernel) rfl (?_ : Wr E 400 [.ref 75, .ref 0, .ref 74, .int v3, .int v4, .int v5, .int v6, .int v7, .int v8, .null, .null, .null, .null, .int v13, .null, .null, .null, .null, .null, .null, .null] [.int v7, .int v6, .ref 0] M L)
    refine wr_callV 67 0 [.int v6, .int v7] (i := 51) (by decide +kernel) (by decide +kernel) (by decide +kernel) (by decide +kernel) rfl rfl rfl (rest := []) rfl rfl ?_
    refine t_X9_heard hP (fun v_208 M_206 L_207 hP => ?_)
    show Wr E 403 [.ref 75, .ref 0, .ref 74, .int v3, .int v4, .int v5, .int v6, .int v7, .int v8, .null, .null, .null, .null, .int v13, .null, .null, .null, .null, .null, .null, .null] [.int v_208] M_206 L_207
    refine wr_seg (pc' := 420) [.istore 14, .iload 4, .iconst 1, .iload 13, .ishl, .iconst (-1), .ixor, .iand, .istore 15, .aload 1, .iconst 1, .iload 15] (by decide +kernel) rfl (?_ : Wr E 420 [.ref 75, .ref 0, .ref 74, .int v3, .int v4, .int v5, .int v6, .int v7, .int v8, .null, .null, .null, .null, .int v13, .int v_208, .int (v4 &&& (((Int32.ofInt 1) <<< (v13 &&& 31)) ^^^ (Int32.ofInt (-1)))), .null, .null, .null, .null, .null] [.int (v4 &&& (((Int32.ofInt 1) <<< (v13 &&& 31)) ^^^ (Int32.ofInt (-1)))), .int (Int32.ofInt 1), .ref 0] M_206 L_207)
    refine wr_callV 64 0 [.int (Int32.ofInt 1), .int (v4 &&& (((Int32.ofInt 1) <<< (v13 &&& 31)) ^^^ (Int32.ofInt (-1))))] (i := 40) (by decide +kernel) (by decide +kernel) (by decide +kernel) (by decide +kernel) rfl rfl rfl (rest := []) rfl rfl ?_
    refine t_X9_set hP (fun v_211 M_209 L_210 hP => ?_)
    show Wr E 423 [.ref 75, .ref 0, .ref 74, .int v3, .int v4, .int v5, .int v6, .int v7, .int v8, .null, .null, .null, .null, .int v13, .int v_208, .int (v4 &&& (((Int32.ofInt 1) <<< (v13 &&& 31)) ^^^ (Int32.ofInt (-1)))), .null, .null, .null, .null, .null] [.int v_211] M_209 L_210
    refine wr_seg (pc' := 425) [.iload 4] (by decide +kernel) rfl (?_ : Wr E 425 [.ref 75, .ref 0, .ref 74, .int v3, .int v4, .int v5, .int v6, .int v7, .int v8, .null, .null, .null, .null, .int v13, .int v_208, .int (v4 &&& (((Int32.ofInt 1) <<< (v13 &&& 31)) ^^^ (Int32.ofInt (-1)))), .null, .null, .null, .null, .null] [.int v4, .int v_211] M_209 L_210)
    refine wp_icmpne (off := 36) 461 (by decide +kernel) (by decide) (fun c_212 => ?_) (fun c_212 => ?_)
    · have hP := hP.2 c_212
      refine wr_seg (pc' := 462) [.iconst 0] (by decide +kernel) rfl (?_ : Wr E 462 [.ref 75, .ref 0, .ref 74, .int v3, .int v4, .int v5, .int v6, .int v7, .int v8, .null, .null, .null, .null, .int v13, .int v_208, .int (v4 &&& (((Int32.ofInt 1) <<< (v13 &&& 31)) ^^^ (Int32.ofInt (-1)))), .null, .null, .null, .null, .null] [.int (Int32.ofInt 0)] M_209 L_210)
      have hv := hK _ _ _ hP
      rw [hv]
      exact wr_ret (by decide +kernel)
    · have hP := hP.1 c_212
      refine wr_seg (pc' := 430) [.iload 8] (by decide +kernel) rfl (?_ : Wr E 430 [.ref 75, .ref 0, .ref 74, .int v3, .int v4, .int v5, .int v6, .int v7, .int v8, .null, .null, .null, .null, .int v13, .int v_208, .int (v4 &&& (((Int32.ofInt 1) <<< (v13 &&& 31)) ^^^ (Int32.ofInt (-1)))), .null, .null, .null, .null, .null] [.int v8] M_209 L_210)
      refine wp_iflt (off := 19) 449 (by decide +kernel) (by decide) (fun c_213 => ?_) (fun c_213 => ?_)
      · have hP := hP.1 c_213
        refine wr_seg (pc' := 453) [.aload 1, .iconst 1, .iload 4] (by decide +kernel) rfl (?_ : Wr E 453 [.ref 75, .ref 0, .ref 74, .int v3, .int v4, .int v5, .int v6, .int v7, .int v8, .null, .null, .null, .null, .int v13, .int v_208, .int (v4 &&& (((Int32.ofInt 1) <<< (v13 &&& 31)) ^^^ (Int32.ofInt (-1)))), .null, .null, .null, .null, .null] [.int v4, .int (Int32.ofInt 1), .ref 0] M_209 L_210)
        refine wr_callV 64 0 [.int (Int32.ofInt 1), .int v4] (i := 40) (by decide +kernel) (by decide +kernel) (by decide +kernel) (by decide +kernel) rfl rfl rfl (rest := []) rfl rfl ?_
        refine t_X9_set hP (fun v_216 M_214 L_215 hP => ?_)
        show Wr E 456 [.ref 75, .ref 0, .ref 74, .int v3, .int v4, .int v5, .int v6, .int v7, .int v8, .null, .null, .null, .null, .int v13, .int v_208, .int (v4 &&& (((Int32.ofInt 1) <<< (v13 &&& 31)) ^^^ (Int32.ofInt (-1)))), .null, .null, .null, .null, .null] [.int v_216] M_214 L_215
        refine wr_seg (pc' := 458) [.iload 15] (by decide +kernel) rfl (?_ : Wr E 458 [.ref 75, .ref 0, .ref 74, .int v3, .int v4, .int v5, .int v6, .int v7, .int v8, .null, .null, .null, .null, .int v13, .int v_208, .int (v4 &&& (((Int32.ofInt 1) <<< (v13 &&& 31)) ^^^ (Int32.ofInt (-1)))), .null, .null, .null, .null, .null] [.int (v4 &&& (((Int32.ofInt 1) <<< (v13 &&& 31)) ^^^ (Int32.ofInt (-1)))), .int v_216] M_214 L_215)
        refine wp_icmpeq (off := 5) 463 (by decide +kernel) (by decide) (fun c_217 => ?_) (fun c_217 => ?_)
        · have hP := hP.1 c_217
          refine wp_drop (lo := [.ref 75, .ref 0, .ref 74, .int v3, .int v4, .int v5, .int v6, .int v7, .null, .null, .null, .null, .null, .null, .null, .null, .null, .null, .null, .null, .null]) ⟨Or.inr rfl, Or.inr rfl, Or.inr rfl, Or.inr rfl, Or.inr rfl, Or.inr rfl, Or.inr rfl, Or.inr rfl, Or.inl rfl, Or.inl rfl, Or.inl rfl, Or.inl rfl, Or.inl rfl, Or.inl rfl, Or.inl rfl, Or.inl rfl, Or.inl rfl, Or.inl rfl, Or.inl rfl, Or.inl rfl, Or.inl rfl, trivial⟩ ?_
          exact tl_L_law_463 hsc hK hC_66 hC_76 100000 v3 v4 v5 v6 v7 M_214 L_215 hP
        · have hP := hP.2 c_217
          refine wr_seg (pc' := 462) [.iconst 0] (by decide +kernel) rfl (?_ : Wr E 462 [.ref 75, .ref 0, .ref 74, .int v3, .int v4, .int v5, .int v6, .int v7, .int v8, .null, .null, .null, .null, .int v13, .int v_208, .int (v4 &&& (((Int32.ofInt 1) <<< (v13 &&& 31)) ^^^ (Int32.ofInt (-1)))), .null, .null, .null, .null, .null] [.int (Int32.ofInt 0)] M_214 L_215)
          have hv := hK _ _ _ hP
          rw [hv]
          exact wr_ret (by decide +kernel)
      · have hP := hP.2 c_213
        refine wr_seg (pc' := 440) [.iload 14, .aload 1, .iload 6, .iload 7] (by decide +kernel) rfl (?_ : Wr E 440 [.ref 75, .ref 0, .ref 74, .int v3, .int v4, .int v5, .int v6, .int v7, .int v8, .null, .null, .null, .null, .int v13, .int v_208, .int (v4 &&& (((Int32.ofInt 1) <<< (v13 &&& 31)) ^^^ (Int32.ofInt (-1)))), .null, .null, .null, .null, .null] [.int v7, .int v6, .ref 0, .int v_208] M_209 L_210)
        refine wr_callV 67 0 [.int v6, .int v7] (i := 51) (by decide +kernel) (by decide +kernel) (by decide +kernel) (by decide +kernel) rfl rfl rfl (rest := [.int v_208]) rfl rfl ?_
        refine t_X9_heard hP (fun v_220 M_218 L_219 hP => ?_)
        show Wr E 443 [.ref 75, .ref 0, .ref 74, .int v3, .int v4, .int v5, .int v6, .int v7, .int v8, .null, .null, .null, .null, .int v13, .int v_208, .int (v4 &&& (((Int32.ofInt 1) <<< (v13 &&& 31)) ^^^ (Int32.ofInt (-1)))), .null, .null, .null, .null, .null] [.int v_220, .int v_208] M_218 L_219
        refine wr_seg (pc' := 446) [.iconst (-1), .ixor, .iand] (by decide +kernel) rfl (?_ : Wr E 446 [.ref 75, .ref 0, .ref 74, .int v3, .int v4, .int v5, .int v6, .int v7, .int v8, .null, .null, .null, .null, .int v13, .int v_208, .int (v4 &&& (((Int32.ofInt 1) <<< (v13 &&& 31)) ^^^ (Int32.ofInt (-1)))), .null, .null, .null, .null, .null] [.int (v_208 &&& (v_220 ^^^ (Int32.ofInt (-1))))] M_218 L_219)
        refine wp_ifne (off := 15) 461 (by decide +kernel) (by decide) (fun c_221 => ?_) (fun c_221 => ?_)
        · have hP := hP.2 c_221
          refine wr_seg (pc' := 462) [.iconst 0] (by decide +kernel) rfl (?_ : Wr E 462 [.ref 75, .ref 0, .ref 74, .int v3, .int v4, .int v5, .int v6, .int v7, .int v8, .null, .null, .null, .null, .int v13, .int v_208, .int (v4 &&& (((Int32.ofInt 1) <<< (v13 &&& 31)) ^^^ (Int32.ofInt (-1)))), .null, .null, .null, .null, .null] [.int (Int32.ofInt 0)] M_218 L_219)
          have hv := hK _ _ _ hP
          rw [hv]
          exact wr_ret (by decide +kernel)
        · have hP := hP.1 c_221
          refine wr_seg (pc' := 453) [.aload 1, .iconst 1, .iload 4] (by decide +kernel) rfl (?_ : Wr E 453 [.ref 75, .ref 0, .ref 74, .int v3, .int v4, .int v5, .int v6, .int v7, .int v8, .null, .null, .null, .null, .int v13, .int v_208, .int (v4 &&& (((Int32.ofInt 1) <<< (v13 &&& 31)) ^^^ (Int32.ofInt (-1)))), .null, .null, .null, .null, .null] [.int v4, .int (Int32.ofInt 1), .ref 0] M_218 L_219)
          refine wr_callV 64 0 [.int (Int32.ofInt 1), .int v4] (i := 40) (by decide +kernel) (by decide +kernel) (by decide +kernel) (by decide +kernel) rfl rfl rfl (rest := []) rfl rfl ?_
          refine t_X9_set hP (fun v_224 M_222 L_223 hP => ?_)
          show Wr E 456 [.ref 75, .ref 0, .ref 74, .int v3, .int v4, .int v5, .int v6, .int v7, .int v8, .null, .null, .null, .null, .int v13, .int v_208, .int (v4 &&& (((Int32.ofInt 1) <<< (v13 &&& 31)) ^^^ (Int32.ofInt (-1)))), .null, .null, .null, .null, .null] [.int v_224] M_222 L_223
          refine wr_seg (pc' := 458) [.iload 15] (by decide +kernel) rfl (?_ : Wr E 458 [.ref 75, .ref 0, .ref 74, .int v3, .int v4, .int v5, .int v6, .int v7, .int v8, .null, .null, .null, .null, .int v13, .int v_208, .int (v4 &&& (((Int32.ofInt 1) <<< (v13 &&& 31)) ^^^ (Int32.ofInt (-1)))), .null, .null, .null, .null, .null] [.int (v4 &&& (((Int32.ofInt 1) <<< (v13 &&& 31)) ^^^ (Int32.ofInt (-1)))), .int v_224] M_222 L_223)
          refine wp_icmpeq (off := 5) 463 (by decide +kernel) (by decide) (fun c_225 => ?_) (fun c_225 => ?_)
          · have hP := hP.1 c_225
            refine wp_drop (lo := [.ref 75, .ref 0, .ref 74, .int v3, .int v4, .int v5, .int v6, .int v7, .null, .null, .null, .null, .null, .null, .null, .null, .null, .null, .null, .null, .null]) ⟨Or.inr rfl, Or.inr rfl, Or.inr rfl, Or.inr rfl, Or.inr rfl, Or.inr rfl, Or.inr rfl, Or.inr rfl, Or.inl rfl, Or.inl rfl, Or.inl rfl, Or.inl rfl, Or.inl rfl, Or.inl rfl, Or.inl rfl, Or.inl rfl, Or.inl rfl, Or.inl rfl, Or.inl rfl, Or.inl rfl, Or.inl rfl, trivial⟩ ?_
            exact tl_L_law_463 hsc hK hC_66 hC_76 100000 v3 v4 v5 v6 v7 M_222 L_223 hP
          · have hP := hP.2 c_225
            refine wr_seg (pc' := 462) [.iconst 0] (by decide +kernel) rfl (?_ : Wr E 462 [.ref 75, .ref 0, .ref 74, .int v3, .int v4, .int v5, .int v6, .int v7, .int v8, .null, .null, .null, .null, .int v13, .int v_208, .int (v4 &&& (((Int32.ofInt 1) <<< (v13 &&& 31)) ^^^ (Int32.ofInt (-1)))), .null, .null, .null, .null, .null] [.int (Int32.ofInt 0)] M_222 L_223)
            have hv := hK _ _ _ hP
            rw [hv]
            exact wr_ret (by decide +kernel)
def PL_L_law_294 (sc : SCT) (K : Int32 → Mem → LMem → Prop) (C_66 : Int32 → Int32 → Int32 → Int32 → Mem → LMem → Prop) (C_76 : Int32 → Int32 → Int32 → Int32 → Int32 → Mem → LMem → Prop) : Nat → Int32 → Int32 → Int32 → Int32 → Int32 → Int32 → Mem → LMem → Prop
  | 0, _, _, _, _, _, _, _, _ => False
  | n_ + 1, v3, v4, v5, v6, v7, v8, M, L => P_X9_far v6 v7 M L (fun v_203 M_201 L_202 => (CellOK ((((Int32.ofInt 8) * v6) + v7) + (Int32.ofInt 70)) (Int32.ofInt 8) ∧ (((f_L_cell sc ((((Int32.ofInt 8) * v6) + v7) + (Int32.ofInt 70)) (Int32.ofInt 8)) = v6 → PL_L_law_395 sc K C_66 C_76 100000 v3 v4 (v5 + v_203) v6 v7 v8 (f_L_cell sc ((((Int32.ofInt 8) * v6) + v7) + (Int32.ofInt 70)) (Int32.ofInt 8)) M_201 L_202) ∧ (¬ ((f_L_cell sc ((((Int32.ofInt 8) * v6) + v7) + (Int32.ofInt 70)) (Int32.ofInt 8)) = v6) → (((f_L_cell sc ((((Int32.ofInt 8) * v6) + v7) + (Int32.ofInt 70)) (Int32.ofInt 8)) = v7 → PL_L_law_395 sc K C_66 C_76 100000 v3 v4 (v5 + v_203) v6 v7 v8 (f_L_cell sc ((((Int32.ofInt 8) * v6) + v7) + (Int32.ofInt 70)) (Int32.ofInt 8)) M_201 L_202) ∧ (¬ ((f_L_cell sc ((((Int32.ofInt 8) * v6) + v7) + (Int32.ofInt 70)) (Int32.ofInt 8)) = v7) → ((v8 < 0 → PL_L_law_395 sc K C_66 C_76 100000 v3 v4 (v5 + v_203) v6 v7 v8 (f_L_cell sc ((((Int32.ofInt 8) * v6) + v7) + (Int32.ofInt 70)) (Int32.ofInt 8)) M_201 L_202) ∧ (¬ (v8 < 0) → P_X9_far v6 (f_L_cell sc ((((Int32.ofInt 8) * v6) + v7) + (Int32.ofInt 70)) (Int32.ofInt 8)) M_201 L_202 (fun v_230 M_228 L_229 => (((Int32.ofInt 99) ≤ v_230 → PL_L_law_395 sc K C_66 C_76 100000 v3 v4 (v5 + v_203) v6 v7 v8 (f_L_cell sc ((((Int32.ofInt 8) * v6) + v7) + (Int32.ofInt 70)) (Int32.ofInt 8)) M_228 L_229) ∧ (¬ ((Int32.ofInt 99) ≤ v_230) → P_X9_far (f_L_cell sc ((((Int32.ofInt 8) * v6) + v7) + (Int32.ofInt 70)) (Int32.ofInt 8)) v7 M_228 L_229 (fun v_234 M_232 L_233 => (((Int32.ofInt 99) ≤ v_234 → PL_L_law_395 sc K C_66 C_76 100000 v3 v4 (v5 + v_203) v6 v7 v8 (f_L_cell sc ((((Int32.ofInt 8) * v6) + v7) + (Int32.ofInt 70)) (Int32.ofInt 8)) M_232 L_233) ∧ (¬ ((Int32.ofInt 99) ≤ v_234) → P_X9_far v6 (f_L_cell sc ((((Int32.ofInt 8) * v6) + v7) + (Int32.ofInt 70)) (Int32.ofInt 8)) M_232 L_233 (fun v_238 M_236 L_237 => P_X9_far (f_L_cell sc ((((Int32.ofInt 8) * v6) + v7) + (Int32.ofInt 70)) (Int32.ofInt 8)) v7 M_236 L_237 (fun v_241 M_239 L_240 => ((v8 ≤ (v_238 + v_241) → PL_L_law_395 sc K C_66 C_76 100000 v3 v4 (v5 + v_203) v6 v7 v8 (f_L_cell sc ((((Int32.ofInt 8) * v6) + v7) + (Int32.ofInt 70)) (Int32.ofInt 8)) M_239 L_240) ∧ (¬ (v8 ≤ (v_238 + v_241)) → K (Int32.ofInt 0) M_239 L_240))))))))))))))))))
theorem tl_L_law_294 {E : VE} {sc : SCT} (hsc : SCE E sc) {K : Int32 → Mem → LMem → Prop} {C_66 : Int32 → Int32 → Int32 → Int32 → Mem → LMem → Prop} {C_76 : Int32 → Int32 → Int32 → Int32 → Int32 → Mem → LMem → Prop} (hK : ∀ (v : Int32) (M : Mem) (L : LMem), K v M L → v = 1) (hC_66 : ∀ (v3 : Int32) (v4 : Int32) (v5 : Int32) (v6 : Int32) (M : Mem) (L : LMem), C_66 v3 v4 v5 v6 M L → Wr E 66 [.ref 75, .ref 0, .ref 74, .int v3, .int v4, .int v5, .int v6, .null, .null, .null, .null, .null, .null, .null, .null, .null, .null, .null, .null, .null, .null] [] M L) (hC_76 : ∀ (v3 : Int32) (v4 : Int32) (v5 : Int32) (v6 : Int32) (v7 : Int32) (M : Mem) (L : LMem), C_76 v3 v4 v5 v6 v7 M L → Wr E 76 [.ref 75, .ref 0, .ref 74, .int v3, .int v4, .int v5, .int v6, .int v7, .null, .null, .null, .null, .null, .null, .null, .null, .null, .null, .null, .null, .null] [] M L) : ∀ (n_ : Nat) (v3 : Int32) (v4 : Int32) (v5 : Int32) (v6 : Int32) (v7 : Int32) (v8 : Int32) (M : Mem) (L : LMem), PL_L_law_294 sc K C_66 C_76 n_ v3 v4 v5 v6 v7 v8 M L → Wr E 294 [.ref 75, .ref 0, .ref 74, .int v3, .int v4, .int v5, .int v6, .int v7, .int v8, .null, .null, .null, .null, .null, .null, .null, .null, .null, .null, .null, .null] [] M L := by
  intro n_
  induction n_ with
  | zero => intro v3 v4 v5 v6 v7 v8 M L hP; exact False.elim hP
  | succ n_ ih =>
    intro v3 v4 v5 v6 v7 v8 M L hP
    unfold PL_L_law_294 at hP
    refine wr_seg (pc' := 301) [.iload 5, .aload 1, .iload 6, .iload 7] (by decide +kernel) rfl (?_ : Wr E 301 [.ref 75, .ref 0, .ref 74, .int v3, .int v4, .int v5, .int v6, .int v7, .int v8, .null, .null, .null, .null, .null, .null, .null, .null, .null, .null, .null, .null] [.int v7, .int v6, .ref 0, .int v5] M L)
    refine wr_callV 79 0 [.int v6, .int v7] (i := 54) (by decide +kernel) (by decide +kernel) (by decide +kernel) (by decide +kernel) rfl rfl rfl (rest := [.int v5]) rfl rfl ?_
    refine t_X9_far hP (fun v_203 M_201 L_202 hP => ?_)
    show Wr E 304 [.ref 75, .ref 0, .ref 74, .int v3, .int v4, .int v5, .int v6, .int v7, .int v8, .null, .null, .null, .null, .null, .null, .null, .null, .null, .null, .null, .null] [.int v_203, .int v5] M_201 L_202
    refine wr_seg (pc' := 321) [.iadd, .istore 5, .aload 0, .iconst 8, .iload 6, .imul, .iload 7, .iadd, .iconst 70, .iadd, .iconst 8] (by decide +kernel) rfl (?_ : Wr E 321 [.ref 75, .ref 0, .ref 74, .int v3, .int v4, .int (v5 + v_203), .int v6, .int v7, .int v8, .null, .null, .null, .null, .null, .null, .null, .null, .null, .null, .null, .null] [.int (Int32.ofInt 8), .int ((((Int32.ofInt 8) * v6) + v7) + (Int32.ofInt 70)), .ref 75] M_201 L_202)
    refine wr_callS 89 [.ref 75, .int ((((Int32.ofInt 8) * v6) + v7) + (Int32.ofInt 70)), .int (Int32.ofInt 8)] (i := 14) (by decide +kernel) (by decide +kernel) (by decide +kernel) rfl rfl rfl (rest := []) rfl rfl ?_
    obtain ⟨a_204, hP⟩ := hP
    refine s_L_cell hsc ((((Int32.ofInt 8) * v6) + v7) + (Int32.ofInt 70)) (Int32.ofInt 8) a_204 ?_
    show Wr E 324 [.ref 75, .ref 0, .ref 74, .int v3, .int v4, .int (v5 + v_203), .int v6, .int v7, .int v8, .null, .null, .null, .null, .null, .null, .null, .null, .null, .null, .null, .null] [.int (f_L_cell sc ((((Int32.ofInt 8) * v6) + v7) + (Int32.ofInt 70)) (Int32.ofInt 8))] M_201 L_202
    refine wr_seg (pc' := 330) [.istore 13, .iload 13, .iload 6] (by decide +kernel) rfl (?_ : Wr E 330 [.ref 75, .ref 0, .ref 74, .int v3, .int v4, .int (v5 + v_203), .int v6, .int v7, .int v8, .null, .null, .null, .null, .int (f_L_cell sc ((((Int32.ofInt 8) * v6) + v7) + (Int32.ofInt 70)) (Int32.ofInt 8)), .null, .null, .null, .null, .null, .null, .null] [.int v6, .int (f_L_cell sc ((((Int32.ofInt 8) * v6) + v7) + (Int32.ofInt 70)) (Int32.ofInt 8))] M_201 L_202)
    refine wp_icmpeq (off := 65) 395 (by decide +kernel) (by decide) (fun c_205 => ?_) (fun c_205 => ?_)
    · have hP := hP.1 c_205
      exact tl_L_law_395 hsc hK hC_66 hC_76 100000 v3 v4 (v5 + v_203) v6 v7 v8 (f_L_cell sc ((((Int32.ofInt 8) * v6) + v7) + (Int32.ofInt 70)) (Int32.ofInt 8)) M_201 L_202 hP
    · have hP := hP.2 c_205
      refine wr_seg (pc' := 337) [.iload 13, .iload 7] (by decide +kernel) rfl (?_ : Wr E 337 [.ref 75, .ref 0, .ref 74, .int v3, .int v4, .int (v5 + v_203), .int v6, .int v7, .int v8, .null, .null, .null, .null, .int (f_L_cell sc ((((Int32.ofInt 8) * v6) + v7) + (Int32.ofInt 70)) (Int32.ofInt 8)), .null, .null, .null, .null, .null, .null, .null] [.int v7, .int (f_L_cell sc ((((Int32.ofInt 8) * v6) + v7) + (Int32.ofInt 70)) (Int32.ofInt 8))] M_201 L_202)
      refine wp_icmpeq (off := 58) 395 (by decide +kernel) (by decide) (fun c_226 => ?_) (fun c_226 => ?_)
      · have hP := hP.1 c_226
        exact tl_L_law_395 hsc hK hC_66 hC_76 100000 v3 v4 (v5 + v_203) v6 v7 v8 (f_L_cell sc ((((Int32.ofInt 8) * v6) + v7) + (Int32.ofInt 70)) (Int32.ofInt 8)) M_201 L_202 hP
      · have hP := hP.2 c_226
        refine wr_seg (pc' := 342) [.iload 8] (by decide +kernel) rfl (?_ : Wr E 342 [.ref 75, .ref 0, .ref 74, .int v3, .int v4, .int (v5 + v_203), .int v6, .int v7, .int v8, .null, .null, .null, .null, .int (f_L_cell sc ((((Int32.ofInt 8) * v6) + v7) + (Int32.ofInt 70)) (Int32.ofInt 8)), .null, .null, .null, .null, .null, .null, .null] [.int v8] M_201 L_202)
        refine wp_iflt (off := 53) 395 (by decide +kernel) (by decide) (fun c_227 => ?_) (fun c_227 => ?_)
        · have hP := hP.1 c_227
          exact tl_L_law_395 hsc hK hC_66 hC_76 100000 v3 v4 (v5 + v_203) v6 v7 v8 (f_L_cell sc ((((Int32.ofInt 8) * v6) + v7) + (Int32.ofInt 70)) (Int32.ofInt 8)) M_201 L_202 hP
        · have hP := hP.2 c_227
          refine wr_seg (pc' := 350) [.aload 1, .iload 6, .iload 13] (by decide +kernel) rfl (?_ : Wr E 350 [.ref 75, .ref 0, .ref 74, .int v3, .int v4, .int (v5 + v_203), .int v6, .int v7, .int v8, .null, .null, .null, .null, .int (f_L_cell sc ((((Int32.ofInt 8) * v6) + v7) + (Int32.ofInt 70)) (Int32.ofInt 8)), .null, .null, .null, .null, .null, .null, .null] [.int (f_L_cell sc ((((Int32.ofInt 8) * v6) + v7) + (Int32.ofInt 70)) (Int32.ofInt 8)), .int v6, .ref 0] M_201 L_202)
          refine wr_callV 79 0 [.int v6, .int (f_L_cell sc ((((Int32.ofInt 8) * v6) + v7) + (Int32.ofInt 70)) (Int32.ofInt 8))] (i := 54) (by decide +kernel) (by decide +kernel) (by decide +kernel) (by decide +kernel) rfl rfl rfl (rest := []) rfl rfl ?_
          refine t_X9_far hP (fun v_230 M_228 L_229 hP => ?_)
          show Wr E 353 [.ref 75, .ref 0, .ref 74, .int v3, .int v4, .int (v5 + v_203), .int v6, .int v7, .int v8, .null, .null, .null, .null, .int (f_L_cell sc ((((Int32.ofInt 8) * v6) + v7) + (Int32.ofInt 70)) (Int32.ofInt 8)), .null, .null, .null, .null, .null, .null, .null] [.int v_230] M_228 L_229
          refine wr_seg (pc' := 355) [.iconst 99] (by decide +kernel) rfl (?_ : Wr E 355 [.ref 75, .ref 0, .ref 74, .int v3, .int v4, .int (v5 + v_203), .int v6, .int v7, .int v8, .null, .null, .null, .null, .int (f_L_cell sc ((((Int32.ofInt 8) * v6) + v7) + (Int32.ofInt 70)) (Int32.ofInt 8)), .null, .null, .null, .null, .null, .null, .null] [.int (Int32.ofInt 99), .int v_230] M_228 L_229)
          refine wp_icmpge (off := 40) 395 (by decide +kernel) (by decide) (fun c_231 => ?_) (fun c_231 => ?_)
          · have hP := hP.1 c_231
            exact tl_L_law_395 hsc hK hC_66 hC_76 100000 v3 v4 (v5 + v_203) v6 v7 v8 (f_L_cell sc ((((Int32.ofInt 8) * v6) + v7) + (Int32.ofInt 70)) (Int32.ofInt 8)) M_228 L_229 hP
          · have hP := hP.2 c_231
            refine wr_seg (pc' := 363) [.aload 1, .iload 13, .iload 7] (by decide +kernel) rfl (?_ : Wr E 363 [.ref 75, .ref 0, .ref 74, .int v3, .int v4, .int (v5 + v_203), .int v6, .int v7, .int v8, .null, .null, .null, .null, .int (f_L_cell sc ((((Int32.ofInt 8) * v6) + v7) + (Int32.ofInt 70)) (Int32.ofInt 8)), .null, .null, .null, .null, .null, .null, .null] [.int v7, .int (f_L_cell sc ((((Int32.ofInt 8) * v6) + v7) + (Int32.ofInt 70)) (Int32.ofInt 8)), .ref 0] M_228 L_229)
            refine wr_callV 79 0 [.int (f_L_cell sc ((((Int32.ofInt 8) * v6) + v7) + (Int32.ofInt 70)) (Int32.ofInt 8)), .int v7] (i := 54) (by decide +kernel) (by decide +kernel) (by decide +kernel) (by decide +kernel) rfl rfl rfl (rest := []) rfl rfl ?_
            refine t_X9_far hP (fun v_234 M_232 L_233 hP => ?_)
            show Wr E 366 [.ref 75, .ref 0, .ref 74, .int v3, .int v4, .int (v5 + v_203), .int v6, .int v7, .int v8, .null, .null, .null, .null, .int (f_L_cell sc ((((Int32.ofInt 8) * v6) + v7) + (Int32.ofInt 70)) (Int32.ofInt 8)), .null, .null, .null, .null, .null, .null, .null] [.int v_234] M_232 L_233
            refine wr_seg (pc' := 368) [.iconst 99] (by decide +kernel) rfl (?_ : Wr E 368 [.ref 75, .ref 0, .ref 74, .int v3, .int v4, .int (v5 + v_203), .int v6, .int v7, .int v8, .null, .null, .null, .null, .int (f_L_cell sc ((((Int32.ofInt 8) * v6) + v7) + (Int32.ofInt 70)) (Int32.ofInt 8)), .null, .null, .null, .null, .null, .null, .null] [.int (Int32.ofInt 99), .int v_234] M_232 L_233)
            refine wp_icmpge (off := 27) 395 (by decide +kernel) (by decide) (fun c_235 => ?_) (fun c_235 => ?_)
            · have hP := hP.1 c_235
              exact tl_L_law_395 hsc hK hC_66 hC_76 100000 v3 v4 (v5 + v_203) v6 v7 v8 (f_L_cell sc ((((Int32.ofInt 8) * v6) + v7) + (Int32.ofInt 70)) (Int32.ofInt 8)) M_232 L_233 hP
            · have hP := hP.2 c_235
              refine wr_seg (pc' := 376) [.aload 1, .iload 6, .iload 13] (by decide +kernel) rfl (?_ : Wr E 376 [.ref 75, .ref 0, .ref 74, .int v3, .int v4, .int (v5 + v_203), .int v6, .int v7, .int v8, .null, .null, .null, .null, .int (f_L_cell sc ((((Int32.ofInt 8) * v6) + v7) + (Int32.ofInt 70)) (Int32.ofInt 8)), .null, .null, .null, .null, .null, .null, .null] [.int (f_L_cell sc ((((Int32.ofInt 8) * v6) + v7) + (Int32.ofInt 70)) (Int32.ofInt 8)), .int v6, .ref 0] M_232 L_233)
              refine wr_callV 79 0 [.int v6, .int (f_L_cell sc ((((Int32.ofInt 8) * v6) + v7) + (Int32.ofInt 70)) (Int32.ofInt 8))] (i := 54) (by decide +kernel) (by decide +kernel) (by decide +kernel) (by decide +kernel) rfl rfl rfl (rest := []) rfl rfl ?_
              refine t_X9_far hP (fun v_238 M_236 L_237 hP => ?_)
              show Wr E 379 [.ref 75, .ref 0, .ref 74, .int v3, .int v4, .int (v5 + v_203), .int v6, .int v7, .int v8, .null, .null, .null, .null, .int (f_L_cell sc ((((Int32.ofInt 8) * v6) + v7) + (Int32.ofInt 70)) (Int32.ofInt 8)), .null, .null, .null, .null, .null, .null, .null] [.int v_238] M_236 L_237
              refine wr_seg (pc' := 384) [.aload 1, .iload 13, .iload 7] (by decide +kernel) rfl (?_ : Wr E 384 [.ref 75, .ref 0, .ref 74, .int v3, .int v4, .int (v5 + v_203), .int v6, .int v7, .int v8, .null, .null, .null, .null, .int (f_L_cell sc ((((Int32.ofInt 8) * v6) + v7) + (Int32.ofInt 70)) (Int32.ofInt 8)), .null, .null, .null, .null, .null, .null, .null] [.int v7, .int (f_L_cell sc ((((Int32.ofInt 8) * v6) + v7) + (Int32.ofInt 70)) (Int32.ofInt 8)), .ref 0, .int v_238] M_236 L_237)
              refine wr_callV 79 0 [.int (f_L_cell sc ((((Int32.ofInt 8) * v6) + v7) + (Int32.ofInt 70)) (Int32.ofInt 8)), .int v7] (i := 54) (by decide +kernel) (by decide +kernel) (by decide +kernel) (by decide +kernel) rfl rfl rfl (rest := [.int v_238]) rfl rfl ?_
              refine t_X9_far hP (fun v_241 M_239 L_240 hP => ?_)
              show Wr E 387 [.ref 75, .ref 0, .ref 74, .int v3, .int v4, .int (v5 + v_203), .int v6, .int v7, .int v8, .null, .null, .null, .null, .int (f_L_cell sc ((((Int32.ofInt 8) * v6) + v7) + (Int32.ofInt 70)) (Int32.ofInt 8)), .null, .null, .null, .null, .null, .null, .null] [.int v_241, .int v_238] M_239 L_240
              refine wr_seg (pc' := 390) [.iadd, .iload 8] (by decide +kernel) rfl (?_ : Wr E 390 [.ref 75, .ref 0, .ref 74, .int v3, .int v4, .int (v5 + v_203), .int v6, .int v7, .int v8, .null, .null, .null, .null, .int (f_L_cell sc ((((Int32.ofInt 8) * v6) + v7) + (Int32.ofInt 70)) (Int32.ofInt 8)), .null, .null, .null, .null, .null, .null, .null] [.int v8, .int (v_238 + v_241)] M_239 L_240)
              refine wp_icmpge (off := 5) 395 (by decide +kernel) (by decide) (fun c_242 => ?_) (fun c_242 => ?_)
              · have hP := hP.1 c_242
                exact tl_L_law_395 hsc hK hC_66 hC_76 100000 v3 v4 (v5 + v_203) v6 v7 v8 (f_L_cell sc ((((Int32.ofInt 8) * v6) + v7) + (Int32.ofInt 70)) (Int32.ofInt 8)) M_239 L_240 hP
              · have hP := hP.2 c_242
                refine wr_seg (pc' := 394) [.iconst 0] (by decide +kernel) rfl (?_ : Wr E 394 [.ref 75, .ref 0, .ref 74, .int v3, .int v4, .int (v5 + v_203), .int v6, .int v7, .int v8, .null, .null, .null, .null, .int (f_L_cell sc ((((Int32.ofInt 8) * v6) + v7) + (Int32.ofInt 70)) (Int32.ofInt 8)), .null, .null, .null, .null, .null, .null, .null] [.int (Int32.ofInt 0)] M_239 L_240)
                have hv := hK _ _ _ hP
                rw [hv]
                exact wr_ret (by decide +kernel)
def PL_L_law_269 (sc : SCT) (K : Int32 → Mem → LMem → Prop) (C_66 : Int32 → Int32 → Int32 → Int32 → Mem → LMem → Prop) (C_76 : Int32 → Int32 → Int32 → Int32 → Int32 → Mem → LMem → Prop) : Nat → Int32 → Int32 → Int32 → Int32 → Int32 → Int32 → Mem → LMem → Prop
  | 0, _, _, _, _, _, _, _, _ => False
  | n_ + 1, v3, v4, v5, v6, v7, v8, M, L => P_X9_far v6 v7 M L (fun v_198 M_196 L_197 => ((0 ≤ v8 → ((v_198 = v8 → PL_L_law_294 sc K C_66 C_76 100000 v3 v4 v5 v6 v7 v8 M_196 L_197) ∧ (¬ (v_198 = v8) → K (Int32.ofInt 0) M_196 L_197))) ∧ (¬ (0 ≤ v8) → ((v_198 = (Int32.ofInt 99) → PL_L_law_294 sc K C_66 C_76 100000 v3 v4 v5 v6 v7 v8 M_196 L_197) ∧ (¬ (v_198 = (Int32.ofInt 99)) → K (Int32.ofInt 0) M_196 L_197)))))
theorem tl_L_law_269 {E : VE} {sc : SCT} (hsc : SCE E sc) {K : Int32 → Mem → LMem → Prop} {C_66 : Int32 → Int32 → Int32 → Int32 → Mem → LMem → Prop} {C_76 : Int32 → Int32 → Int32 → Int32 → Int32 → Mem → LMem → Prop} (hK : ∀ (v : Int32) (M : Mem) (L : LMem), K v M L → v = 1) (hC_66 : ∀ (v3 : Int32) (v4 : Int32) (v5 : Int32) (v6 : Int32) (M : Mem) (L : LMem), C_66 v3 v4 v5 v6 M L → Wr E 66 [.ref 75, .ref 0, .ref 74, .int v3, .int v4, .int v5, .int v6, .null, .null, .null, .null, .null, .null, .null, .null, .null, .null, .null, .null, .null, .null] [] M L) (hC_76 : ∀ (v3 : Int32) (v4 : Int32) (v5 : Int32) (v6 : Int32) (v7 : Int32) (M : Mem) (L : LMem), C_76 v3 v4 v5 v6 v7 M L → Wr E 76 [.ref 75, .ref 0, .ref 74, .int v3, .int v4, .int v5, .int v6, .int v7, .null, .null, .null, .null, .null, .null, .null, .null, .null, .null, .null, .null, .null] [] M L) : ∀ (n_ : Nat) (v3 : Int32) (v4 : Int32) (v5 : Int32) (v6 : Int32) (v7 : Int32) (v8 : Int32) (M : Mem) (L : LMem), PL_L_law_269 sc K C_66 C_76 n_ v3 v4 v5 v6 v7 v8 M L → Wr E 269 [.ref 75, .ref 0, .ref 74, .int v3, .int v4, .int v5, .int v6, .int v7, .int v8, .null, .null, .null, .null, .null, .null, .null, .null, .null, .null, .null, .null] [] M L := by
  intro n_
  induction n_ with
  | zero => intro v3 v4 v5 v6 v7 v8 M L hP; exact False.elim hP
  | succ n_ ih =>
    intro v3 v4 v5 v6 v7 v8 M L hP
    unfold PL_L_law_269 at hP
    refine wr_seg (pc' := 274) [.aload 1, .iload 6, .iload 7] (by decide +kernel) rfl (?_ : Wr E 274 [.ref 75, .ref 0, .ref 74, .int v3, .int v4, .int v5, .int v6, .int v7, .int v8, .null, .null, .null, .null, .null, .null, .null, .null, .null, .null, .null, .null] [.int v7, .int v6, .ref 0] M L)
    refine wr_callV 79 0 [.int v6, .int v7] (i := 54) (by decide +kernel) (by decide +kernel) (by decide +kernel) (by decide +kernel) rfl rfl rfl (rest := []) rfl rfl ?_
    refine t_X9_far hP (fun v_198 M_196 L_197 hP => ?_)
    show Wr E 277 [.ref 75, .ref 0, .ref 74, .int v3, .int v4, .int v5, .int v6, .int v7, .int v8, .null, .null, .null, .null, .null, .null, .null, .null, .null, .null, .null, .null] [.int v_198] M_196 L_197
    refine wr_seg (pc' := 279) [.iload 8] (by decide +kernel) rfl (?_ : Wr E 279 [.ref 75, .ref 0, .ref 74, .int v3, .int v4, .int v5, .int v6, .int v7, .int v8, .null, .null, .null, .null, .null, .null, .null, .null, .null, .null, .null, .null] [.int v8, .int v_198] M_196 L_197)
    refine wp_ifge (off := 8) 287 (by decide +kernel) (by decide) (fun c_199 => ?_) (fun c_199 => ?_)
    · have hP := hP.1 c_199
      refine wr_seg (pc' := 289) [.iload 8] (by decide +kernel) rfl (?_ : Wr E 289 [.ref 75, .ref 0, .ref 74, .int v3, .int v4, .int v5, .int v6, .int v7, .int v8, .null, .null, .null, .null, .null, .null, .null, .null, .null, .null, .null, .null] [.int v8, .int v_198] M_196 L_197)
      refine wp_icmpeq (off := 5) 294 (by decide +kernel) (by decide) (fun c_200 => ?_) (fun c_200 => ?_)
      · have hP := hP.1 c_200
        exact tl_L_law_294 hsc hK hC_66 hC_76 100000 v3 v4 v5 v6 v7 v8 M_196 L_197 hP
      · have hP := hP.2 c_200
        refine wr_seg (pc' := 293) [.iconst 0] (by decide +kernel) rfl (?_ : Wr E 293 [.ref 75, .ref 0, .ref 74, .int v3, .int v4, .int v5, .int v6, .int v7, .int v8, .null, .null, .null, .null, .null, .null, .null, .null, .null, .null, .null, .null] [.int (Int32.ofInt 0)] M_196 L_197)
        have hv := hK _ _ _ hP
        rw [hv]
        exact wr_ret (by decide +kernel)
    · have hP := hP.2 c_199
      refine wr_seg (pc' := 289) [.iconst 99, .goto 0] (by decide +kernel) rfl (?_ : Wr E 289 [.ref 75, .ref 0, .ref 74, .int v3, .int v4, .int v5, .int v6, .int v7, .int v8, .null, .null, .null, .null, .null, .null, .null, .null, .null, .null, .null, .null] [.int (Int32.ofInt 99), .int v_198] M_196 L_197)
      refine wp_icmpeq (off := 5) 294 (by decide +kernel) (by decide) (fun c_243 => ?_) (fun c_243 => ?_)
      · have hP := hP.1 c_243
        exact tl_L_law_294 hsc hK hC_66 hC_76 100000 v3 v4 v5 v6 v7 v8 M_196 L_197 hP
      · have hP := hP.2 c_243
        refine wr_seg (pc' := 293) [.iconst 0] (by decide +kernel) rfl (?_ : Wr E 293 [.ref 75, .ref 0, .ref 74, .int v3, .int v4, .int v5, .int v6, .int v7, .int v8, .null, .null, .null, .null, .null, .null, .null, .null, .null, .null, .null, .null] [.int (Int32.ofInt 0)] M_196 L_197)
        have hv := hK _ _ _ hP
        rw [hv]
        exact wr_ret (by decide +kernel)
def PL_L_law_225 (sc : SCT) (K : Int32 → Mem → LMem → Prop) (C_66 : Int32 → Int32 → Int32 → Int32 → Mem → LMem → Prop) (C_76 : Int32 → Int32 → Int32 → Int32 → Int32 → Mem → LMem → Prop) : Nat → Int32 → Int32 → Int32 → Int32 → Int32 → Int32 → Int32 → Int32 → Mem → LMem → Prop
  | 0, _, _, _, _, _, _, _, _, _, _ => False
  | n_ + 1, v3, v4, v5, v6, v7, v8, v10, v11, M, L => ((v8 < 0 → PL_L_law_269 sc K C_66 C_76 100000 v3 v4 v5 v6 v7 v8 M L) ∧ (¬ (v8 < 0) → ((v10 = v7 → ((((Int32.ofInt 20) - v11) = v8 → ((v11 < 0 → K (Int32.ofInt 0) M L) ∧ (¬ (v11 < 0) → P_X9_heard v6 v7 M L (fun v_249 M_247 L_248 => ((((v_249 >>> (v7 &&& 31)) &&& (Int32.ofInt 1)) = (Int32.ofInt 1) → PL_L_law_269 sc K C_66 C_76 100000 v3 v4 v5 v6 v7 v8 M_247 L_248) ∧ (¬ (((v_249 >>> (v7 &&& 31)) &&& (Int32.ofInt 1)) = (Int32.ofInt 1)) → K (Int32.ofInt 0) M_247 L_248)))))) ∧ (¬ (((Int32.ofInt 20) - v11) = v8) → K (Int32.ofInt 0) M L))) ∧ (¬ (v10 = v7) → K (Int32.ofInt 0) M L))))
theorem tl_L_law_225 {E : VE} {sc : SCT} (hsc : SCE E sc) {K : Int32 → Mem → LMem → Prop} {C_66 : Int32 → Int32 → Int32 → Int32 → Mem → LMem → Prop} {C_76 : Int32 → Int32 → Int32 → Int32 → Int32 → Mem → LMem → Prop} (hK : ∀ (v : Int32) (M : Mem) (L : LMem), K v M L → v = 1) (hC_66 : ∀ (v3 : Int32) (v4 : Int32) (v5 : Int32) (v6 : Int32) (M : Mem) (L : LMem), C_66 v3 v4 v5 v6 M L → Wr E 66 [.ref 75, .ref 0, .ref 74, .int v3, .int v4, .int v5, .int v6, .null, .null, .null, .null, .null, .null, .null, .null, .null, .null, .null, .null, .null, .null] [] M L) (hC_76 : ∀ (v3 : Int32) (v4 : Int32) (v5 : Int32) (v6 : Int32) (v7 : Int32) (M : Mem) (L : LMem), C_76 v3 v4 v5 v6 v7 M L → Wr E 76 [.ref 75, .ref 0, .ref 74, .int v3, .int v4, .int v5, .int v6, .int v7, .null, .null, .null, .null, .null, .null, .null, .null, .null, .null, .null, .null, .null] [] M L) : ∀ (n_ : Nat) (v3 : Int32) (v4 : Int32) (v5 : Int32) (v6 : Int32) (v7 : Int32) (v8 : Int32) (v10 : Int32) (v11 : Int32) (M : Mem) (L : LMem), PL_L_law_225 sc K C_66 C_76 n_ v3 v4 v5 v6 v7 v8 v10 v11 M L → Wr E 225 [.ref 75, .ref 0, .ref 74, .int v3, .int v4, .int v5, .int v6, .int v7, .int v8, .null, .int v10, .int v11, .null, .null, .null, .null, .null, .null, .null, .null, .null] [] M L := by
  intro n_
  induction n_ with
  | zero => intro v3 v4 v5 v6 v7 v8 v10 v11 M L hP; exact False.elim hP
  | succ n_ ih =>
    intro v3 v4 v5 v6 v7 v8 v10 v11 M L hP
    unfold PL_L_law_225 at hP
    refine wr_seg (pc' := 227) [.iload 8] (by decide +kernel) rfl (?_ : Wr E 227 [.ref 75, .ref 0, .ref 74, .int v3, .int v4, .int v5, .int v6, .int v7, .int v8, .null, .int v10, .int v11, .null, .null, .null, .null, .null, .null, .null, .null, .null] [.int v8] M L)
    refine wp_iflt (off := 42) 269 (by decide +kernel) (by decide) (fun c_195 => ?_) (fun c_195 => ?_)
    · have hP := hP.1 c_195
      refine wp_drop (lo := [.ref 75, .ref 0, .ref 74, .int v3, .int v4, .int v5, .int v6, .int v7, .int v8, .null, .null, .null, .null, .null, .null, .null, .null, .null, .null, .null, .null]) ⟨Or.inr rfl, Or.inr rfl, Or.inr rfl, Or.inr rfl, Or.inr rfl, Or.inr rfl, Or.inr rfl, Or.inr rfl, Or.inr rfl, Or.inl rfl, Or.inl rfl, Or.inl rfl, Or.inl rfl, Or.inl rfl, Or.inl rfl, Or.inl rfl, Or.inl rfl, Or.inl rfl, Or.inl rfl, Or.inl rfl, Or.inl rfl, trivial⟩ ?_
      exact tl_L_law_269 hsc hK hC_66 hC_76 100000 v3 v4 v5 v6 v7 v8 M L hP
    · have hP := hP.2 c_195
      refine wr_seg (pc' := 234) [.iload 10, .iload 7] (by decide +kernel) rfl (?_ : Wr E 234 [.ref 75, .ref 0, .ref 74, .int v3, .int v4, .int v5, .int v6, .int v7, .int v8, .null, .int v10, .int v11, .null, .null, .null, .null, .null, .null, .null, .null, .null] [.int v7, .int v10] M L)
      refine wp_icmpne (off := 58) 292 (by decide +kernel) (by decide) (fun c_244 => ?_) (fun c_244 => ?_)
      · have hP := hP.2 c_244
        refine wr_seg (pc' := 293) [.iconst 0] (by decide +kernel) rfl (?_ : Wr E 293 [.ref 75, .ref 0, .ref 74, .int v3, .int v4, .int v5, .int v6, .int v7, .int v8, .null, .int v10, .int v11, .null, .null, .null, .null, .null, .null, .null, .null, .null] [.int (Int32.ofInt 0)] M L)
        have hv := hK _ _ _ hP
        rw [hv]
        exact wr_ret (by decide +kernel)
      · have hP := hP.1 c_244
        refine wr_seg (pc' := 244) [.iconst 20, .iload 11, .isub, .iload 8] (by decide +kernel) rfl (?_ : Wr E 244 [.ref 75, .ref 0, .ref 74, .int v3, .int v4, .int v5, .int v6, .int v7, .int v8, .null, .int v10, .int v11, .null, .null, .null, .null, .null, .null, .null, .null, .null] [.int v8, .int ((Int32.ofInt 20) - v11)] M L)
        refine wp_icmpne (off := 48) 292 (by decide +kernel) (by decide) (fun c_245 => ?_) (fun c_245 => ?_)
        · have hP := hP.2 c_245
          refine wr_seg (pc' := 293) [.iconst 0] (by decide +kernel) rfl (?_ : Wr E 293 [.ref 75, .ref 0, .ref 74, .int v3, .int v4, .int v5, .int v6, .int v7, .int v8, .null, .int v10, .int v11, .null, .null, .null, .null, .null, .null, .null, .null, .null] [.int (Int32.ofInt 0)] M L)
          have hv := hK _ _ _ hP
          rw [hv]
          exact wr_ret (by decide +kernel)
        · have hP := hP.1 c_245
          refine wr_seg (pc' := 249) [.iload 11] (by decide +kernel) rfl (?_ : Wr E 249 [.ref 75, .ref 0, .ref 74, .int v3, .int v4, .int v5, .int v6, .int v7, .int v8, .null, .int v10, .int v11, .null, .null, .null, .null, .null, .null, .null, .null, .null] [.int v11] M L)
          refine wp_iflt (off := 43) 292 (by decide +kernel) (by decide) (fun c_246 => ?_) (fun c_246 => ?_)
          · have hP := hP.1 c_246
            refine wr_seg (pc' := 293) [.iconst 0] (by decide +kernel) rfl (?_ : Wr E 293 [.ref 75, .ref 0, .ref 74, .int v3, .int v4, .int v5, .int v6, .int v7, .int v8, .null, .int v10, .int v11, .null, .null, .null, .null, .null, .null, .null, .null, .null] [.int (Int32.ofInt 0)] M L)
            have hv := hK _ _ _ hP
            rw [hv]
            exact wr_ret (by decide +kernel)
          · have hP := hP.2 c_246
            refine wr_seg (pc' := 257) [.aload 1, .iload 6, .iload 7] (by decide +kernel) rfl (?_ : Wr E 257 [.ref 75, .ref 0, .ref 74, .int v3, .int v4, .int v5, .int v6, .int v7, .int v8, .null, .int v10, .int v11, .null, .null, .null, .null, .null, .null, .null, .null, .null] [.int v7, .int v6, .ref 0] M L)
            refine wr_callV 67 0 [.int v6, .int v7] (i := 51) (by decide +kernel) (by decide +kernel) (by decide +kernel) (by decide +kernel) rfl rfl rfl (rest := []) rfl rfl ?_
            refine t_X9_heard hP (fun v_249 M_247 L_248 hP => ?_)
            show Wr E 260 [.ref 75, .ref 0, .ref 74, .int v3, .int v4, .int v5, .int v6, .int v7, .int v8, .null, .int v10, .int v11, .null, .null, .null, .null, .null, .null, .null, .null, .null] [.int v_249] M_247 L_248
            refine wr_seg (pc' := 266) [.iload 7, .ishr, .iconst 1, .iand, .iconst 1] (by decide +kernel) rfl (?_ : Wr E 266 [.ref 75, .ref 0, .ref 74, .int v3, .int v4, .int v5, .int v6, .int v7, .int v8, .null, .int v10, .int v11, .null, .null, .null, .null, .null, .null, .null, .null, .null] [.int (Int32.ofInt 1), .int ((v_249 >>> (v7 &&& 31)) &&& (Int32.ofInt 1))] M_247 L_248)
            refine wp_icmpne (off := 26) 292 (by decide +kernel) (by decide) (fun c_250 => ?_) (fun c_250 => ?_)
            · have hP := hP.2 c_250
              refine wr_seg (pc' := 293) [.iconst 0] (by decide +kernel) rfl (?_ : Wr E 293 [.ref 75, .ref 0, .ref 74, .int v3, .int v4, .int v5, .int v6, .int v7, .int v8, .null, .int v10, .int v11, .null, .null, .null, .null, .null, .null, .null, .null, .null] [.int (Int32.ofInt 0)] M_247 L_248)
              have hv := hK _ _ _ hP
              rw [hv]
              exact wr_ret (by decide +kernel)
            · have hP := hP.1 c_250
              refine wp_drop (lo := [.ref 75, .ref 0, .ref 74, .int v3, .int v4, .int v5, .int v6, .int v7, .int v8, .null, .null, .null, .null, .null, .null, .null, .null, .null, .null, .null, .null]) ⟨Or.inr rfl, Or.inr rfl, Or.inr rfl, Or.inr rfl, Or.inr rfl, Or.inr rfl, Or.inr rfl, Or.inr rfl, Or.inr rfl, Or.inl rfl, Or.inl rfl, Or.inl rfl, Or.inl rfl, Or.inl rfl, Or.inl rfl, Or.inl rfl, Or.inl rfl, Or.inl rfl, Or.inl rfl, Or.inl rfl, Or.inl rfl, trivial⟩ ?_
              exact tl_L_law_269 hsc hK hC_66 hC_76 100000 v3 v4 v5 v6 v7 v8 M_247 L_248 hP
def PL_L_law_133 (sc : SCT) (K : Int32 → Mem → LMem → Prop) (C_66 : Int32 → Int32 → Int32 → Int32 → Mem → LMem → Prop) (C_76 : Int32 → Int32 → Int32 → Int32 → Int32 → Mem → LMem → Prop) : Nat → Int32 → Int32 → Int32 → Int32 → Int32 → Int32 → Int32 → Int32 → Int32 → Int32 → Int32 → Mem → LMem → Prop
  | 0, _, _, _, _, _, _, _, _, _, _, _, _, _ => False
  | n_ + 1, v3, v4, v5, v6, v7, v8, v9, v10, v11, v12, v13, M, L => ((v9 ≤ v13 → PL_L_law_225 sc K C_66 C_76 100000 v3 v4 v5 v6 v7 v8 v10 v11 M L) ∧ (¬ (v9 ≤ v13) → P_X9_way v6 v7 v13 M L (fun v_253 M_251 L_252 => ((vp_in (((Int32.ofInt 4) * v_253) + (Int32.ofInt 2)) 48) ∧ ((¬ ((M_251 74 ((((Int32.ofInt 4) * v_253) + (Int32.ofInt 2)).toNatClampNeg)) = (Int32.ofInt 4)) → vp_in ((Int32.ofInt 4) * v_253) 48) ∧ ((¬ ((M_251 74 ((((Int32.ofInt 4) * v_253) + (Int32.ofInt 2)).toNatClampNeg)) = (Int32.ofInt 4)) → ¬ ((M_251 74 (((Int32.ofInt 4) * v_253).toNatClampNeg)) = v10) → vp_in (((Int32.ofInt 4) * v_253) + (Int32.ofInt 1)) 48) ∧ ((¬ ((M_251 74 ((((Int32.ofInt 4) * v_253) + (Int32.ofInt 2)).toNatClampNeg)) = (Int32.ofInt 4)) → (M_251 74 (((Int32.ofInt 4) * v_253).toNatClampNeg)) = v10 → vp_in (((Int32.ofInt 4) * v_253) + (Int32.ofInt 1)) 48) ∧ (((f_L_leads M_251 v_253 v10) < 0 → K (Int32.ofInt 0) M_251 L_252) ∧ (¬ ((f_L_leads M_251 v_253 v10) < 0) → ((((v12 >>> ((f_L_leads M_251 v_253 v10) &&& 31)) &&& (Int32.ofInt 1)) = (Int32.ofInt 1) → K (Int32.ofInt 0) M_251 L_252) ∧ (¬ (((v12 >>> ((f_L_leads M_251 v_253 v10) &&& 31)) &&& (Int32.ofInt 1)) = (Int32.ofInt 1)) → (vp_in (((Int32.ofInt 4) * v_253) + (Int32.ofInt 3)) 48 ∧ P_X9_loud v6 v7 (f_L_leads M_251 v_253 v10) M_251 L_252 (fun v_263 M_261 L_262 => ((v_263 = (v11 - (M_251 74 ((((Int32.ofInt 4) * v_253) + (Int32.ofInt 3)).toNatClampNeg))) → PL_L_law_133 sc K C_66 C_76 n_ v3 v4 v5 v6 v7 v8 v9 (f_L_leads M_251 v_253 v10) (v11 - (M_251 74 ((((Int32.ofInt 4) * v_253) + (Int32.ofInt 3)).toNatClampNeg))) (v12 ||| ((Int32.ofInt 1) <<< ((f_L_leads M_251 v_253 v10) &&& 31))) (v13 + Int32.ofInt 1) M_261 L_262) ∧ (¬ (v_263 = (v11 - (M_251 74 ((((Int32.ofInt 4) * v_253) + (Int32.ofInt 3)).toNatClampNeg)))) → K (Int32.ofInt 0) M_261 L_262)))))))))))))))
theorem tl_L_law_133 {E : VE} {sc : SCT} (hsc : SCE E sc) {K : Int32 → Mem → LMem → Prop} {C_66 : Int32 → Int32 → Int32 → Int32 → Mem → LMem → Prop} {C_76 : Int32 → Int32 → Int32 → Int32 → Int32 → Mem → LMem → Prop} (hK : ∀ (v : Int32) (M : Mem) (L : LMem), K v M L → v = 1) (hC_66 : ∀ (v3 : Int32) (v4 : Int32) (v5 : Int32) (v6 : Int32) (M : Mem) (L : LMem), C_66 v3 v4 v5 v6 M L → Wr E 66 [.ref 75, .ref 0, .ref 74, .int v3, .int v4, .int v5, .int v6, .null, .null, .null, .null, .null, .null, .null, .null, .null, .null, .null, .null, .null, .null] [] M L) (hC_76 : ∀ (v3 : Int32) (v4 : Int32) (v5 : Int32) (v6 : Int32) (v7 : Int32) (M : Mem) (L : LMem), C_76 v3 v4 v5 v6 v7 M L → Wr E 76 [.ref 75, .ref 0, .ref 74, .int v3, .int v4, .int v5, .int v6, .int v7, .null, .null, .null, .null, .null, .null, .null, .null, .null, .null, .null, .null, .null] [] M L) : ∀ (n_ : Nat) (v3 : Int32) (v4 : Int32) (v5 : Int32) (v6 : Int32) (v7 : Int32) (v8 : Int32) (v9 : Int32) (v10 : Int32) (v11 : Int32) (v12 : Int32) (v13 : Int32) (M : Mem) (L : LMem), PL_L_law_133 sc K C_66 C_76 n_ v3 v4 v5 v6 v7 v8 v9 v10 v11 v12 v13 M L → Wr E 133 [.ref 75, .ref 0, .ref 74, .int v3, .int v4, .int v5, .int v6, .int v7, .int v8, .int v9, .int v10, .int v11, .int v12, .int v13, .null, .null, .null, .null, .null, .null, .null] [] M L := by
  intro n_
  induction n_ with
  | zero => intro v3 v4 v5 v6 v7 v8 v9 v10 v11 v12 v13 M L hP; exact False.elim hP
  | succ n_ ih =>
    intro v3 v4 v5 v6 v7 v8 v9 v10 v11 v12 v13 M L hP
    unfold PL_L_law_133 at hP
    refine wr_seg (pc' := 137) [.iload 13, .iload 9] (by decide +kernel) rfl (?_ : Wr E 137 [.ref 75, .ref 0, .ref 74, .int v3, .int v4, .int v5, .int v6, .int v7, .int v8, .int v9, .int v10, .int v11, .int v12, .int v13, .null, .null, .null, .null, .null, .null, .null] [.int v9, .int v13] M L)
    refine wp_icmpge (off := 88) 225 (by decide +kernel) (by decide) (fun c_194 => ?_) (fun c_194 => ?_)
    · have hP := hP.1 c_194
      refine wp_drop (lo := [.ref 75, .ref 0, .ref 74, .int v3, .int v4, .int v5, .int v6, .int v7, .int v8, .null, .int v10, .int v11, .null, .null, .null, .null, .null, .null, .null, .null, .null]) ⟨Or.inr rfl, Or.inr rfl, Or.inr rfl, Or.inr rfl, Or.inr rfl, Or.inr rfl, Or.inr rfl, Or.inr rfl, Or.inr rfl, Or.inl rfl, Or.inr rfl, Or.inr rfl, Or.inl rfl, Or.inl rfl, Or.inl rfl, Or.inl rfl, Or.inl rfl, Or.inl rfl, Or.inl rfl, Or.inl rfl, Or.inl rfl, trivial⟩ ?_
      exact tl_L_law_225 hsc hK hC_66 hC_76 100000 v3 v4 v5 v6 v7 v8 v10 v11 M L hP
    · have hP := hP.2 c_194
      refine wr_seg (pc' := 147) [.aload 1, .iload 6, .iload 7, .iload 13] (by decide +kernel) rfl (?_ : Wr E 147 [.ref 75, .ref 0, .ref 74, .int v3, .int v4, .int v5, .int v6, .int v7, .int v8, .int v9, .int v10, .int v11, .int v12, .int v13, .null, .null, .null, .null, .null, .null, .null] [.int v13, .int v7, .int v6, .ref 0] M L)
      refine wr_callV 65 0 [.int v6, .int v7, .int v13] (i := 44) (by decide +kernel) (by decide +kernel) (by decide +kernel) (by decide +kernel) rfl rfl rfl (rest := []) rfl rfl ?_
      refine t_X9_way hP (fun v_253 M_251 L_252 hP => ?_)
      show Wr E 150 [.ref 75, .ref 0, .ref 74, .int v3, .int v4, .int v5, .int v6, .int v7, .int v8, .int v9, .int v10, .int v11, .int v12, .int v13, .null, .null, .null, .null, .null, .null, .null] [.int v_253] M_251 L_252
      refine wr_seg (pc' := 157) [.istore 14, .aload 2, .iload 14, .iload 10] (by decide +kernel) rfl (?_ : Wr E 157 [.ref 75, .ref 0, .ref 74, .int v3, .int v4, .int v5, .int v6, .int v7, .int v8, .int v9, .int v10, .int v11, .int v12, .int v13, .int v_253, .null, .null, .null, .null, .null, .null] [.int v10, .int v_253, .ref 74] M_251 L_252)
      refine wr_callS 92 [.ref 74, .int v_253, .int v10] (i := 33) (by decide +kernel) (by decide +kernel) (by decide +kernel) rfl rfl rfl (rest := []) rfl rfl ?_
      obtain ⟨a_254, hP⟩ := hP
      obtain ⟨a_255, hP⟩ := hP
      obtain ⟨a_256, hP⟩ := hP
      obtain ⟨a_257, hP⟩ := hP
      refine s_L_leads M_251 v_253 v10 a_254 a_255 a_256 a_257 ?_
      show Wr E 160 [.ref 75, .ref 0, .ref 74, .int v3, .int v4, .int v5, .int v6, .int v7, .int v8, .int v9, .int v10, .int v11, .int v12, .int v13, .int v_253, .null, .null, .null, .null, .null, .null] [.int (f_L_leads M_251 v_253 v10)] M_251 L_252
      refine wr_seg (pc' := 164) [.istore 10, .iload 10] (by decide +kernel) rfl (?_ : Wr E 164 [.ref 75, .ref 0, .ref 74, .int v3, .int v4, .int v5, .int v6, .int v7, .int v8, .int v9, .int (f_L_leads M_251 v_253 v10), .int v11, .int v12, .int v13, .int v_253, .null, .null, .null, .null, .null, .null] [.int (f_L_leads M_251 v_253 v10)] M_251 L_252)
      refine wp_iflt (off := 14) 178 (by decide +kernel) (by decide) (fun c_258 => ?_) (fun c_258 => ?_)
      · have hP := hP.1 c_258
        refine wr_seg (pc' := 179) [.iconst 0] (by decide +kernel) rfl (?_ : Wr E 179 [.ref 75, .ref 0, .ref 74, .int v3, .int v4, .int v5, .int v6, .int v7, .int v8, .int v9, .int (f_L_leads M_251 v_253 v10), .int v11, .int v12, .int v13, .int v_253, .null, .null, .null, .null, .null, .null] [.int (Int32.ofInt 0)] M_251 L_252)
        have hv := hK _ _ _ hP
        rw [hv]
        exact wr_ret (by decide +kernel)
      · have hP := hP.2 c_258
        refine wr_seg (pc' := 175) [.iload 12, .iload 10, .ishr, .iconst 1, .iand, .iconst 1] (by decide +kernel) rfl (?_ : Wr E 175 [.ref 75, .ref 0, .ref 74, .int v3, .int v4, .int v5, .int v6, .int v7, .int v8, .int v9, .int (f_L_leads M_251 v_253 v10), .int v11, .int v12, .int v13, .int v_253, .null, .null, .null, .null, .null, .null] [.int (Int32.ofInt 1), .int ((v12 >>> ((f_L_leads M_251 v_253 v10) &&& 31)) &&& (Int32.ofInt 1))] M_251 L_252)
        refine wp_icmpne (off := 5) 180 (by decide +kernel) (by decide) (fun c_259 => ?_) (fun c_259 => ?_)
        · have hP := hP.2 c_259
          obtain ⟨a_260, hP⟩ := hP
          refine wr_seg (pc' := 199) [.iload 12, .iconst 1, .iload 10, .ishl, .ior, .istore 12, .iload 11, .aload 2, .iconst 4, .iload 14, .imul, .iconst 3, .iadd, .iaload] (by decide +kernel) rfl (show aok 74 0 (((Int32.ofInt 4) * v_253) + (Int32.ofInt 3)) ∧ Wr E 199 [.ref 75, .ref 0, .ref 74, .int v3, .int v4, .int v5, .int v6, .int v7, .int v8, .int v9, .int (f_L_leads M_251 v_253 v10), .int v11, .int (v12 ||| ((Int32.ofInt 1) <<< ((f_L_leads M_251 v_253 v10) &&& 31))), .int v13, .int v_253, .null, .null, .null, .null, .null, .null] [.int (M_251 74 ((((Int32.ofInt 4) * v_253) + (Int32.ofInt 3)).toNatClampNeg)), .int v11] M_251 L_252 from ⟨⟨rfl, a_260⟩, ?_⟩)
          refine wr_seg (pc' := 209) [.isub, .istore 11, .aload 1, .iload 6, .iload 7, .iload 10] (by decide +kernel) rfl (?_ : Wr E 209 [.ref 75, .ref 0, .ref 74, .int v3, .int v4, .int v5, .int v6, .int v7, .int v8, .int v9, .int (f_L_leads M_251 v_253 v10), .int (v11 - (M_251 74 ((((Int32.ofInt 4) * v_253) + (Int32.ofInt 3)).toNatClampNeg))), .int (v12 ||| ((Int32.ofInt 1) <<< ((f_L_leads M_251 v_253 v10) &&& 31))), .int v13, .int v_253, .null, .null, .null, .null, .null, .null] [.int (f_L_leads M_251 v_253 v10), .int v7, .int v6, .ref 0] M_251 L_252)
          refine wr_callV 66 0 [.int v6, .int v7, .int (f_L_leads M_251 v_253 v10)] (i := 48) (by decide +kernel) (by decide +kernel) (by decide +kernel) (by decide +kernel) rfl rfl rfl (rest := []) rfl rfl ?_
          refine t_X9_loud hP (fun v_263 M_261 L_262 hP => ?_)
          show Wr E 212 [.ref 75, .ref 0, .ref 74, .int v3, .int v4, .int v5, .int v6, .int v7, .int v8, .int v9, .int (f_L_leads M_251 v_253 v10), .int (v11 - (M_251 74 ((((Int32.ofInt 4) * v_253) + (Int32.ofInt 3)).toNatClampNeg))), .int (v12 ||| ((Int32.ofInt 1) <<< ((f_L_leads M_251 v_253 v10) &&& 31))), .int v13, .int v_253, .null, .null, .null, .null, .null, .null] [.int v_263] M_261 L_262
          refine wr_seg (pc' := 214) [.iload 11] (by decide +kernel) rfl (?_ : Wr E 214 [.ref 75, .ref 0, .ref 74, .int v3, .int v4, .int v5, .int v6, .int v7, .int v8, .int v9, .int (f_L_leads M_251 v_253 v10), .int (v11 - (M_251 74 ((((Int32.ofInt 4) * v_253) + (Int32.ofInt 3)).toNatClampNeg))), .int (v12 ||| ((Int32.ofInt 1) <<< ((f_L_leads M_251 v_253 v10) &&& 31))), .int v13, .int v_253, .null, .null, .null, .null, .null, .null] [.int (v11 - (M_251 74 ((((Int32.ofInt 4) * v_253) + (Int32.ofInt 3)).toNatClampNeg))), .int v_263] M_261 L_262)
          refine wp_icmpeq (off := 5) 219 (by decide +kernel) (by decide) (fun c_264 => ?_) (fun c_264 => ?_)
          · have hP := hP.1 c_264
            refine wr_seg (pc' := 133) [.iinc 13 1, .goto 0] (by decide +kernel) rfl (?_ : Wr E 133 [.ref 75, .ref 0, .ref 74, .int v3, .int v4, .int v5, .int v6, .int v7, .int v8, .int v9, .int (f_L_leads M_251 v_253 v10), .int (v11 - (M_251 74 ((((Int32.ofInt 4) * v_253) + (Int32.ofInt 3)).toNatClampNeg))), .int (v12 ||| ((Int32.ofInt 1) <<< ((f_L_leads M_251 v_253 v10) &&& 31))), .int (v13 + Int32.ofInt 1), .int v_253, .null, .null, .null, .null, .null, .null] [] M_261 L_262)
            refine wp_drop (lo := [.ref 75, .ref 0, .ref 74, .int v3, .int v4, .int v5, .int v6, .int v7, .int v8, .int v9, .int (f_L_leads M_251 v_253 v10), .int (v11 - (M_251 74 ((((Int32.ofInt 4) * v_253) + (Int32.ofInt 3)).toNatClampNeg))), .int (v12 ||| ((Int32.ofInt 1) <<< ((f_L_leads M_251 v_253 v10) &&& 31))), .int (v13 + Int32.ofInt 1), .null, .null, .null, .null, .null, .null, .null]) ⟨Or.inr rfl, Or.inr rfl, Or.inr rfl, Or.inr rfl, Or.inr rfl, Or.inr rfl, Or.inr rfl, Or.inr rfl, Or.inr rfl, Or.inr rfl, Or.inr rfl, Or.inr rfl, Or.inr rfl, Or.inr rfl, Or.inl rfl, Or.inl rfl, Or.inl rfl, Or.inl rfl, Or.inl rfl, Or.inl rfl, Or.inl rfl, trivial⟩ ?_
            exact ih v3 v4 v5 v6 v7 v8 v9 (f_L_leads M_251 v_253 v10) (v11 - (M_251 74 ((((Int32.ofInt 4) * v_253) + (Int32.ofInt 3)).toNatClampNeg))) (v12 ||| ((Int32.ofInt 1) <<< ((f_L_leads M_251 v_253 v10) &&& 31))) (v13 + Int32.ofInt 1) M_261 L_262 hP
          · have hP := hP.2 c_264
            refine wr_seg (pc' := 218) [.iconst 0] (by decide +kernel) rfl (?_ : Wr E 218 [.ref 75, .ref 0, .ref 74, .int v3, .int v4, .int v5, .int v6, .int v7, .int v8, .int v9, .int (f_L_leads M_251 v_253 v10), .int (v11 - (M_251 74 ((((Int32.ofInt 4) * v_253) + (Int32.ofInt 3)).toNatClampNeg))), .int (v12 ||| ((Int32.ofInt 1) <<< ((f_L_leads M_251 v_253 v10) &&& 31))), .int v13, .int v_253, .null, .null, .null, .null, .null, .null] [.int (Int32.ofInt 0)] M_261 L_262)
            have hv := hK _ _ _ hP
            rw [hv]
            exact wr_ret (by decide +kernel)
        · have hP := hP.1 c_259
          refine wr_seg (pc' := 179) [.iconst 0] (by decide +kernel) rfl (?_ : Wr E 179 [.ref 75, .ref 0, .ref 74, .int v3, .int v4, .int v5, .int v6, .int v7, .int v8, .int v9, .int (f_L_leads M_251 v_253 v10), .int v11, .int v12, .int v13, .int v_253, .null, .null, .null, .null, .null, .null] [.int (Int32.ofInt 0)] M_251 L_252)
          have hv := hK _ _ _ hP
          rw [hv]
          exact wr_ret (by decide +kernel)
def PL_L_law_76 (sc : SCT) (K : Int32 → Mem → LMem → Prop) (C_66 : Int32 → Int32 → Int32 → Int32 → Mem → LMem → Prop) : Nat → Int32 → Int32 → Int32 → Int32 → Int32 → Mem → LMem → Prop
  | 0, _, _, _, _, _, _, _ => False
  | n_ + 1, v3, v4, v5, v6, v7, M, L => (((Int32.ofInt 8) ≤ v7 → C_66 v3 v4 v5 (v6 + Int32.ofInt 1) M L) ∧ (¬ ((Int32.ofInt 8) ≤ v7) → ((v6 = v7 → PL_L_law_463 sc K C_66 (PL_L_law_76 sc K C_66 n_) 100000 v3 v4 v5 v6 v7 M L) ∧ (¬ (v6 = v7) → P_X9_way v6 v7 (Int32.ofInt (-1)) M L (fun v_190 M_188 L_189 => P_X9_way v6 v7 (Int32.ofInt (-2)) M_188 L_189 (fun v_193 M_191 L_192 => PL_L_law_133 sc K C_66 (PL_L_law_76 sc K C_66 n_) 100000 v3 v4 v5 v6 v7 v_190 v_193 v6 (Int32.ofInt 20) ((Int32.ofInt 1) <<< (v6 &&& 31)) (Int32.ofInt 0) M_191 L_192))))))
theorem tl_L_law_76 {E : VE} {sc : SCT} (hsc : SCE E sc) {K : Int32 → Mem → LMem → Prop} {C_66 : Int32 → Int32 → Int32 → Int32 → Mem → LMem → Prop} (hK : ∀ (v : Int32) (M : Mem) (L : LMem), K v M L → v = 1) (hC_66 : ∀ (v3 : Int32) (v4 : Int32) (v5 : Int32) (v6 : Int32) (M : Mem) (L : LMem), C_66 v3 v4 v5 v6 M L → Wr E 66 [.ref 75, .ref 0, .ref 74, .int v3, .int v4, .int v5, .int v6, .null, .null, .null, .null, .null, .null, .null, .null, .null, .null, .null, .null, .null, .null] [] M L) : ∀ (n_ : Nat) (v3 : Int32) (v4 : Int32) (v5 : Int32) (v6 : Int32) (v7 : Int32) (M : Mem) (L : LMem), PL_L_law_76 sc K C_66 n_ v3 v4 v5 v6 v7 M L → Wr E 76 [.ref 75, .ref 0, .ref 74, .int v3, .int v4, .int v5, .int v6, .int v7, .null, .null, .null, .null, .null, .null, .null, .null, .null, .null, .null, .null, .null] [] M L := by
  intro n_
  induction n_ with
  | zero => intro v3 v4 v5 v6 v7 M L hP; exact False.elim hP
  | succ n_ ih =>
    intro v3 v4 v5 v6 v7 M L hP
    unfold PL_L_law_76 at hP
    refine wr_seg (pc' := 80) [.iload 7, .iconst 8] (by decide +kernel) rfl (?_ : Wr E 80 [.ref 75, .ref 0, .ref 74, .int v3, .int v4, .int v5, .int v6, .int v7, .null, .null, .null, .null, .null, .null, .null, .null, .null, .null, .null, .null, .null] [.int (Int32.ofInt 8), .int v7] M L)
    refine wp_icmpge (off := 389) 469 (by decide +kernel) (by decide) (fun c_186 => ?_) (fun c_186 => ?_)
    · have hP := hP.1 c_186
      refine wr_seg (pc' := 66) [.iinc 6 1, .goto 0] (by decide +kernel) rfl (?_ : Wr E 66 [.ref 75, .ref 0, .ref 74, .int v3, .int v4, .int v5, .int (v6 + Int32.ofInt 1), .int v7, .null, .null, .null, .null, .null, .null, .null, .null, .null, .null, .null, .null, .null] [] M L)
      refine wp_drop (lo := [.ref 75, .ref 0, .ref 74, .int v3, .int v4, .int v5, .int (v6 + Int32.ofInt 1), .null, .null, .null, .null, .null, .null, .null, .null, .null, .null, .null, .null, .null, .null]) ⟨Or.inr rfl, Or.inr rfl, Or.inr rfl, Or.inr rfl, Or.inr rfl, Or.inr rfl, Or.inr rfl, Or.inl rfl, Or.inl rfl, Or.inl rfl, Or.inl rfl, Or.inl rfl, Or.inl rfl, Or.inl rfl, Or.inl rfl, Or.inl rfl, Or.inl rfl, Or.inl rfl, Or.inl rfl, Or.inl rfl, Or.inl rfl, trivial⟩ ?_
      exact hC_66 v3 v4 v5 (v6 + Int32.ofInt 1) M L hP
    · have hP := hP.2 c_186
      refine wr_seg (pc' := 87) [.iload 6, .iload 7] (by decide +kernel) rfl (?_ : Wr E 87 [.ref 75, .ref 0, .ref 74, .int v3, .int v4, .int v5, .int v6, .int v7, .null, .null, .null, .null, .null, .null, .null, .null, .null, .null, .null, .null, .null] [.int v7, .int v6] M L)
      refine wp_icmpne (off := 6) 93 (by decide +kernel) (by decide) (fun c_187 => ?_) (fun c_187 => ?_)
      · have hP := hP.2 c_187
        refine wr_seg (pc' := 99) [.aload 1, .iload 6, .iload 7, .iconst (-1)] (by decide +kernel) rfl (?_ : Wr E 99 [.ref 75, .ref 0, .ref 74, .int v3, .int v4, .int v5, .int v6, .int v7, .null, .null, .null, .null, .null, .null, .null, .null, .null, .null, .null, .null, .null] [.int (Int32.ofInt (-1)), .int v7, .int v6, .ref 0] M L)
        refine wr_callV 65 0 [.int v6, .int v7, .int (Int32.ofInt (-1))] (i := 44) (by decide +kernel) (by decide +kernel) (by decide +kernel) (by decide +kernel) rfl rfl rfl (rest := []) rfl rfl ?_
        refine t_X9_way hP (fun v_190 M_188 L_189 hP => ?_)
        show Wr E 102 [.ref 75, .ref 0, .ref 74, .int v3, .int v4, .int v5, .int v6, .int v7, .null, .null, .null, .null, .null, .null, .null, .null, .null, .null, .null, .null, .null] [.int v_190] M_188 L_189
        refine wr_seg (pc' := 111) [.istore 8, .aload 1, .iload 6, .iload 7, .iconst (-2)] (by decide +kernel) rfl (?_ : Wr E 111 [.ref 75, .ref 0, .ref 74, .int v3, .int v4, .int v5, .int v6, .int v7, .int v_190, .null, .null, .null, .null, .null, .null, .null, .null, .null, .null, .null, .null] [.int (Int32.ofInt (-2)), .int v7, .int v6, .ref 0] M_188 L_189)
        refine wr_callV 65 0 [.int v6, .int v7, .int (Int32.ofInt (-2))] (i := 44) (by decide +kernel) (by decide +kernel) (by decide +kernel) (by decide +kernel) rfl rfl rfl (rest := []) rfl rfl ?_
        refine t_X9_way hP (fun v_193 M_191 L_192 hP => ?_)
        show Wr E 114 [.ref 75, .ref 0, .ref 74, .int v3, .int v4, .int v5, .int v6, .int v7, .int v_190, .null, .null, .null, .null, .null, .null, .null, .null, .null, .null, .null, .null] [.int v_193] M_191 L_192
        refine wr_seg (pc' := 133) [.istore 9, .iload 6, .istore 10, .iconst 20, .istore 11, .iconst 1, .iload 6, .ishl, .istore 12, .iconst 0, .istore 13] (by decide +kernel) rfl (?_ : Wr E 133 [.ref 75, .ref 0, .ref 74, .int v3, .int v4, .int v5, .int v6, .int v7, .int v_190, .int v_193, .int v6, .int (Int32.ofInt 20), .int ((Int32.ofInt 1) <<< (v6 &&& 31)), .int (Int32.ofInt 0), .null, .null, .null, .null, .null, .null, .null] [] M_191 L_192)
        exact tl_L_law_133 hsc hK hC_66 (fun v3 v4 v5 v6 v7 M L hP => ih v3 v4 v5 v6 v7 M L hP) 100000 v3 v4 v5 v6 v7 v_190 v_193 v6 (Int32.ofInt 20) ((Int32.ofInt 1) <<< (v6 &&& 31)) (Int32.ofInt 0) M_191 L_192 hP
      · have hP := hP.1 c_187
        refine wr_seg (pc' := 463) [.goto 0] (by decide +kernel) rfl (?_ : Wr E 463 [.ref 75, .ref 0, .ref 74, .int v3, .int v4, .int v5, .int v6, .int v7, .null, .null, .null, .null, .null, .null, .null, .null, .null, .null, .null, .null, .null] [] M L)
        exact tl_L_law_463 hsc hK hC_66 (fun v3 v4 v5 v6 v7 M L hP => ih v3 v4 v5 v6 v7 M L hP) 100000 v3 v4 v5 v6 v7 M L hP
def PL_L_law_66 (sc : SCT) (K : Int32 → Mem → LMem → Prop)  : Nat → Int32 → Int32 → Int32 → Int32 → Mem → LMem → Prop
  | 0, _, _, _, _, _, _ => False
  | n_ + 1, v3, v4, v5, v6, M, L => (((Int32.ofInt 8) ≤ v6 → PL_L_law_475 sc K 100000 v3 v5 M L) ∧ (¬ ((Int32.ofInt 8) ≤ v6) → PL_L_law_76 sc K (PL_L_law_66 sc K n_) 100000 v3 v4 v5 v6 (Int32.ofInt 0) M L))
theorem tl_L_law_66 {E : VE} {sc : SCT} (hsc : SCE E sc) {K : Int32 → Mem → LMem → Prop}  (hK : ∀ (v : Int32) (M : Mem) (L : LMem), K v M L → v = 1)  : ∀ (n_ : Nat) (v3 : Int32) (v4 : Int32) (v5 : Int32) (v6 : Int32) (M : Mem) (L : LMem), PL_L_law_66 sc K n_ v3 v4 v5 v6 M L → Wr E 66 [.ref 75, .ref 0, .ref 74, .int v3, .int v4, .int v5, .int v6, .null, .null, .null, .null, .null, .null, .null, .null, .null, .null, .null, .null, .null, .null] [] M L := by
  intro n_
  induction n_ with
  | zero => intro v3 v4 v5 v6 M L hP; exact False.elim hP
  | succ n_ ih =>
    intro v3 v4 v5 v6 M L hP
    unfold PL_L_law_66 at hP
    refine wr_seg (pc' := 70) [.iload 6, .iconst 8] (by decide +kernel) rfl (?_ : Wr E 70 [.ref 75, .ref 0, .ref 74, .int v3, .int v4, .int v5, .int v6, .null, .null, .null, .null, .null, .null, .null, .null, .null, .null, .null, .null, .null, .null] [.int (Int32.ofInt 8), .int v6] M L)
    refine wp_icmpge (off := 405) 475 (by decide +kernel) (by decide) (fun c_11 => ?_) (fun c_11 => ?_)
    · have hP := hP.1 c_11
      refine wp_drop (lo := [.ref 75, .ref 0, .ref 74, .int v3, .null, .int v5, .null, .null, .null, .null, .null, .null, .null, .null, .null, .null, .null, .null, .null, .null, .null]) ⟨Or.inr rfl, Or.inr rfl, Or.inr rfl, Or.inr rfl, Or.inl rfl, Or.inr rfl, Or.inl rfl, Or.inl rfl, Or.inl rfl, Or.inl rfl, Or.inl rfl, Or.inl rfl, Or.inl rfl, Or.inl rfl, Or.inl rfl, Or.inl rfl, Or.inl rfl, Or.inl rfl, Or.inl rfl, Or.inl rfl, Or.inl rfl, trivial⟩ ?_
      exact tl_L_law_475 hsc hK 100000 v3 v5 M L hP
    · have hP := hP.2 c_11
      refine wr_seg (pc' := 76) [.iconst 0, .istore 7] (by decide +kernel) rfl (?_ : Wr E 76 [.ref 75, .ref 0, .ref 74, .int v3, .int v4, .int v5, .int v6, .int (Int32.ofInt 0), .null, .null, .null, .null, .null, .null, .null, .null, .null, .null, .null, .null, .null] [] M L)
      exact tl_L_law_76 hsc hK (fun v3 v4 v5 v6 M L hP => ih v3 v4 v5 v6 M L hP) 100000 v3 v4 v5 v6 (Int32.ofInt 0) M L hP
def PL_L_law_60 (sc : SCT) (K : Int32 → Mem → LMem → Prop)  : Nat → Int32 → Int32 → Mem → LMem → Prop
  | 0, _, _, _, _ => False
  | n_ + 1, v3, v4, M, L => PL_L_law_66 sc K 100000 v3 v4 (Int32.ofInt 0) (Int32.ofInt 0) M L
theorem tl_L_law_60 {E : VE} {sc : SCT} (hsc : SCE E sc) {K : Int32 → Mem → LMem → Prop}  (hK : ∀ (v : Int32) (M : Mem) (L : LMem), K v M L → v = 1)  : ∀ (n_ : Nat) (v3 : Int32) (v4 : Int32) (M : Mem) (L : LMem), PL_L_law_60 sc K n_ v3 v4 M L → Wr E 60 [.ref 75, .ref 0, .ref 74, .int v3, .int v4, .null, .null, .null, .null, .null, .null, .null, .null, .null, .null, .null, .null, .null, .null, .null, .null] [] M L := by
  intro n_
  induction n_ with
  | zero => intro v3 v4 M L hP; exact False.elim hP
  | succ n_ ih =>
    intro v3 v4 M L hP
    unfold PL_L_law_60 at hP
    refine wr_seg (pc' := 66) [.iconst 0, .istore 5, .iconst 0, .istore 6] (by decide +kernel) rfl (?_ : Wr E 66 [.ref 75, .ref 0, .ref 74, .int v3, .int v4, .int (Int32.ofInt 0), .int (Int32.ofInt 0), .null, .null, .null, .null, .null, .null, .null, .null, .null, .null, .null, .null, .null, .null] [] M L)
    exact tl_L_law_66 hsc hK 100000 v3 v4 (Int32.ofInt 0) (Int32.ofInt 0) M L hP
def P_L_law (sc : SCT) (M : Mem) (L : LMem) (K : Int32 → Mem → LMem → Prop) : Prop := (CellOK (Int32.ofInt 0) (Int32.ofInt 6) ∧ P_L_house sc (Int32.ofInt 10) ((Int32.ofInt 3) + (f_L_cell sc (Int32.ofInt 0) (Int32.ofInt 6))) M L (fun v_4 M_2 L_3 => (CellOK (Int32.ofInt 1) (Int32.ofInt 256) ∧ ((v_4 < 0 → K (Int32.ofInt 0) M_2 L_3) ∧ (¬ (v_4 < 0) → P_X9_set (Int32.ofInt 1) (f_L_cell sc (Int32.ofInt 1) (Int32.ofInt 256)) M_2 L_3 (fun v_9 M_7 L_8 => ((v_9 = (Int32.ofInt 255) → PL_L_law_60 sc K 100000 v_4 (f_L_cell sc (Int32.ofInt 1) (Int32.ofInt 256)) M_7 L_8) ∧ (¬ (v_9 = (Int32.ofInt 255)) → K (Int32.ofInt 0) M_7 L_8))))))))
theorem t_L_law {E : VE} {sc : SCT} (hsc : SCE E sc) {K : Int32 → Mem → LMem → Prop} {M : Mem} {L : LMem} (hP : P_L_law sc M L K) (hK : ∀ (v : Int32) (M : Mem) (L : LMem), K v M L → v = 1) : Wr E 13 [.ref 75, .ref 0, .ref 74, .null, .null, .null, .null, .null, .null, .null, .null, .null, .null, .null, .null, .null, .null, .null, .null, .null, .null] [] M L := by
  unfold P_L_law at hP
  refine wr_seg (pc' := 22) [.aload 1, .aload 0, .iconst 10, .iconst 3, .aload 0, .iconst 0, .iconst 6] (by decide +kernel) rfl (?_ : Wr E 22 [.ref 75, .ref 0, .ref 74, .null, .null, .null, .null, .null, .null, .null, .null, .null, .null, .null, .null, .null, .null, .null, .null, .null, .null] [.int (Int32.ofInt 6), .int (Int32.ofInt 0), .ref 75, .int (Int32.ofInt 3), .int (Int32.ofInt 10), .ref 75, .ref 0] M L)
  refine wr_callS 89 [.ref 75, .int (Int32.ofInt 0), .int (Int32.ofInt 6)] (i := 14) (by decide +kernel) (by decide +kernel) (by decide +kernel) rfl rfl rfl (rest := [.int (Int32.ofInt 3), .int (Int32.ofInt 10), .ref 75, .ref 0]) rfl rfl ?_
  obtain ⟨a_1, hP⟩ := hP
  refine s_L_cell hsc (Int32.ofInt 0) (Int32.ofInt 6) a_1 ?_
  show Wr E 25 [.ref 75, .ref 0, .ref 74, .null, .null, .null, .null, .null, .null, .null, .null, .null, .null, .null, .null, .null, .null, .null, .null, .null, .null] [.int (f_L_cell sc (Int32.ofInt 0) (Int32.ofInt 6)), .int (Int32.ofInt 3), .int (Int32.ofInt 10), .ref 75, .ref 0] M L
  refine wr_seg (pc' := 27) [.iadd, .aload 2] (by decide +kernel) rfl (?_ : Wr E 27 [.ref 75, .ref 0, .ref 74, .null, .null, .null, .null, .null, .null, .null, .null, .null, .null, .null, .null, .null, .null, .null, .null, .null, .null] [.ref 74, .int ((Int32.ofInt 3) + (f_L_cell sc (Int32.ofInt 0) (Int32.ofInt 6))), .int (Int32.ofInt 10), .ref 75, .ref 0] M L)
  refine wr_callS 91 [.ref 0, .ref 75, .int (Int32.ofInt 10), .int ((Int32.ofInt 3) + (f_L_cell sc (Int32.ofInt 0) (Int32.ofInt 6))), .ref 74] (i := 37) (by decide +kernel) (by decide +kernel) (by decide +kernel) rfl rfl rfl (rest := []) rfl rfl ?_
  refine t_L_house hsc hP (fun v_4 M_2 L_3 hP => ?_)
  show Wr E 30 [.ref 75, .ref 0, .ref 74, .null, .null, .null, .null, .null, .null, .null, .null, .null, .null, .null, .null, .null, .null, .null, .null, .null, .null] [.int v_4] M_2 L_3
  refine wr_seg (pc' := 36) [.istore 3, .aload 0, .iconst 1, .iconst 256] (by decide +kernel) rfl (?_ : Wr E 36 [.ref 75, .ref 0, .ref 74, .int v_4, .null, .null, .null, .null, .null, .null, .null, .null, .null, .null, .null, .null, .null, .null, .null, .null, .null] [.int (Int32.ofInt 256), .int (Int32.ofInt 1), .ref 75] M_2 L_3)
  refine wr_callS 89 [.ref 75, .int (Int32.ofInt 1), .int (Int32.ofInt 256)] (i := 14) (by decide +kernel) (by decide +kernel) (by decide +kernel) rfl rfl rfl (rest := []) rfl rfl ?_
  obtain ⟨a_5, hP⟩ := hP
  refine s_L_cell hsc (Int32.ofInt 1) (Int32.ofInt 256) a_5 ?_
  show Wr E 39 [.ref 75, .ref 0, .ref 74, .int v_4, .null, .null, .null, .null, .null, .null, .null, .null, .null, .null, .null, .null, .null, .null, .null, .null, .null] [.int (f_L_cell sc (Int32.ofInt 1) (Int32.ofInt 256))] M_2 L_3
  refine wr_seg (pc' := 42) [.istore 4, .iload 3] (by decide +kernel) rfl (?_ : Wr E 42 [.ref 75, .ref 0, .ref 74, .int v_4, .int (f_L_cell sc (Int32.ofInt 1) (Int32.ofInt 256)), .null, .null, .null, .null, .null, .null, .null, .null, .null, .null, .null, .null, .null, .null, .null, .null] [.int v_4] M_2 L_3)
  refine wp_iflt (off := 16) 58 (by decide +kernel) (by decide) (fun c_6 => ?_) (fun c_6 => ?_)
  · have hP := hP.1 c_6
    refine wr_seg (pc' := 59) [.iconst 0] (by decide +kernel) rfl (?_ : Wr E 59 [.ref 75, .ref 0, .ref 74, .int v_4, .int (f_L_cell sc (Int32.ofInt 1) (Int32.ofInt 256)), .null, .null, .null, .null, .null, .null, .null, .null, .null, .null, .null, .null, .null, .null, .null, .null] [.int (Int32.ofInt 0)] M_2 L_3)
    have hv := hK _ _ _ hP
    rw [hv]
    exact wr_ret (by decide +kernel)
  · have hP := hP.2 c_6
    refine wr_seg (pc' := 49) [.aload 1, .iconst 1, .iload 4] (by decide +kernel) rfl (?_ : Wr E 49 [.ref 75, .ref 0, .ref 74, .int v_4, .int (f_L_cell sc (Int32.ofInt 1) (Int32.ofInt 256)), .null, .null, .null, .null, .null, .null, .null, .null, .null, .null, .null, .null, .null, .null, .null, .null] [.int (f_L_cell sc (Int32.ofInt 1) (Int32.ofInt 256)), .int (Int32.ofInt 1), .ref 0] M_2 L_3)
    refine wr_callV 64 0 [.int (Int32.ofInt 1), .int (f_L_cell sc (Int32.ofInt 1) (Int32.ofInt 256))] (i := 40) (by decide +kernel) (by decide +kernel) (by decide +kernel) (by decide +kernel) rfl rfl rfl (rest := []) rfl rfl ?_
    refine t_X9_set hP (fun v_9 M_7 L_8 hP => ?_)
    show Wr E 52 [.ref 75, .ref 0, .ref 74, .int v_4, .int (f_L_cell sc (Int32.ofInt 1) (Int32.ofInt 256)), .null, .null, .null, .null, .null, .null, .null, .null, .null, .null, .null, .null, .null, .null, .null, .null] [.int v_9] M_7 L_8
    refine wr_seg (pc' := 55) [.iconst 255] (by decide +kernel) rfl (?_ : Wr E 55 [.ref 75, .ref 0, .ref 74, .int v_4, .int (f_L_cell sc (Int32.ofInt 1) (Int32.ofInt 256)), .null, .null, .null, .null, .null, .null, .null, .null, .null, .null, .null, .null, .null, .null, .null, .null] [.int (Int32.ofInt 255), .int v_9] M_7 L_8)
    refine wp_icmpeq (off := 5) 60 (by decide +kernel) (by decide) (fun c_10 => ?_) (fun c_10 => ?_)
    · have hP := hP.1 c_10
      exact tl_L_law_60 hsc hK 100000 v_4 (f_L_cell sc (Int32.ofInt 1) (Int32.ofInt 256)) M_7 L_8 hP
    · have hP := hP.2 c_10
      refine wr_seg (pc' := 59) [.iconst 0] (by decide +kernel) rfl (?_ : Wr E 59 [.ref 75, .ref 0, .ref 74, .int v_4, .int (f_L_cell sc (Int32.ofInt 1) (Int32.ofInt 256)), .null, .null, .null, .null, .null, .null, .null, .null, .null, .null, .null, .null, .null, .null, .null, .null] [.int (Int32.ofInt 0)] M_7 L_8)
      have hv := hK _ _ _ hP
      rw [hv]
      exact wr_ret (by decide +kernel)
