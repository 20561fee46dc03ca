def PL_X7_leastFrom_67 (K : Int32 → Mem → LMem → Prop) (REC : Int32 → Int32 → Int32 → Int32 → Int32 → Mem → LMem → (Int32 → Mem → LMem → Prop) → Prop)  : Nat → Int32 → Int32 → Int32 → Int32 → Int32 → Int32 → Int32 → Mem → LMem → Prop
  | 0, _, _, _, _, _, _, _, _, _ => False
  | n_ + 1, v1, v2, v3, v4, v5, v6, v7, M, L => (vp_in v1 5 ∧ (((M 64 v1.toNatClampNeg) ≤ v7 → K v6 M L) ∧ (¬ ((M 64 v1.toNatClampNeg) ≤ v7) → ((v6 = 0 → (aok (58 + 1 + v1.toNatClampNeg) 0 (v7 - (Int32.ofInt 1)) ∧ ((((f_X9_takenOf M v2 v3 (M 57 2)) &&& ((Int32.ofInt 1) <<< ((M (58 + 1 + v1.toNatClampNeg) ((v7 - (Int32.ofInt 1)).toNatClampNeg)) &&& 31))) = 0 → (aok (58 + 1 + v1.toNatClampNeg) 0 v7 ∧ REC (v1 + (Int32.ofInt 1)) (v2 ||| ((Int32.ofInt 1) <<< ((M (58 + 1 + v1.toNatClampNeg) ((v7 - (Int32.ofInt 1)).toNatClampNeg)) &&& 31))) (v3 ||| (v2 &&& ((Int32.ofInt 1) <<< ((M (58 + 1 + v1.toNatClampNeg) ((v7 - (Int32.ofInt 1)).toNatClampNeg)) &&& 31)))) (v4 ||| ((Int32.ofInt 1) <<< ((M (58 + 1 + v1.toNatClampNeg) v7.toNatClampNeg) &&& 31))) (((Int32.ofInt 10) * v5) + v7) M L (fun v_11 M_12 L_13 => PL_X7_leastFrom_67 K REC n_ v1 (v2 ||| ((Int32.ofInt 1) <<< ((M (58 + 1 + v1.toNatClampNeg) ((v7 - (Int32.ofInt 1)).toNatClampNeg)) &&& 31))) (v3 ||| (v2 &&& ((Int32.ofInt 1) <<< ((M (58 + 1 + v1.toNatClampNeg) ((v7 - (Int32.ofInt 1)).toNatClampNeg)) &&& 31)))) v4 v5 v_11 (v7 + Int32.ofInt 1) M_12 L_13))) ∧ (¬ (((f_X9_takenOf M v2 v3 (M 57 2)) &&& ((Int32.ofInt 1) <<< ((M (58 + 1 + v1.toNatClampNeg) ((v7 - (Int32.ofInt 1)).toNatClampNeg)) &&& 31))) = 0) → K (Int32.ofInt 0) M L)))) ∧ (¬ (v6 = 0) → K v6 M L)))))
theorem tl_X7_leastFrom_67 {E : VE} {d : Nat} {Q : QQ} {K : Int32 → Mem → LMem → Prop} {REC : Int32 → Int32 → Int32 → Int32 → Int32 → Mem → LMem → (Int32 → Mem → LMem → Prop) → Prop}  (hK : ∀ (v : Int32) (M : Mem) (L : LMem), K v M L → Q (some (.int v)) M L)  (hR : ∀ (x2 x3 x4 x5 x6 : Int32) (M : Mem) (L : LMem) (K' : Int32 → Mem → LMem → Prop), REC x2 x3 x4 x5 x6 M L K' → ∀ Q' : QQ, (∀ (v : Int32) (M : Mem) (L : LMem), K' v M L → Q' (some (.int v)) M L) → Wp E (d + 1) 50 0 [.ref 57, .int x2, .int x3, .int x4, .int x5, .int x6, .null, .null, .null, .null] [] M L Q') : ∀ (n_ : Nat) (v1 : Int32) (v2 : Int32) (v3 : Int32) (v4 : Int32) (v5 : Int32) (v6 : Int32) (v7 : Int32) (M : Mem) (L : LMem), PL_X7_leastFrom_67 K REC n_ v1 v2 v3 v4 v5 v6 v7 M L → Wp E (d + 2) 50 67 [.ref 57, .int v1, .int v2, .int v3, .int v4, .int v5, .int v6, .int v7, .null, .null] [] M L Q := by
  intro n_
  induction n_ with
  | zero => intro v1 v2 v3 v4 v5 v6 v7 M L hP; exact False.elim hP
  | succ n_ ih =>
    intro v1 v2 v3 v4 v5 v6 v7 M L hP
    unfold PL_X7_leastFrom_67 at hP
    obtain ⟨a_5, hP⟩ := hP
    refine wp_seg (pc' := 75) [.iload 7, .aload 0, .getfield 449, .iload 1, .iaload] (by decide +kernel) (show aok 64 0 v1 ∧ Wp E (d + 2) 50 75 [.ref 57, .int v1, .int v2, .int v3, .int v4, .int v5, .int v6, .int v7, .null, .null] [.int (M 64 v1.toNatClampNeg), .int v7] M L Q from ⟨⟨rfl, a_5⟩, ?_⟩)
    refine wp_icmpge (off := 95) 170 (by decide +kernel) (by decide) (fun c_6 => ?_) (fun c_6 => ?_)
    · have hP := hP.1 c_6
      refine wp_seg (pc' := 172) [.iload 6] (by decide +kernel) (?_ : Wp E (d + 2) 50 172 [.ref 57, .int v1, .int v2, .int v3, .int v4, .int v5, .int v6, .int v7, .null, .null] [.int v6] M L Q)
      exact wp_iret (by decide +kernel) rfl (hK _ _ _ hP)
    · have hP := hP.2 c_6
      refine wp_seg (pc' := 80) [.iload 6] (by decide +kernel) (?_ : Wp E (d + 2) 50 80 [.ref 57, .int v1, .int v2, .int v3, .int v4, .int v5, .int v6, .int v7, .null, .null] [.int v6] M L Q)
      refine wp_ifne (off := 90) 170 (by decide +kernel) (by decide) (fun c_7 => ?_) (fun c_7 => ?_)
      · have hP := hP.2 c_7
        refine wp_seg (pc' := 172) [.iload 6] (by decide +kernel) (?_ : Wp E (d + 2) 50 172 [.ref 57, .int v1, .int v2, .int v3, .int v4, .int v5, .int v6, .int v7, .null, .null] [.int v6] M L Q)
        exact wp_iret (by decide +kernel) rfl (hK _ _ _ hP)
      · have hP := hP.1 c_7
        refine wp_seg (pc' := 90) [.iconst 1, .aload 0, .getfield 448, .iload 1, .aaload] (by decide +kernel) (show aok 58 4 v1 ∧ Wp E (d + 2) 50 90 [.ref 57, .int v1, .int v2, .int v3, .int v4, .int v5, .int v6, .int v7, .null, .null] [.ref (58 + 1 + v1.toNatClampNeg), .int (Int32.ofInt 1)] M L Q from ⟨⟨rfl, a_5⟩, ?_⟩)
        obtain ⟨a_8, hP⟩ := hP
        refine wp_seg (pc' := 95) [.iload 7, .iconst 1, .isub, .iaload] (by decide +kernel) (show aok (58 + 1 + v1.toNatClampNeg) 0 (v7 - (Int32.ofInt 1)) ∧ Wp E (d + 2) 50 95 [.ref 57, .int v1, .int v2, .int v3, .int v4, .int v5, .int v6, .int v7, .null, .null] [.int (M (58 + 1 + v1.toNatClampNeg) ((v7 - (Int32.ofInt 1)).toNatClampNeg)), .int (Int32.ofInt 1)] M L Q from ⟨a_8, ?_⟩)
        refine wp_seg (pc' := 104) [.ishl, .istore 8, .iload 2, .iload 3, .aload 0, .getfield 450] (by decide +kernel) (?_ : Wp E (d + 2) 50 104 [.ref 57, .int v1, .int v2, .int v3, .int v4, .int v5, .int v6, .int v7, .int ((Int32.ofInt 1) <<< ((M (58 + 1 + v1.toNatClampNeg) ((v7 - (Int32.ofInt 1)).toNatClampNeg)) &&& 31)), .null] [.int (M 57 2), .int v3, .int v2] M L Q)
        refine wp_callN 86 [.int v2, .int v3, .int (M 57 2)] (i := 74) (by decide +kernel) (by decide +kernel) (by decide +kernel) (by decide +kernel) rfl rfl rfl (rest := []) rfl rfl ?_
        refine s_X9_takenOf M v2 v3 (M 57 2)  ?_
        show Wp E (d + 2) 50 107 [.ref 57, .int v1, .int v2, .int v3, .int v4, .int v5, .int v6, .int v7, .int ((Int32.ofInt 1) <<< ((M (58 + 1 + v1.toNatClampNeg) ((v7 - (Int32.ofInt 1)).toNatClampNeg)) &&& 31)), .null] [.int (f_X9_takenOf M v2 v3 (M 57 2))] M L Q
        refine wp_seg (pc' := 110) [.iload 8, .iand] (by decide +kernel) (?_ : Wp E (d + 2) 50 110 [.ref 57, .int v1, .int v2, .int v3, .int v4, .int v5, .int v6, .int v7, .int ((Int32.ofInt 1) <<< ((M (58 + 1 + v1.toNatClampNeg) ((v7 - (Int32.ofInt 1)).toNatClampNeg)) &&& 31)), .null] [.int ((f_X9_takenOf M v2 v3 (M 57 2)) &&& ((Int32.ofInt 1) <<< ((M (58 + 1 + v1.toNatClampNeg) ((v7 - (Int32.ofInt 1)).toNatClampNeg)) &&& 31)))] M L Q)
        refine wp_ifeq (off := 5) 115 (by decide +kernel) (by decide) (fun c_9 => ?_) (fun c_9 => ?_)
        · have hP := hP.1 c_9
          refine wp_seg (pc' := 134) [.iload 3, .iload 2, .iload 8, .iand, .ior, .istore 3, .iload 2, .iload 8, .ior, .istore 2, .iconst 1, .aload 0, .getfield 448, .iload 1, .aaload] (by decide +kernel) (show aok 58 4 v1 ∧ Wp E (d + 2) 50 134 [.ref 57, .int v1, .int (v2 ||| ((Int32.ofInt 1) <<< ((M (58 + 1 + v1.toNatClampNeg) ((v7 - (Int32.ofInt 1)).toNatClampNeg)) &&& 31))), .int (v3 ||| (v2 &&& ((Int32.ofInt 1) <<< ((M (58 + 1 + v1.toNatClampNeg) ((v7 - (Int32.ofInt 1)).toNatClampNeg)) &&& 31)))), .int v4, .int v5, .int v6, .int v7, .int ((Int32.ofInt 1) <<< ((M (58 + 1 + v1.toNatClampNeg) ((v7 - (Int32.ofInt 1)).toNatClampNeg)) &&& 31)), .null] [.ref (58 + 1 + v1.toNatClampNeg), .int (Int32.ofInt 1)] M L Q from ⟨⟨rfl, a_5⟩, ?_⟩)
          obtain ⟨a_10, hP⟩ := hP
          refine wp_seg (pc' := 137) [.iload 7, .iaload] (by decide +kernel) (show aok (58 + 1 + v1.toNatClampNeg) 0 v7 ∧ Wp E (d + 2) 50 137 [.ref 57, .int v1, .int (v2 ||| ((Int32.ofInt 1) <<< ((M (58 + 1 + v1.toNatClampNeg) ((v7 - (Int32.ofInt 1)).toNatClampNeg)) &&& 31))), .int (v3 ||| (v2 &&& ((Int32.ofInt 1) <<< ((M (58 + 1 + v1.toNatClampNeg) ((v7 - (Int32.ofInt 1)).toNatClampNeg)) &&& 31)))), .int v4, .int v5, .int v6, .int v7, .int ((Int32.ofInt 1) <<< ((M (58 + 1 + v1.toNatClampNeg) ((v7 - (Int32.ofInt 1)).toNatClampNeg)) &&& 31)), .null] [.int (M (58 + 1 + v1.toNatClampNeg) v7.toNatClampNeg), .int (Int32.ofInt 1)] M L Q from ⟨a_10, ?_⟩)
          refine wp_seg (pc' := 159) [.ishl, .istore 9, .aload 0, .iload 1, .iconst 1, .iadd, .iload 2, .iload 3, .iload 4, .iload 9, .ior, .iconst 10, .iload 5, .imul, .iload 7, .iadd] (by decide +kernel) (?_ : Wp E (d + 2) 50 159 [.ref 57, .int v1, .int (v2 ||| ((Int32.ofInt 1) <<< ((M (58 + 1 + v1.toNatClampNeg) ((v7 - (Int32.ofInt 1)).toNatClampNeg)) &&& 31))), .int (v3 ||| (v2 &&& ((Int32.ofInt 1) <<< ((M (58 + 1 + v1.toNatClampNeg) ((v7 - (Int32.ofInt 1)).toNatClampNeg)) &&& 31)))), .int v4, .int v5, .int v6, .int v7, .int ((Int32.ofInt 1) <<< ((M (58 + 1 + v1.toNatClampNeg) ((v7 - (Int32.ofInt 1)).toNatClampNeg)) &&& 31)), .int ((Int32.ofInt 1) <<< ((M (58 + 1 + v1.toNatClampNeg) v7.toNatClampNeg) &&& 31))] [.int (((Int32.ofInt 10) * v5) + v7), .int (v4 ||| ((Int32.ofInt 1) <<< ((M (58 + 1 + v1.toNatClampNeg) v7.toNatClampNeg) &&& 31))), .int (v3 ||| (v2 &&& ((Int32.ofInt 1) <<< ((M (58 + 1 + v1.toNatClampNeg) ((v7 - (Int32.ofInt 1)).toNatClampNeg)) &&& 31)))), .int (v2 ||| ((Int32.ofInt 1) <<< ((M (58 + 1 + v1.toNatClampNeg) ((v7 - (Int32.ofInt 1)).toNatClampNeg)) &&& 31))), .int (v1 + (Int32.ofInt 1)), .ref 57] M L Q)
          refine wp_callS 50 [.ref 57, .int (v1 + (Int32.ofInt 1)), .int (v2 ||| ((Int32.ofInt 1) <<< ((M (58 + 1 + v1.toNatClampNeg) ((v7 - (Int32.ofInt 1)).toNatClampNeg)) &&& 31))), .int (v3 ||| (v2 &&& ((Int32.ofInt 1) <<< ((M (58 + 1 + v1.toNatClampNeg) ((v7 - (Int32.ofInt 1)).toNatClampNeg)) &&& 31)))), .int (v4 ||| ((Int32.ofInt 1) <<< ((M (58 + 1 + v1.toNatClampNeg) v7.toNatClampNeg) &&& 31))), .int (((Int32.ofInt 10) * v5) + v7)] (i := 70) (by decide +kernel) (by decide +kernel) (by decide +kernel) rfl rfl rfl (rest := []) rfl rfl ?_
          refine hR _ _ _ _ _ _ _ _ hP _ (fun v_11 M_12 L_13 hP => ?_)
          show Wp E (d + 2) 50 162 [.ref 57, .int v1, .int (v2 ||| ((Int32.ofInt 1) <<< ((M (58 + 1 + v1.toNatClampNeg) ((v7 - (Int32.ofInt 1)).toNatClampNeg)) &&& 31))), .int (v3 ||| (v2 &&& ((Int32.ofInt 1) <<< ((M (58 + 1 + v1.toNatClampNeg) ((v7 - (Int32.ofInt 1)).toNatClampNeg)) &&& 31)))), .int v4, .int v5, .int v6, .int v7, .int ((Int32.ofInt 1) <<< ((M (58 + 1 + v1.toNatClampNeg) ((v7 - (Int32.ofInt 1)).toNatClampNeg)) &&& 31)), .int ((Int32.ofInt 1) <<< ((M (58 + 1 + v1.toNatClampNeg) v7.toNatClampNeg) &&& 31))] [.int v_11] M_12 L_13 Q
          refine wp_seg (pc' := 67) [.istore 6, .iinc 7 1, .goto 0] (by decide +kernel) (?_ : Wp E (d + 2) 50 67 [.ref 57, .int v1, .int (v2 ||| ((Int32.ofInt 1) <<< ((M (58 + 1 + v1.toNatClampNeg) ((v7 - (Int32.ofInt 1)).toNatClampNeg)) &&& 31))), .int (v3 ||| (v2 &&& ((Int32.ofInt 1) <<< ((M (58 + 1 + v1.toNatClampNeg) ((v7 - (Int32.ofInt 1)).toNatClampNeg)) &&& 31)))), .int v4, .int v5, .int v_11, .int (v7 + Int32.ofInt 1), .int ((Int32.ofInt 1) <<< ((M (58 + 1 + v1.toNatClampNeg) ((v7 - (Int32.ofInt 1)).toNatClampNeg)) &&& 31)), .int ((Int32.ofInt 1) <<< ((M (58 + 1 + v1.toNatClampNeg) v7.toNatClampNeg) &&& 31))] [] M_12 L_13 Q)
          refine wp_drop (lo := [.ref 57, .int v1, .int (v2 ||| ((Int32.ofInt 1) <<< ((M (58 + 1 + v1.toNatClampNeg) ((v7 - (Int32.ofInt 1)).toNatClampNeg)) &&& 31))), .int (v3 ||| (v2 &&& ((Int32.ofInt 1) <<< ((M (58 + 1 + v1.toNatClampNeg) ((v7 - (Int32.ofInt 1)).toNatClampNeg)) &&& 31)))), .int v4, .int v5, .int v_11, .int (v7 + Int32.ofInt 1), .null, .null]) ⟨Or.inr rfl, Or.inr rfl, Or.inr rfl, Or.inr rfl, Or.inr rfl, Or.inr rfl, Or.inr rfl, Or.inr rfl, Or.inl rfl, Or.inl rfl, trivial⟩ ?_
          exact ih v1 (v2 ||| ((Int32.ofInt 1) <<< ((M (58 + 1 + v1.toNatClampNeg) ((v7 - (Int32.ofInt 1)).toNatClampNeg)) &&& 31))) (v3 ||| (v2 &&& ((Int32.ofInt 1) <<< ((M (58 + 1 + v1.toNatClampNeg) ((v7 - (Int32.ofInt 1)).toNatClampNeg)) &&& 31)))) v4 v5 v_11 (v7 + Int32.ofInt 1) M_12 L_13 hP
        · have hP := hP.2 c_9
          refine wp_seg (pc' := 114) [.iconst 0] (by decide +kernel) (?_ : Wp E (d + 2) 50 114 [.ref 57, .int v1, .int v2, .int v3, .int v4, .int v5, .int v6, .int v7, .int ((Int32.ofInt 1) <<< ((M (58 + 1 + v1.toNatClampNeg) ((v7 - (Int32.ofInt 1)).toNatClampNeg)) &&& 31)), .null] [.int (Int32.ofInt 0)] M L Q)
          exact wp_iret (by decide +kernel) rfl (hK _ _ _ hP)
def PB_X7_leastFrom (REC : Int32 → Int32 → Int32 → Int32 → Int32 → Mem → LMem → (Int32 → Mem → LMem → Prop) → Prop) (x2 : Int32) (x3 : Int32) (x4 : Int32) (x5 : Int32) (x6 : Int32) (M : Mem) (L : LMem) (K : Int32 → Mem → LMem → Prop) : Prop := ((x2 < (Int32.ofInt 5) → REC (x2 + (Int32.ofInt 1)) x3 x4 x5 ((Int32.ofInt 10) * x6) M L (fun v_2 M_3 L_4 => PL_X7_leastFrom_67 K REC 100000 x2 x3 x4 x5 x6 v_2 (Int32.ofInt 1) M_3 L_4)) ∧ (¬ (x2 < (Int32.ofInt 5)) → ((x5 = 0 → K (Int32.ofInt 0) M L) ∧ (¬ (x5 = 0) → (((x5 &&& ((f_X9_takenOf M x3 x4 (M 57 2)) ^^^ (Int32.ofInt (-1)))) = 0 → K x6 M L) ∧ (¬ ((x5 &&& ((f_X9_takenOf M x3 x4 (M 57 2)) ^^^ (Int32.ofInt (-1)))) = 0) → K (Int32.ofInt 0) M L))))))
def P_X7_leastFrom : Nat → Int32 → Int32 → Int32 → Int32 → Int32 → Mem → LMem → (Int32 → Mem → LMem → Prop) → Prop
  | 0 => fun _ _ _ _ _ _ _ _ => False
  | r_ + 1 => fun x2 x3 x4 x5 x6 M L K => PB_X7_leastFrom (P_X7_leastFrom r_) x2 x3 x4 x5 x6 M L K
theorem tb_X7_leastFrom {E : VE} {d : Nat} {Q : QQ} {K : Int32 → Mem → LMem → Prop} {REC : Int32 → Int32 → Int32 → Int32 → Int32 → Mem → LMem → (Int32 → Mem → LMem → Prop) → Prop} {x2 : Int32} {x3 : Int32} {x4 : Int32} {x5 : Int32} {x6 : Int32} {M : Mem} {L : LMem} (hP : PB_X7_leastFrom REC x2 x3 x4 x5 x6 M L K) (hK : ∀ (v : Int32) (M : Mem) (L : LMem), K v M L → Q (some (.int v)) M L) (hR : ∀ (x2 x3 x4 x5 x6 : Int32) (M : Mem) (L : LMem) (K' : Int32 → Mem → LMem → Prop), REC x2 x3 x4 x5 x6 M L K' → ∀ Q' : QQ, (∀ (v : Int32) (M : Mem) (L : LMem), K' v M L → Q' (some (.int v)) M L) → Wp E (d + 1) 50 0 [.ref 57, .int x2, .int x3, .int x4, .int x5, .int x6, .null, .null, .null, .null] [] M L Q') : Wp E (d + 2) 50 0 [.ref 57, .int x2, .int x3, .int x4, .int x5, .int x6, .null, .null, .null, .null] [] M L Q := by
  unfold PB_X7_leastFrom at hP
  refine wp_seg (pc' := 2) [.iload 1, .iconst 5] (by decide +kernel) (?_ : Wp E (d + 2) 50 2 [.ref 57, .int x2, .int x3, .int x4, .int x5, .int x6, .null, .null, .null, .null] [.int (Int32.ofInt 5), .int x2] M L Q)
  refine wp_icmplt (off := 44) 46 (by decide +kernel) (by decide) (fun c_1 => ?_) (fun c_1 => ?_)
  · have hP := hP.1 c_1
    refine wp_seg (pc' := 59) [.aload 0, .iload 1, .iconst 1, .iadd, .iload 2, .iload 3, .iload 4, .iconst 10, .iload 5, .imul] (by decide +kernel) (?_ : Wp E (d + 2) 50 59 [.ref 57, .int x2, .int x3, .int x4, .int x5, .int x6, .null, .null, .null, .null] [.int ((Int32.ofInt 10) * x6), .int x5, .int x4, .int x3, .int (x2 + (Int32.ofInt 1)), .ref 57] M L Q)
    refine wp_callS 50 [.ref 57, .int (x2 + (Int32.ofInt 1)), .int x3, .int x4, .int x5, .int ((Int32.ofInt 10) * x6)] (i := 70) (by decide +kernel) (by decide +kernel) (by decide +kernel) rfl rfl rfl (rest := []) rfl rfl ?_
    refine hR _ _ _ _ _ _ _ _ hP _ (fun v_2 M_3 L_4 hP => ?_)
    show Wp E (d + 2) 50 62 [.ref 57, .int x2, .int x3, .int x4, .int x5, .int x6, .null, .null, .null, .null] [.int v_2] M_3 L_4 Q
    refine wp_seg (pc' := 67) [.istore 6, .iconst 1, .istore 7] (by decide +kernel) (?_ : Wp E (d + 2) 50 67 [.ref 57, .int x2, .int x3, .int x4, .int x5, .int x6, .int v_2, .int (Int32.ofInt 1), .null, .null] [] M_3 L_4 Q)
    exact tl_X7_leastFrom_67 hK hR 100000 x2 x3 x4 x5 x6 v_2 (Int32.ofInt 1) M_3 L_4 hP
  · have hP := hP.2 c_1
    refine wp_seg (pc' := 7) [.iload 4] (by decide +kernel) (?_ : Wp E (d + 2) 50 7 [.ref 57, .int x2, .int x3, .int x4, .int x5, .int x6, .null, .null, .null, .null] [.int x5] M L Q)
    refine wp_ifeq (off := 24) 31 (by decide +kernel) (by decide) (fun c_14 => ?_) (fun c_14 => ?_)
    · have hP := hP.1 c_14
      refine wp_seg (pc' := 36) [.iconst 0, .istore 6, .iload 6] (by decide +kernel) (?_ : Wp E (d + 2) 50 36 [.ref 57, .int x2, .int x3, .int x4, .int x5, .int x6, .int (Int32.ofInt 0), .null, .null, .null] [.int (Int32.ofInt 0)] M L Q)
      refine wp_ifeq (off := 8) 44 (by decide +kernel) (by decide) (fun c_15 => ?_) (fun c_15 => ?_)
      · skip
        refine wp_seg (pc' := 45) [.iconst 0] (by decide +kernel) (?_ : Wp E (d + 2) 50 45 [.ref 57, .int x2, .int x3, .int x4, .int x5, .int x6, .int (Int32.ofInt 0), .null, .null, .null] [.int (Int32.ofInt 0)] M L Q)
        exact wp_iret (by decide +kernel) rfl (hK _ _ _ hP)
      · exact absurd (by decide) c_15
    · have hP := hP.2 c_14
      refine wp_seg (pc' := 18) [.iload 4, .iload 2, .iload 3, .aload 0, .getfield 450] (by decide +kernel) (?_ : Wp E (d + 2) 50 18 [.ref 57, .int x2, .int x3, .int x4, .int x5, .int x6, .null, .null, .null, .null] [.int (M 57 2), .int x4, .int x3, .int x5] M L Q)
      refine wp_callN 86 [.int x3, .int x4, .int (M 57 2)] (i := 74) (by decide +kernel) (by decide +kernel) (by decide +kernel) (by decide +kernel) rfl rfl rfl (rest := [.int x5]) rfl rfl ?_
      refine s_X9_takenOf M x3 x4 (M 57 2)  ?_
      show Wp E (d + 2) 50 21 [.ref 57, .int x2, .int x3, .int x4, .int x5, .int x6, .null, .null, .null, .null] [.int (f_X9_takenOf M x3 x4 (M 57 2)), .int x5] M L Q
      refine wp_seg (pc' := 24) [.iconst (-1), .ixor, .iand] (by decide +kernel) (?_ : Wp E (d + 2) 50 24 [.ref 57, .int x2, .int x3, .int x4, .int x5, .int x6, .null, .null, .null, .null] [.int (x5 &&& ((f_X9_takenOf M x3 x4 (M 57 2)) ^^^ (Int32.ofInt (-1))))] M L Q)
      refine wp_ifne (off := 7) 31 (by decide +kernel) (by decide) (fun c_16 => ?_) (fun c_16 => ?_)
      · have hP := hP.2 c_16
        refine wp_seg (pc' := 36) [.iconst 0, .istore 6, .iload 6] (by decide +kernel) (?_ : Wp E (d + 2) 50 36 [.ref 57, .int x2, .int x3, .int x4, .int x5, .int x6, .int (Int32.ofInt 0), .null, .null, .null] [.int (Int32.ofInt 0)] M L Q)
        refine wp_ifeq (off := 8) 44 (by decide +kernel) (by decide) (fun c_17 => ?_) (fun c_17 => ?_)
        · skip
          refine wp_seg (pc' := 45) [.iconst 0] (by decide +kernel) (?_ : Wp E (d + 2) 50 45 [.ref 57, .int x2, .int x3, .int x4, .int x5, .int x6, .int (Int32.ofInt 0), .null, .null, .null] [.int (Int32.ofInt 0)] M L Q)
          exact wp_iret (by decide +kernel) rfl (hK _ _ _ hP)
        · exact absurd (by decide) c_17
      · have hP := hP.1 c_16
        refine wp_seg (pc' := 36) [.iconst 1, .goto 0, .istore 6, .iload 6] (by decide +kernel) (?_ : Wp E (d + 2) 50 36 [.ref 57, .int x2, .int x3, .int x4, .int x5, .int x6, .int (Int32.ofInt 1), .null, .null, .null] [.int (Int32.ofInt 1)] M L Q)
        refine wp_ifeq (off := 8) 44 (by decide +kernel) (by decide) (fun c_18 => ?_) (fun c_18 => ?_)
        · exact absurd c_18 (by decide)
        · skip
          refine wp_seg (pc' := 45) [.iload 5, .goto 0] (by decide +kernel) (?_ : Wp E (d + 2) 50 45 [.ref 57, .int x2, .int x3, .int x4, .int x5, .int x6, .int (Int32.ofInt 1), .null, .null, .null] [.int x6] M L Q)
          exact wp_iret (by decide +kernel) rfl (hK _ _ _ hP)
theorem t_X7_leastFrom {E : VE} : ∀ {r : Nat} {d : Nat} {Q : QQ} {K : Int32 → Mem → LMem → Prop} {x2 : Int32} {x3 : Int32} {x4 : Int32} {x5 : Int32} {x6 : Int32} {M : Mem} {L : LMem} (_ : P_X7_leastFrom r x2 x3 x4 x5 x6 M L K) (_ : ∀ (v : Int32) (M : Mem) (L : LMem), K v M L → Q (some (.int v)) M L), Wp E (d + r + 1) 50 0 [.ref 57, .int x2, .int x3, .int x4, .int x5, .int x6, .null, .null, .null, .null] [] M L Q
  | 0, _, _, _, _, _, _, _, _, _, _, hP, _ => False.elim hP
  | r + 1, d, Q, K, x2, x3, x4, x5, x6, M, L, hP, hK => by
    have e : d + (r + 1) + 1 = (d + r) + 2 := by omega
    rw [e]
    exact tb_X7_leastFrom (d := d + r) (REC := P_X7_leastFrom r) hP hK (fun x2 x3 x4 x5 x6 M L K hP Q hK => t_X7_leastFrom (d := d) hP hK)

def PL_X8_fewestOf_56 (K : Int32 → Mem → LMem → Prop) (REC : Int32 → Int32 → Mem → LMem → (Int32 → Mem → LMem → Prop) → Prop)  : Nat → Int32 → Int32 → Int32 → Int32 → Int32 → Mem → LMem → Prop
  | 0, _, _, _, _, _, _, _ => False
  | n_ + 1, v1, v2, v3, v4, v5, M, L => (((M 65 2) ≤ v5 → (vp_in v1 8192 ∧ K v4 (mput M 69 v1.toNatClampNeg (vp_nar .byte v4.toInt8.toInt32)) L)) ∧ (¬ ((M 65 2) ≤ v5) → (vp_in v3 14 ∧ ((v4 ≤ (M 68 v3.toNatClampNeg) → (vp_in v1 8192 ∧ K v4 (mput M 69 v1.toNatClampNeg (vp_nar .byte v4.toInt8.toInt32)) L)) ∧ (¬ (v4 ≤ (M 68 v3.toNatClampNeg)) → (vp_in v5 64 ∧ ((v3 ≤ (f_X8_largerPart M v1 (M 67 v5.toNatClampNeg)) → PL_X8_fewestOf_56 K REC n_ v1 v2 v3 v4 (v5 + Int32.ofInt 1) M L) ∧ (¬ (v3 ≤ (f_X8_largerPart M v1 (M 67 v5.toNatClampNeg))) → (vp_in (f_X8_largerPart M v1 (M 67 v5.toNatClampNeg)) 14 ∧ ((v4 ≤ ((Int32.ofInt 1) + (M 68 ((f_X8_largerPart M v1 (M 67 v5.toNatClampNeg)).toNatClampNeg))) → PL_X8_fewestOf_56 K REC n_ v1 v2 v3 v4 (v5 + Int32.ofInt 1) M L) ∧ (¬ (v4 ≤ ((Int32.ofInt 1) + (M 68 ((f_X8_largerPart M v1 (M 67 v5.toNatClampNeg)).toNatClampNeg)))) → REC (v1 &&& (M 67 v5.toNatClampNeg)) (v2 + (Int32.ofInt 1)) M L (fun v_16 M_17 L_18 => REC (v1 &&& ((M_17 67 v5.toNatClampNeg) ^^^ (Int32.ofInt (-1)))) (v2 + (Int32.ofInt 1)) M_17 L_18 (fun v_19 M_20 L_21 => PL_X8_fewestOf_56 K REC n_ v1 v2 v3 (if ((Int32.ofInt 1) + (if v_16 < v_19 then v_19 else v_16)) < v4 then ((Int32.ofInt 1) + (if v_16 < v_19 then v_19 else v_16)) else v4) (v5 + Int32.ofInt 1) M_20 L_21)))))))))))))
theorem tl_X8_fewestOf_56 {E : VE} {d : Nat} {Q : QQ} {K : Int32 → Mem → LMem → Prop} {REC : Int32 → Int32 → Mem → LMem → (Int32 → Mem → LMem → Prop) → Prop}  (hK : ∀ (v : Int32) (M : Mem) (L : LMem), K v M L → Q (some (.int v)) M L)  (hR : ∀ (x2 x3 : Int32) (M : Mem) (L : LMem) (K' : Int32 → Mem → LMem → Prop), REC x2 x3 M L K' → ∀ Q' : QQ, (∀ (v : Int32) (M : Mem) (L : LMem), K' v M L → Q' (some (.int v)) M L) → Wp E (d + 2) 59 0 [.ref 65, .int x2, .int x3, .null, .null, .null, .null, .null] [] M L Q') : ∀ (n_ : Nat) (v1 : Int32) (v2 : Int32) (v3 : Int32) (v4 : Int32) (v5 : Int32) (M : Mem) (L : LMem), PL_X8_fewestOf_56 K REC n_ v1 v2 v3 v4 v5 M L → Wp E (d + 3) 59 56 [.ref 65, .int v1, .int v2, .int v3, .int v4, .int v5, .null, .null] [] M L Q := by
  intro n_
  induction n_ with
  | zero => intro v1 v2 v3 v4 v5 M L hP; exact False.elim hP
  | succ n_ ih =>
    intro v1 v2 v3 v4 v5 M L hP
    unfold PL_X8_fewestOf_56 at hP
    refine wp_seg (pc' := 62) [.iload 5, .aload 0, .getfield 514] (by decide +kernel) (?_ : Wp E (d + 3) 59 62 [.ref 65, .int v1, .int v2, .int v3, .int v4, .int v5, .null, .null] [.int (M 65 2), .int v5] M L Q)
    refine wp_icmpge (off := 107) 169 (by decide +kernel) (by decide) (fun c_7 => ?_) (fun c_7 => ?_)
    · have hP := hP.1 c_7
      obtain ⟨a_8, hP⟩ := hP
      refine wp_seg (pc' := 178) [.aload 0, .getfield 516, .iload 1, .iload 4, .i2b, .bastore] (by decide +kernel) (Or.inr (show aok 69 3 v1 ∧ Wp E (d + 3) 59 178 [.ref 65, .int v1, .int v2, .int v3, .int v4, .int v5, .null, .null] [] (mput M 69 v1.toNatClampNeg (vp_nar .byte v4.toInt8.toInt32)) L Q from ⟨⟨rfl, a_8⟩, ?_⟩))
      refine wp_seg (pc' := 180) [.iload 4] (by decide +kernel) (?_ : Wp E (d + 3) 59 180 [.ref 65, .int v1, .int v2, .int v3, .int v4, .int v5, .null, .null] [.int v4] (mput M 69 v1.toNatClampNeg (vp_nar .byte v4.toInt8.toInt32)) L Q)
      exact wp_iret (by decide +kernel) rfl (hK _ _ _ hP)
    · have hP := hP.2 c_7
      obtain ⟨a_9, hP⟩ := hP
      refine wp_seg (pc' := 73) [.iload 4, .aload 0, .getfield 515, .iload 3, .iaload] (by decide +kernel) (show aok 68 0 v3 ∧ Wp E (d + 3) 59 73 [.ref 65, .int v1, .int v2, .int v3, .int v4, .int v5, .null, .null] [.int (M 68 v3.toNatClampNeg), .int v4] M L Q from ⟨⟨rfl, a_9⟩, ?_⟩)
      refine wp_icmple (off := 96) 169 (by decide +kernel) (by decide) (fun c_10 => ?_) (fun c_10 => ?_)
      · have hP := hP.1 c_10
        obtain ⟨a_11, hP⟩ := hP
        refine wp_seg (pc' := 178) [.aload 0, .getfield 516, .iload 1, .iload 4, .i2b, .bastore] (by decide +kernel) (Or.inr (show aok 69 3 v1 ∧ Wp E (d + 3) 59 178 [.ref 65, .int v1, .int v2, .int v3, .int v4, .int v5, .null, .null] [] (mput M 69 v1.toNatClampNeg (vp_nar .byte v4.toInt8.toInt32)) L Q from ⟨⟨rfl, a_11⟩, ?_⟩))
        refine wp_seg (pc' := 180) [.iload 4] (by decide +kernel) (?_ : Wp E (d + 3) 59 180 [.ref 65, .int v1, .int v2, .int v3, .int v4, .int v5, .null, .null] [.int v4] (mput M 69 v1.toNatClampNeg (vp_nar .byte v4.toInt8.toInt32)) L Q)
        exact wp_iret (by decide +kernel) rfl (hK _ _ _ hP)
      · have hP := hP.2 c_10
        obtain ⟨a_12, hP⟩ := hP
        refine wp_seg (pc' := 84) [.iload 1, .aload 0, .getfield 513, .iload 5, .iaload] (by decide +kernel) (show aok 67 0 v5 ∧ Wp E (d + 3) 59 84 [.ref 65, .int v1, .int v2, .int v3, .int v4, .int v5, .null, .null] [.int (M 67 v5.toNatClampNeg), .int v1] M L Q from ⟨⟨rfl, a_12⟩, ?_⟩)
        refine wp_callS 53 [.int v1, .int (M 67 v5.toNatClampNeg)] (i := 51) (by decide +kernel) (by decide +kernel) (by decide +kernel) rfl rfl rfl (rest := []) rfl rfl ?_
        refine s_X8_largerPart M v1 (M 67 v5.toNatClampNeg)  ?_
        show Wp E (d + 3) 59 87 [.ref 65, .int v1, .int v2, .int v3, .int v4, .int v5, .null, .null] [.int (f_X8_largerPart M v1 (M 67 v5.toNatClampNeg))] M L Q
        refine wp_seg (pc' := 92) [.istore 6, .iload 6, .iload 3] (by decide +kernel) (?_ : Wp E (d + 3) 59 92 [.ref 65, .int v1, .int v2, .int v3, .int v4, .int v5, .int (f_X8_largerPart M v1 (M 67 v5.toNatClampNeg)), .null] [.int v3, .int (f_X8_largerPart M v1 (M 67 v5.toNatClampNeg))] M L Q)
        refine wp_icmpge (off := 71) 163 (by decide +kernel) (by decide) (fun c_13 => ?_) (fun c_13 => ?_)
        · have hP := hP.1 c_13
          refine wp_seg (pc' := 56) [.iinc 5 1, .goto 0] (by decide +kernel) (?_ : Wp E (d + 3) 59 56 [.ref 65, .int v1, .int v2, .int v3, .int v4, .int (v5 + Int32.ofInt 1), .int (f_X8_largerPart M v1 (M 67 v5.toNatClampNeg)), .null] [] M L Q)
          refine wp_drop (lo := [.ref 65, .int v1, .int v2, .int v3, .int v4, .int (v5 + Int32.ofInt 1), .null, .null]) ⟨Or.inr rfl, Or.inr rfl, Or.inr rfl, Or.inr rfl, Or.inr rfl, Or.inr rfl, Or.inl rfl, Or.inl rfl, trivial⟩ ?_
          exact ih v1 v2 v3 v4 (v5 + Int32.ofInt 1) M L hP
        · have hP := hP.2 c_13
          obtain ⟨a_14, hP⟩ := hP
          refine wp_seg (pc' := 103) [.iconst 1, .aload 0, .getfield 515, .iload 6, .iaload] (by decide +kernel) (show aok 68 0 (f_X8_largerPart M v1 (M 67 v5.toNatClampNeg)) ∧ Wp E (d + 3) 59 103 [.ref 65, .int v1, .int v2, .int v3, .int v4, .int v5, .int (f_X8_largerPart M v1 (M 67 v5.toNatClampNeg)), .null] [.int (M 68 ((f_X8_largerPart M v1 (M 67 v5.toNatClampNeg)).toNatClampNeg)), .int (Int32.ofInt 1)] M L Q from ⟨⟨rfl, a_14⟩, ?_⟩)
          refine wp_seg (pc' := 106) [.iadd, .iload 4] (by decide +kernel) (?_ : Wp E (d + 3) 59 106 [.ref 65, .int v1, .int v2, .int v3, .int v4, .int v5, .int (f_X8_largerPart M v1 (M 67 v5.toNatClampNeg)), .null] [.int v4, .int ((Int32.ofInt 1) + (M 68 ((f_X8_largerPart M v1 (M 67 v5.toNatClampNeg)).toNatClampNeg)))] M L Q)
          refine wp_icmpge (off := 57) 163 (by decide +kernel) (by decide) (fun c_15 => ?_) (fun c_15 => ?_)
          · have hP := hP.1 c_15
            refine wp_seg (pc' := 56) [.iinc 5 1, .goto 0] (by decide +kernel) (?_ : Wp E (d + 3) 59 56 [.ref 65, .int v1, .int v2, .int v3, .int v4, .int (v5 + Int32.ofInt 1), .int (f_X8_largerPart M v1 (M 67 v5.toNatClampNeg)), .null] [] M L Q)
            refine wp_drop (lo := [.ref 65, .int v1, .int v2, .int v3, .int v4, .int (v5 + Int32.ofInt 1), .null, .null]) ⟨Or.inr rfl, Or.inr rfl, Or.inr rfl, Or.inr rfl, Or.inr rfl, Or.inr rfl, Or.inl rfl, Or.inl rfl, trivial⟩ ?_
            exact ih v1 v2 v3 v4 (v5 + Int32.ofInt 1) M L hP
          · have hP := hP.2 c_15
            refine wp_seg (pc' := 118) [.aload 0, .iload 1, .aload 0, .getfield 513, .iload 5, .iaload] (by decide +kernel) (show aok 67 0 v5 ∧ Wp E (d + 3) 59 118 [.ref 65, .int v1, .int v2, .int v3, .int v4, .int v5, .int (f_X8_largerPart M v1 (M 67 v5.toNatClampNeg)), .null] [.int (M 67 v5.toNatClampNeg), .int v1, .ref 65] M L Q from ⟨⟨rfl, a_12⟩, ?_⟩)
            refine wp_seg (pc' := 122) [.iand, .iload 2, .iconst 1, .iadd] (by decide +kernel) (?_ : Wp E (d + 3) 59 122 [.ref 65, .int v1, .int v2, .int v3, .int v4, .int v5, .int (f_X8_largerPart M v1 (M 67 v5.toNatClampNeg)), .null] [.int (v2 + (Int32.ofInt 1)), .int (v1 &&& (M 67 v5.toNatClampNeg)), .ref 65] M L Q)
            refine wp_callS 59 [.ref 65, .int (v1 &&& (M 67 v5.toNatClampNeg)), .int (v2 + (Int32.ofInt 1))] (i := 77) (by decide +kernel) (by decide +kernel) (by decide +kernel) rfl rfl rfl (rest := []) rfl rfl ?_
            refine hR _ _ _ _ _ hP _ (fun v_16 M_17 L_18 hP => ?_)
            show Wp E (d + 3) 59 125 [.ref 65, .int v1, .int v2, .int v3, .int v4, .int v5, .int (f_X8_largerPart M v1 (M 67 v5.toNatClampNeg)), .null] [.int v_16] M_17 L_18 Q
            refine wp_seg (pc' := 138) [.istore 7, .iload 7, .aload 0, .iload 1, .aload 0, .getfield 513, .iload 5, .iaload] (by decide +kernel) (show aok 67 0 v5 ∧ Wp E (d + 3) 59 138 [.ref 65, .int v1, .int v2, .int v3, .int v4, .int v5, .int (f_X8_largerPart M v1 (M 67 v5.toNatClampNeg)), .int v_16] [.int (M_17 67 v5.toNatClampNeg), .int v1, .ref 65, .int v_16] M_17 L_18 Q from ⟨⟨rfl, a_12⟩, ?_⟩)
            refine wp_seg (pc' := 144) [.iconst (-1), .ixor, .iand, .iload 2, .iconst 1, .iadd] (by decide +kernel) (?_ : Wp E (d + 3) 59 144 [.ref 65, .int v1, .int v2, .int v3, .int v4, .int v5, .int (f_X8_largerPart M v1 (M 67 v5.toNatClampNeg)), .int v_16] [.int (v2 + (Int32.ofInt 1)), .int (v1 &&& ((M_17 67 v5.toNatClampNeg) ^^^ (Int32.ofInt (-1)))), .ref 65, .int v_16] M_17 L_18 Q)
            refine wp_callS 59 [.ref 65, .int (v1 &&& ((M_17 67 v5.toNatClampNeg) ^^^ (Int32.ofInt (-1)))), .int (v2 + (Int32.ofInt 1))] (i := 77) (by decide +kernel) (by decide +kernel) (by decide +kernel) rfl rfl rfl (rest := [.int v_16]) rfl rfl ?_
            refine hR _ _ _ _ _ hP _ (fun v_19 M_20 L_21 hP => ?_)
            show Wp E (d + 3) 59 147 [.ref 65, .int v1, .int v2, .int v3, .int v4, .int v5, .int (f_X8_largerPart M v1 (M 67 v5.toNatClampNeg)), .int v_16] [.int v_19, .int v_16] M_20 L_21 Q
            refine wp_seg (pc' := 150) [.invokestatic 0] (by decide +kernel) (?_ : Wp E (d + 3) 59 150 [.ref 65, .int v1, .int v2, .int v3, .int v4, .int v5, .int (f_X8_largerPart M v1 (M 67 v5.toNatClampNeg)), .int v_16] [.int (if v_16 < v_19 then v_19 else v_16)] M_20 L_21 Q)
            refine wp_seg (pc' := 161) [.istore 7, .iload 4, .iconst 1, .iload 7, .iadd, .invokestatic 1] (by decide +kernel) (?_ : Wp E (d + 3) 59 161 [.ref 65, .int v1, .int v2, .int v3, .int v4, .int v5, .int (f_X8_largerPart M v1 (M 67 v5.toNatClampNeg)), .int (if v_16 < v_19 then v_19 else v_16)] [.int (if ((Int32.ofInt 1) + (if v_16 < v_19 then v_19 else v_16)) < v4 then ((Int32.ofInt 1) + (if v_16 < v_19 then v_19 else v_16)) else v4)] M_20 L_21 Q)
            refine wp_seg (pc' := 56) [.istore 4, .iinc 5 1, .goto 0] (by decide +kernel) (?_ : Wp E (d + 3) 59 56 [.ref 65, .int v1, .int v2, .int v3, .int (if ((Int32.ofInt 1) + (if v_16 < v_19 then v_19 else v_16)) < v4 then ((Int32.ofInt 1) + (if v_16 < v_19 then v_19 else v_16)) else v4), .int (v5 + Int32.ofInt 1), .int (f_X8_largerPart M v1 (M 67 v5.toNatClampNeg)), .int (if v_16 < v_19 then v_19 else v_16)] [] M_20 L_21 Q)
            refine wp_drop (lo := [.ref 65, .int v1, .int v2, .int v3, .int (if ((Int32.ofInt 1) + (if v_16 < v_19 then v_19 else v_16)) < v4 then ((Int32.ofInt 1) + (if v_16 < v_19 then v_19 else v_16)) else v4), .int (v5 + Int32.ofInt 1), .null, .null]) ⟨Or.inr rfl, Or.inr rfl, Or.inr rfl, Or.inr rfl, Or.inr rfl, Or.inr rfl, Or.inl rfl, Or.inl rfl, trivial⟩ ?_
            exact ih v1 v2 v3 (if ((Int32.ofInt 1) + (if v_16 < v_19 then v_19 else v_16)) < v4 then ((Int32.ofInt 1) + (if v_16 < v_19 then v_19 else v_16)) else v4) (v5 + Int32.ofInt 1) M_20 L_21 hP
def PB_X8_fewestOf (REC : Int32 → Int32 → Mem → LMem → (Int32 → Mem → LMem → Prop) → Prop) (x2 : Int32) (x3 : Int32) (M : Mem) (L : LMem) (K : Int32 → Mem → LMem → Prop) : Prop := (((f_J6_bitCount_0f7a4 M x2) ≤ (Int32.ofInt 1) → K (Int32.ofInt 0) M L) ∧ (¬ ((f_J6_bitCount_0f7a4 M x2) ≤ (Int32.ofInt 1)) → (((Int32.ofInt 13) < (f_J6_bitCount_0f7a4 M x2) → K (Int32.ofInt 0) M L) ∧ (¬ ((Int32.ofInt 13) < (f_J6_bitCount_0f7a4 M x2)) → (((Int32.ofInt 13) < x3 → K (Int32.ofInt 0) M L) ∧ (¬ ((Int32.ofInt 13) < x3) → ((x2 < (Int32.ofNat 8192) → (vp_in x2 8192 ∧ (((M 69 x2.toNatClampNeg) = 0 → PL_X8_fewestOf_56 K REC 100000 x2 x3 (f_J6_bitCount_0f7a4 M x2) (Int32.ofInt 99) (Int32.ofInt 0) M L) ∧ (¬ ((M 69 x2.toNatClampNeg) = 0) → K (M 69 x2.toNatClampNeg) M L)))) ∧ (¬ (x2 < (Int32.ofNat 8192)) → K (Int32.ofInt 0) M L))))))))
def P_X8_fewestOf : Nat → Int32 → Int32 → Mem → LMem → (Int32 → Mem → LMem → Prop) → Prop
  | 0 => fun _ _ _ _ _ => False
  | r_ + 1 => fun x2 x3 M L K => PB_X8_fewestOf (P_X8_fewestOf r_) x2 x3 M L K
theorem tb_X8_fewestOf {E : VE} {d : Nat} {Q : QQ} {K : Int32 → Mem → LMem → Prop} {REC : Int32 → Int32 → Mem → LMem → (Int32 → Mem → LMem → Prop) → Prop} {x2 : Int32} {x3 : Int32} {M : Mem} {L : LMem} (hP : PB_X8_fewestOf REC x2 x3 M L K) (hK : ∀ (v : Int32) (M : Mem) (L : LMem), K v M L → Q (some (.int v)) M L) (hR : ∀ (x2 x3 : Int32) (M : Mem) (L : LMem) (K' : Int32 → Mem → LMem → Prop), REC x2 x3 M L K' → ∀ Q' : QQ, (∀ (v : Int32) (M : Mem) (L : LMem), K' v M L → Q' (some (.int v)) M L) → Wp E (d + 2) 59 0 [.ref 65, .int x2, .int x3, .null, .null, .null, .null, .null] [] M L Q') : Wp E (d + 3) 59 0 [.ref 65, .int x2, .int x3, .null, .null, .null, .null, .null] [] M L Q := by
  unfold PB_X8_fewestOf at hP
  refine wp_seg (pc' := 1) [.iload 1] (by decide +kernel) (?_ : Wp E (d + 3) 59 1 [.ref 65, .int x2, .int x3, .null, .null, .null, .null, .null] [.int x2] M L Q)
  refine wp_callS 87 [.int x2] (i := 45) (by decide +kernel) (by decide +kernel) (by decide +kernel) rfl rfl rfl (rest := []) rfl rfl ?_
  refine s_J6_bitCount_0f7a4 M x2  ?_
  show Wp E (d + 3) 59 4 [.ref 65, .int x2, .int x3, .null, .null, .null, .null, .null] [.int (f_J6_bitCount_0f7a4 M x2)] M L Q
  refine wp_seg (pc' := 7) [.istore 3, .iload 3, .iconst 1] (by decide +kernel) (?_ : Wp E (d + 3) 59 7 [.ref 65, .int x2, .int x3, .int (f_J6_bitCount_0f7a4 M x2), .null, .null, .null, .null] [.int (Int32.ofInt 1), .int (f_J6_bitCount_0f7a4 M x2)] M L Q)
  refine wp_icmple (off := 24) 31 (by decide +kernel) (by decide) (fun c_1 => ?_) (fun c_1 => ?_)
  · have hP := hP.1 c_1
    refine wp_seg (pc' := 32) [.iconst 0] (by decide +kernel) (?_ : Wp E (d + 3) 59 32 [.ref 65, .int x2, .int x3, .int (f_J6_bitCount_0f7a4 M x2), .null, .null, .null, .null] [.int (Int32.ofInt 0)] M L Q)
    exact wp_iret (by decide +kernel) rfl (hK _ _ _ hP)
  · have hP := hP.2 c_1
    refine wp_seg (pc' := 13) [.iload 3, .iconst 13] (by decide +kernel) (?_ : Wp E (d + 3) 59 13 [.ref 65, .int x2, .int x3, .int (f_J6_bitCount_0f7a4 M x2), .null, .null, .null, .null] [.int (Int32.ofInt 13), .int (f_J6_bitCount_0f7a4 M x2)] M L Q)
    refine wp_icmpgt (off := 18) 31 (by decide +kernel) (by decide) (fun c_2 => ?_) (fun c_2 => ?_)
    · have hP := hP.1 c_2
      refine wp_seg (pc' := 32) [.iconst 0] (by decide +kernel) (?_ : Wp E (d + 3) 59 32 [.ref 65, .int x2, .int x3, .int (f_J6_bitCount_0f7a4 M x2), .null, .null, .null, .null] [.int (Int32.ofInt 0)] M L Q)
      exact wp_iret (by decide +kernel) rfl (hK _ _ _ hP)
    · have hP := hP.2 c_2
      refine wp_seg (pc' := 19) [.iload 2, .iconst 13] (by decide +kernel) (?_ : Wp E (d + 3) 59 19 [.ref 65, .int x2, .int x3, .int (f_J6_bitCount_0f7a4 M x2), .null, .null, .null, .null] [.int (Int32.ofInt 13), .int x3] M L Q)
      refine wp_icmpgt (off := 12) 31 (by decide +kernel) (by decide) (fun c_3 => ?_) (fun c_3 => ?_)
      · have hP := hP.1 c_3
        refine wp_seg (pc' := 32) [.iconst 0] (by decide +kernel) (?_ : Wp E (d + 3) 59 32 [.ref 65, .int x2, .int x3, .int (f_J6_bitCount_0f7a4 M x2), .null, .null, .null, .null] [.int (Int32.ofInt 0)] M L Q)
        exact wp_iret (by decide +kernel) rfl (hK _ _ _ hP)
      · have hP := hP.2 c_3
        refine wp_seg (pc' := 28) [.iload 1, .aload 0, .getfield 516, .arraylength] (by decide +kernel) (?_ : Wp E (d + 3) 59 28 [.ref 65, .int x2, .int x3, .int (f_J6_bitCount_0f7a4 M x2), .null, .null, .null, .null] [.int (Int32.ofNat 8192), .int x2] M L Q)
        refine wp_icmplt (off := 5) 33 (by decide +kernel) (by decide) (fun c_4 => ?_) (fun c_4 => ?_)
        · have hP := hP.1 c_4
          obtain ⟨a_5, hP⟩ := hP
          refine wp_seg (pc' := 39) [.aload 0, .getfield 516, .iload 1, .baload] (by decide +kernel) (show (aok 69 1 x2 ∨ aok 69 3 x2) ∧ Wp E (d + 3) 59 39 [.ref 65, .int x2, .int x3, .int (f_J6_bitCount_0f7a4 M x2), .null, .null, .null, .null] [.int (M 69 x2.toNatClampNeg)] M L Q from ⟨Or.inr ⟨rfl, a_5⟩, ?_⟩)
          refine wp_ifeq (off := 10) 49 (by decide +kernel) (by decide) (fun c_6 => ?_) (fun c_6 => ?_)
          · have hP := hP.1 c_6
            refine wp_seg (pc' := 56) [.iconst 99, .istore 4, .iconst 0, .istore 5] (by decide +kernel) (?_ : Wp E (d + 3) 59 56 [.ref 65, .int x2, .int x3, .int (f_J6_bitCount_0f7a4 M x2), .int (Int32.ofInt 99), .int (Int32.ofInt 0), .null, .null] [] M L Q)
            exact tl_X8_fewestOf_56 hK hR 100000 x2 x3 (f_J6_bitCount_0f7a4 M x2) (Int32.ofInt 99) (Int32.ofInt 0) M L hP
          · have hP := hP.2 c_6
            refine wp_seg (pc' := 48) [.aload 0, .getfield 516, .iload 1, .baload] (by decide +kernel) (show (aok 69 1 x2 ∨ aok 69 3 x2) ∧ Wp E (d + 3) 59 48 [.ref 65, .int x2, .int x3, .int (f_J6_bitCount_0f7a4 M x2), .null, .null, .null, .null] [.int (M 69 x2.toNatClampNeg)] M L Q from ⟨Or.inr ⟨rfl, a_5⟩, ?_⟩)
            exact wp_iret (by decide +kernel) rfl (hK _ _ _ hP)
        · have hP := hP.2 c_4
          refine wp_seg (pc' := 32) [.iconst 0] (by decide +kernel) (?_ : Wp E (d + 3) 59 32 [.ref 65, .int x2, .int x3, .int (f_J6_bitCount_0f7a4 M x2), .null, .null, .null, .null] [.int (Int32.ofInt 0)] M L Q)
          exact wp_iret (by decide +kernel) rfl (hK _ _ _ hP)
theorem t_X8_fewestOf {E : VE} : ∀ {r : Nat} {d : Nat} {Q : QQ} {K : Int32 → Mem → LMem → Prop} {x2 : Int32} {x3 : Int32} {M : Mem} {L : LMem} (_ : P_X8_fewestOf r x2 x3 M L K) (_ : ∀ (v : Int32) (M : Mem) (L : LMem), K v M L → Q (some (.int v)) M L), Wp E (d + r + 2) 59 0 [.ref 65, .int x2, .int x3, .null, .null, .null, .null, .null] [] M L Q
  | 0, _, _, _, _, _, _, _, hP, _ => False.elim hP
  | r + 1, d, Q, K, x2, x3, M, L, hP, hK => by
    have e : d + (r + 1) + 2 = (d + r) + 3 := by omega
    rw [e]
    exact tb_X8_fewestOf (d := d + r) (REC := P_X8_fewestOf r) hP hK (fun x2 x3 M L K hP Q hK => t_X8_fewestOf (d := d) hP hK)

def P_X7_leastLocked (M : Mem) (L : LMem) (K : Int32 → Mem → LMem → Prop) : Prop := P_X7_leastFrom 16 (Int32.ofInt 0) (Int32.ofInt 0) (Int32.ofInt 0) (Int32.ofInt 0) (Int32.ofInt 0) M L (fun v_3 M_1 L_2 => K v_3 M_1 L_2)
theorem t_X7_leastLocked {E : VE} {d : Nat} {Q : QQ} {K : Int32 → Mem → LMem → Prop} {M : Mem} {L : LMem} (hP : P_X7_leastLocked M L K) (hK : ∀ (v : Int32) (M : Mem) (L : LMem), K v M L → Q (some (.int v)) M L) : Wp E (d + 18) 49 0 [.ref 57] [] M L Q := by
  unfold P_X7_leastLocked at hP
  refine wp_seg (pc' := 6) [.aload 0, .iconst 0, .iconst 0, .iconst 0, .iconst 0, .iconst 0] (by decide +kernel) (?_ : Wp E (d + 18) 49 6 [.ref 57] [.int (Int32.ofInt 0), .int (Int32.ofInt 0), .int (Int32.ofInt 0), .int (Int32.ofInt 0), .int (Int32.ofInt 0), .ref 57] M L Q)
  refine wp_callS 50 [.ref 57, .int (Int32.ofInt 0), .int (Int32.ofInt 0), .int (Int32.ofInt 0), .int (Int32.ofInt 0), .int (Int32.ofInt 0)] (i := 70) (by decide +kernel) (by decide +kernel) (by decide +kernel) rfl rfl rfl (rest := []) rfl rfl ?_
  refine t_X7_leastFrom (r := 16) hP (fun v_3 M_1 L_2 hP => ?_)
  show Wp E (d + 18) 49 9 [.ref 57] [.int v_3] M_1 L_2 Q
  exact wp_iret (by decide +kernel) rfl (hK _ _ _ hP)

def P_X8_fewestTries (x1 : Int32) (M : Mem) (L : LMem) (K : Int32 → Mem → LMem → Prop) : Prop := P_X8_gatherParts x1 M L (fun M_1 L_2 => ((x1 = 0 → K (Int32.ofInt (-6)) M_1 L_2) ∧ (¬ (x1 = 0) → P_X8_allCanBeParted x1 M_1 L_2 (fun v_6 M_4 L_5 => ((v_6 = 0 → K (Int32.ofInt (-6)) M_4 L_5) ∧ (¬ (v_6 = 0) → P_X8_layBounds x1 M_4 L_5 (fun M_8 L_9 => P_J7_fill_031fb (Int32.ofInt 0) M_8 L_9 (fun M_10 L_11 => P_X8_fewestOf 16 x1 (Int32.ofInt 0) M_10 L_11 (fun v_14 M_12 L_13 => K v_14 M_12 L_13)))))))))
theorem t_X8_fewestTries {E : VE} {d : Nat} {Q : QQ} {K : Int32 → Mem → LMem → Prop} {x1 : Int32} {M : Mem} {L : LMem} (hP : P_X8_fewestTries x1 M L K) (hK : ∀ (v : Int32) (M : Mem) (L : LMem), K v M L → Q (some (.int v)) M L) : Wp E (d + 19) 54 0 [.ref 65, .int x1] [] M L Q := by
  unfold P_X8_fewestTries at hP
  refine wp_seg (pc' := 2) [.aload 0, .iload 1] (by decide +kernel) (?_ : Wp E (d + 19) 54 2 [.ref 65, .int x1] [.int x1, .ref 65] M L Q)
  refine wp_callV 55 65 [.int x1] (i := 60) (by decide +kernel) (by decide +kernel) (by decide +kernel) (by decide +kernel) rfl rfl rfl (rest := []) rfl rfl ?_
  refine t_X8_gatherParts hP (fun M_1 L_2 hP => ?_)
  show Wp E (d + 19) 54 5 [.ref 65, .int x1] [] M_1 L_2 Q
  refine wp_seg (pc' := 6) [.iload 1] (by decide +kernel) (?_ : Wp E (d + 19) 54 6 [.ref 65, .int x1] [.int x1] M_1 L_2 Q)
  refine wp_ifeq (off := 11) 17 (by decide +kernel) (by decide) (fun c_3 => ?_) (fun c_3 => ?_)
  · have hP := hP.1 c_3
    refine wp_seg (pc' := 19) [.iconst (-6)] (by decide +kernel) (?_ : Wp E (d + 19) 54 19 [.ref 65, .int x1] [.int (Int32.ofInt (-6))] M_1 L_2 Q)
    exact wp_iret (by decide +kernel) rfl (hK _ _ _ hP)
  · have hP := hP.2 c_3
    refine wp_seg (pc' := 11) [.aload 0, .iload 1] (by decide +kernel) (?_ : Wp E (d + 19) 54 11 [.ref 65, .int x1] [.int x1, .ref 65] M_1 L_2 Q)
    refine wp_callV 57 65 [.int x1] (i := 64) (by decide +kernel) (by decide +kernel) (by decide +kernel) (by decide +kernel) rfl rfl rfl (rest := []) rfl rfl ?_
    refine t_X8_allCanBeParted hP (fun v_6 M_4 L_5 hP => ?_)
    show Wp E (d + 19) 54 14 [.ref 65, .int x1] [.int v_6] M_4 L_5 Q
    refine wp_ifne (off := 6) 20 (by decide +kernel) (by decide) (fun c_7 => ?_) (fun c_7 => ?_)
    · have hP := hP.2 c_7
      refine wp_seg (pc' := 22) [.aload 0, .iload 1] (by decide +kernel) (?_ : Wp E (d + 19) 54 22 [.ref 65, .int x1] [.int x1, .ref 65] M_4 L_5 Q)
      refine wp_callV 58 65 [.int x1] (i := 68) (by decide +kernel) (by decide +kernel) (by decide +kernel) (by decide +kernel) rfl rfl rfl (rest := []) rfl rfl ?_
      refine t_X8_layBounds hP (fun M_8 L_9 hP => ?_)
      show Wp E (d + 19) 54 25 [.ref 65, .int x1] [] M_8 L_9 Q
      refine wp_seg (pc' := 30) [.aload 0, .getfield 516, .iconst 0] (by decide +kernel) (?_ : Wp E (d + 19) 54 30 [.ref 65, .int x1] [.int (Int32.ofInt 0), .ref 69] M_8 L_9 Q)
      refine wp_callS 88 [.ref 69, .int (Int32.ofInt 0)] (i := 71) (by decide +kernel) (by decide +kernel) (by decide +kernel) rfl rfl rfl (rest := []) rfl rfl ?_
      refine t_J7_fill_031fb hP (fun M_10 L_11 hP => ?_)
      show Wp E (d + 19) 54 33 [.ref 65, .int x1] [] M_10 L_11 Q
      refine wp_seg (pc' := 36) [.aload 0, .iload 1, .iconst 0] (by decide +kernel) (?_ : Wp E (d + 19) 54 36 [.ref 65, .int x1] [.int (Int32.ofInt 0), .int x1, .ref 65] M_10 L_11 Q)
      refine wp_callS 59 [.ref 65, .int x1, .int (Int32.ofInt 0)] (i := 77) (by decide +kernel) (by decide +kernel) (by decide +kernel) rfl rfl rfl (rest := []) rfl rfl ?_
      refine t_X8_fewestOf (r := 16) hP (fun v_14 M_12 L_13 hP => ?_)
      show Wp E (d + 19) 54 39 [.ref 65, .int x1] [.int v_14] M_12 L_13 Q
      exact wp_iret (by decide +kernel) rfl (hK _ _ _ hP)
    · have hP := hP.1 c_7
      refine wp_seg (pc' := 19) [.iconst (-6)] (by decide +kernel) (?_ : Wp E (d + 19) 54 19 [.ref 65, .int x1] [.int (Int32.ofInt (-6))] M_4 L_5 Q)
      exact wp_iret (by decide +kernel) rfl (hK _ _ _ hP)

def P_X9_locked (x1 : Int32) (x2 : Int32) (M : Mem) (L : LMem) (K : Int32 → Mem → LMem → Prop) : Prop := ((x1 < 0 → K (Int32.ofInt (-2)) M L) ∧ (¬ (x1 < 0) → ((((Int32.ofInt 1) <<< ((M 3 8) &&& 31)) ≤ x1 → K (Int32.ofInt (-2)) M L) ∧ (¬ (((Int32.ofInt 1) <<< ((M 3 8) &&& 31)) ≤ x1) → (((f_X9_within M x2 (Int32.ofInt 0) (Int32.ofInt 1)) = 0 → K (Int32.ofInt (-2)) M L) ∧ (¬ ((f_X9_within M x2 (Int32.ofInt 0) (Int32.ofInt 1)) = 0) → P_X7_gather x1 x2 M L (fun v_6 M_4 L_5 => ((v_6 = 0 → K (Int32.ofInt (-3)) M_4 L_5) ∧ (¬ (v_6 = 0) → P_X7_leastLocked M_4 L_5 (fun v_10 M_8 L_9 => ((v_10 = 0 → K (Int32.ofInt (-6)) M_8 L_9) ∧ (¬ (v_10 = 0) → K ((Int32.ofInt 1000000) + v_10) M_8 L_9))))))))))))
theorem t_X9_locked {E : VE} {d : Nat} {Q : QQ} {K : Int32 → Mem → LMem → Prop} {x1 : Int32} {x2 : Int32} {M : Mem} {L : LMem} (hP : P_X9_locked x1 x2 M L K) (hK : ∀ (v : Int32) (M : Mem) (L : LMem), K v M L → Q (some (.int v)) M L) : Wp E (d + 19) 76 0 [.ref 0, .int x1, .int x2, .null] [] M L Q := by
  unfold P_X9_locked at hP
  refine wp_seg (pc' := 1) [.iload 1] (by decide +kernel) (?_ : Wp E (d + 19) 76 1 [.ref 0, .int x1, .int x2, .null] [.int x1] M L Q)
  refine wp_iflt (off := 25) 26 (by decide +kernel) (by decide) (fun c_1 => ?_) (fun c_1 => ?_)
  · have hP := hP.1 c_1
    refine wp_seg (pc' := 28) [.iconst (-2)] (by decide +kernel) (?_ : Wp E (d + 19) 76 28 [.ref 0, .int x1, .int x2, .null] [.int (Int32.ofInt (-2))] M L Q)
    exact wp_iret (by decide +kernel) rfl (hK _ _ _ hP)
  · have hP := hP.2 c_1
    refine wp_seg (pc' := 14) [.iload 1, .iconst 1, .aload 0, .getfield 577, .getfield 200, .ishl] (by decide +kernel) (?_ : Wp E (d + 19) 76 14 [.ref 0, .int x1, .int x2, .null] [.int ((Int32.ofInt 1) <<< ((M 3 8) &&& 31)), .int x1] M L Q)
    refine wp_icmpge (off := 12) 26 (by decide +kernel) (by decide) (fun c_2 => ?_) (fun c_2 => ?_)
    · have hP := hP.1 c_2
      refine wp_seg (pc' := 28) [.iconst (-2)] (by decide +kernel) (?_ : Wp E (d + 19) 76 28 [.ref 0, .int x1, .int x2, .null] [.int (Int32.ofInt (-2))] M L Q)
      exact wp_iret (by decide +kernel) rfl (hK _ _ _ hP)
    · have hP := hP.2 c_2
      refine wp_seg (pc' := 20) [.iload 2, .iconst 0, .iconst 1] (by decide +kernel) (?_ : Wp E (d + 19) 76 20 [.ref 0, .int x1, .int x2, .null] [.int (Int32.ofInt 1), .int (Int32.ofInt 0), .int x2] M L Q)
      refine wp_callS 83 [.int x2, .int (Int32.ofInt 0), .int (Int32.ofInt 1)] (i := 126) (by decide +kernel) (by decide +kernel) (by decide +kernel) rfl rfl rfl (rest := []) rfl rfl ?_
      refine s_X9_within M x2 (Int32.ofInt 0) (Int32.ofInt 1)  ?_
      show Wp E (d + 19) 76 23 [.ref 0, .int x1, .int x2, .null] [.int (f_X9_within M x2 (Int32.ofInt 0) (Int32.ofInt 1))] M L Q
      refine wp_ifne (off := 6) 29 (by decide +kernel) (by decide) (fun c_3 => ?_) (fun c_3 => ?_)
      · have hP := hP.2 c_3
        refine wp_seg (pc' := 43) [.aload 0, .getfield 584, .aload 0, .getfield 577, .aload 0, .getfield 581, .iload 1, .iload 2] (by decide +kernel) (?_ : Wp E (d + 19) 76 43 [.ref 0, .int x1, .int x2, .null] [.int x2, .int x1, .ref 37, .ref 3, .ref 57] M L Q)
        refine wp_callV 46 57 [.ref 3, .ref 37, .int x1, .int x2] (i := 209) (by decide +kernel) (by decide +kernel) (by decide +kernel) (by decide +kernel) rfl rfl rfl (rest := []) rfl rfl ?_
        refine t_X7_gather hP (fun v_6 M_4 L_5 hP => ?_)
        show Wp E (d + 19) 76 46 [.ref 0, .int x1, .int x2, .null] [.int v_6] M_4 L_5 Q
        refine wp_ifne (off := 6) 52 (by decide +kernel) (by decide) (fun c_7 => ?_) (fun c_7 => ?_)
        · have hP := hP.2 c_7
          refine wp_seg (pc' := 56) [.aload 0, .getfield 584] (by decide +kernel) (?_ : Wp E (d + 19) 76 56 [.ref 0, .int x1, .int x2, .null] [.ref 57] M_4 L_5 Q)
          refine wp_callV 49 57 [] (i := 212) (by decide +kernel) (by decide +kernel) (by decide +kernel) (by decide +kernel) rfl rfl rfl (rest := []) rfl rfl ?_
          refine t_X7_leastLocked hP (fun v_10 M_8 L_9 hP => ?_)
          show Wp E (d + 19) 76 59 [.ref 0, .int x1, .int x2, .null] [.int v_10] M_8 L_9 Q
          refine wp_seg (pc' := 61) [.istore 3, .iload 3] (by decide +kernel) (?_ : Wp E (d + 19) 76 61 [.ref 0, .int x1, .int x2, .int v_10] [.int v_10] M_8 L_9 Q)
          refine wp_ifne (off := 8) 69 (by decide +kernel) (by decide) (fun c_11 => ?_) (fun c_11 => ?_)
          · have hP := hP.2 c_11
            refine wp_seg (pc' := 73) [.iconst 1000000, .iload 3, .iadd] (by decide +kernel) (?_ : Wp E (d + 19) 76 73 [.ref 0, .int x1, .int x2, .int v_10] [.int ((Int32.ofInt 1000000) + v_10)] M_8 L_9 Q)
            exact wp_iret (by decide +kernel) rfl (hK _ _ _ hP)
          · have hP := hP.1 c_11
            refine wp_seg (pc' := 73) [.iconst (-6), .goto 0] (by decide +kernel) (?_ : Wp E (d + 19) 76 73 [.ref 0, .int x1, .int x2, .int v_10] [.int (Int32.ofInt (-6))] M_8 L_9 Q)
            exact wp_iret (by decide +kernel) rfl (hK _ _ _ hP)
        · have hP := hP.1 c_7
          refine wp_seg (pc' := 51) [.iconst (-3)] (by decide +kernel) (?_ : Wp E (d + 19) 76 51 [.ref 0, .int x1, .int x2, .null] [.int (Int32.ofInt (-3))] M_4 L_5 Q)
          exact wp_iret (by decide +kernel) rfl (hK _ _ _ hP)
      · have hP := hP.1 c_3
        refine wp_seg (pc' := 28) [.iconst (-2)] (by decide +kernel) (?_ : Wp E (d + 19) 76 28 [.ref 0, .int x1, .int x2, .null] [.int (Int32.ofInt (-2))] M L Q)
        exact wp_iret (by decide +kernel) rfl (hK _ _ _ hP)

def P_X9_stopped (x1 : Int32) (M : Mem) (L : LMem) (K : Int32 → Mem → LMem → Prop) : Prop := (((f_X9_within M x1 (Int32.ofInt 0) (Int32.ofInt 2)) = 0 → K (Int32.ofInt (-2)) M L) ∧ (¬ ((f_X9_within M x1 (Int32.ofInt 0) (Int32.ofInt 2)) = 0) → ((x1 = 0 → K (M 3 10) M L) ∧ (¬ (x1 = 0) → P_X8_gather M L (fun M_3 L_4 => ((x1 = (Int32.ofInt 1) → P_X8_nextTry (M_3 3 10) M_3 L_4 (fun v_11 M_9 L_10 => K v_11 M_9 L_10)) ∧ (¬ (x1 = (Int32.ofInt 1)) → P_X8_fewestTries (M_3 3 10) M_3 L_4 (fun v_8 M_6 L_7 => K v_8 M_6 L_7))))))))
theorem t_X9_stopped {E : VE} {d : Nat} {Q : QQ} {K : Int32 → Mem → LMem → Prop} {x1 : Int32} {M : Mem} {L : LMem} (hP : P_X9_stopped x1 M L K) (hK : ∀ (v : Int32) (M : Mem) (L : LMem), K v M L → Q (some (.int v)) M L) : Wp E (d + 20) 78 0 [.ref 0, .int x1] [] M L Q := by
  unfold P_X9_stopped at hP
  refine wp_seg (pc' := 3) [.iload 1, .iconst 0, .iconst 2] (by decide +kernel) (?_ : Wp E (d + 20) 78 3 [.ref 0, .int x1] [.int (Int32.ofInt 2), .int (Int32.ofInt 0), .int x1] M L Q)
  refine wp_callS 83 [.int x1, .int (Int32.ofInt 0), .int (Int32.ofInt 2)] (i := 126) (by decide +kernel) (by decide +kernel) (by decide +kernel) rfl rfl rfl (rest := []) rfl rfl ?_
  refine s_X9_within M x1 (Int32.ofInt 0) (Int32.ofInt 2)  ?_
  show Wp E (d + 20) 78 6 [.ref 0, .int x1] [.int (f_X9_within M x1 (Int32.ofInt 0) (Int32.ofInt 2))] M L Q
  refine wp_ifne (off := 6) 12 (by decide +kernel) (by decide) (fun c_1 => ?_) (fun c_1 => ?_)
  · have hP := hP.2 c_1
    refine wp_seg (pc' := 13) [.iload 1] (by decide +kernel) (?_ : Wp E (d + 20) 78 13 [.ref 0, .int x1] [.int x1] M L Q)
    refine wp_ifne (off := 11) 24 (by decide +kernel) (by decide) (fun c_2 => ?_) (fun c_2 => ?_)
    · have hP := hP.2 c_2
      refine wp_seg (pc' := 36) [.aload 0, .getfield 585, .aload 0, .getfield 577, .aload 0, .getfield 581] (by decide +kernel) (?_ : Wp E (d + 20) 78 36 [.ref 0, .int x1] [.ref 37, .ref 3, .ref 65] M L Q)
      refine wp_callV 51 65 [.ref 3, .ref 37] (i := 230) (by decide +kernel) (by decide +kernel) (by decide +kernel) (by decide +kernel) rfl rfl rfl (rest := []) rfl rfl ?_
      refine t_X8_gather hP (fun M_3 L_4 hP => ?_)
      show Wp E (d + 20) 78 39 [.ref 0, .int x1] [] M_3 L_4 Q
      refine wp_seg (pc' := 41) [.iload 1, .iconst 1] (by decide +kernel) (?_ : Wp E (d + 20) 78 41 [.ref 0, .int x1] [.int (Int32.ofInt 1), .int x1] M_3 L_4 Q)
      refine wp_icmpne (off := 20) 61 (by decide +kernel) (by decide) (fun c_5 => ?_) (fun c_5 => ?_)
      · have hP := hP.2 c_5
        refine wp_seg (pc' := 72) [.aload 0, .getfield 585, .aload 0, .getfield 577, .getfield 202] (by decide +kernel) (?_ : Wp E (d + 20) 78 72 [.ref 0, .int x1] [.int (M_3 3 10), .ref 65] M_3 L_4 Q)
        refine wp_callV 54 65 [.int (M_3 3 10)] (i := 236) (by decide +kernel) (by decide +kernel) (by decide +kernel) (by decide +kernel) rfl rfl rfl (rest := []) rfl rfl ?_
        refine t_X8_fewestTries hP (fun v_8 M_6 L_7 hP => ?_)
        show Wp E (d + 20) 78 75 [.ref 0, .int x1] [.int v_8] M_6 L_7 Q
        exact wp_iret (by decide +kernel) rfl (hK _ _ _ hP)
      · have hP := hP.1 c_5
        refine wp_seg (pc' := 55) [.aload 0, .getfield 585, .aload 0, .getfield 577, .getfield 202] (by decide +kernel) (?_ : Wp E (d + 20) 78 55 [.ref 0, .int x1] [.int (M_3 3 10), .ref 65] M_3 L_4 Q)
        refine wp_callV 52 65 [.int (M_3 3 10)] (i := 233) (by decide +kernel) (by decide +kernel) (by decide +kernel) (by decide +kernel) rfl rfl rfl (rest := []) rfl rfl ?_
        refine t_X8_nextTry hP (fun v_11 M_9 L_10 hP => ?_)
        show Wp E (d + 20) 78 58 [.ref 0, .int x1] [.int v_11] M_9 L_10 Q
        refine wp_seg (pc' := 75) [.goto 0] (by decide +kernel) (?_ : Wp E (d + 20) 78 75 [.ref 0, .int x1] [.int v_11] M_9 L_10 Q)
        exact wp_iret (by decide +kernel) rfl (hK _ _ _ hP)
    · have hP := hP.1 c_2
      refine wp_seg (pc' := 23) [.aload 0, .getfield 577, .getfield 202] (by decide +kernel) (?_ : Wp E (d + 20) 78 23 [.ref 0, .int x1] [.int (M 3 10)] M L Q)
      exact wp_iret (by decide +kernel) rfl (hK _ _ _ hP)
  · have hP := hP.1 c_1
    refine wp_seg (pc' := 11) [.iconst (-2)] (by decide +kernel) (?_ : Wp E (d + 20) 78 11 [.ref 0, .int x1] [.int (Int32.ofInt (-2))] M L Q)
    exact wp_iret (by decide +kernel) rfl (hK _ _ _ hP)

def P_X9_fault (x1 : Int32) (M : Mem) (L : LMem) (K : Int32 → Mem → LMem → Prop) : Prop := ((x1 = 0 → P_X5_houseFault M L (fun v_8 M_6 L_7 => K v_8 M_6 L_7)) ∧ (¬ (x1 = 0) → ((x1 = (Int32.ofInt 1) → P_X5_dayFault M L (fun v_5 M_3 L_4 => K v_5 M_3 L_4)) ∧ (¬ (x1 = (Int32.ofInt 1)) → K (Int32.ofInt (-2)) M L))))
theorem t_X9_fault {E : VE} {d : Nat} {Q : QQ} {K : Int32 → Mem → LMem → Prop} {x1 : Int32} {M : Mem} {L : LMem} (hP : P_X9_fault x1 M L K) (hK : ∀ (v : Int32) (M : Mem) (L : LMem), K v M L → Q (some (.int v)) M L) : Wp E (d + 4) 62 0 [.ref 0, .int x1] [] M L Q := by
  unfold P_X9_fault at hP
  refine wp_seg (pc' := 1) [.iload 1] (by decide +kernel) (?_ : Wp E (d + 4) 62 1 [.ref 0, .int x1] [.int x1] M L Q)
  refine wp_ifne (off := 11) 12 (by decide +kernel) (by decide) (fun c_1 => ?_) (fun c_1 => ?_)
  · have hP := hP.2 c_1
    refine wp_seg (pc' := 14) [.iload 1, .iconst 1] (by decide +kernel) (?_ : Wp E (d + 4) 62 14 [.ref 0, .int x1] [.int (Int32.ofInt 1), .int x1] M L Q)
    refine wp_icmpne (off := 13) 27 (by decide +kernel) (by decide) (fun c_2 => ?_) (fun c_2 => ?_)
    · have hP := hP.2 c_2
      refine wp_seg (pc' := 29) [.iconst (-2)] (by decide +kernel) (?_ : Wp E (d + 4) 62 29 [.ref 0, .int x1] [.int (Int32.ofInt (-2))] M L Q)
      exact wp_iret (by decide +kernel) rfl (hK _ _ _ hP)
    · have hP := hP.1 c_2
      refine wp_seg (pc' := 21) [.aload 0, .getfield 576] (by decide +kernel) (?_ : Wp E (d + 4) 62 21 [.ref 0, .int x1] [.ref 1] M L Q)
      refine wp_callV 37 1 [] (i := 93) (by decide +kernel) (by decide +kernel) (by decide +kernel) (by decide +kernel) rfl rfl rfl (rest := []) rfl rfl ?_
      refine t_X5_dayFault hP (fun v_5 M_3 L_4 hP => ?_)
      show Wp E (d + 4) 62 24 [.ref 0, .int x1] [.int v_5] M_3 L_4 Q
      refine wp_seg (pc' := 29) [.goto 0] (by decide +kernel) (?_ : Wp E (d + 4) 62 29 [.ref 0, .int x1] [.int v_5] M_3 L_4 Q)
      exact wp_iret (by decide +kernel) rfl (hK _ _ _ hP)
  · have hP := hP.1 c_1
    refine wp_seg (pc' := 8) [.aload 0, .getfield 576] (by decide +kernel) (?_ : Wp E (d + 4) 62 8 [.ref 0, .int x1] [.ref 1] M L Q)
    refine wp_callV 36 1 [] (i := 90) (by decide +kernel) (by decide +kernel) (by decide +kernel) (by decide +kernel) rfl rfl rfl (rest := []) rfl rfl ?_
    refine t_X5_houseFault hP (fun v_8 M_6 L_7 hP => ?_)
    show Wp E (d + 4) 62 11 [.ref 0, .int x1] [.int v_8] M_6 L_7 Q
    exact wp_iret (by decide +kernel) rfl (hK _ _ _ hP)

def P_X9_house (M : Mem) (L : LMem) (K : Int32 → Mem → LMem → Prop) : Prop := P_X5_houseFault M L (fun v_3 M_1 L_2 => ((v_3 = (Int32.ofInt (-6)) → P_X2_read M_1 L_2 (fun M_5 L_6 => P_X3_beginTries (mput (g_X5_empty M_5) 3 8 (Int32.ofInt 0)) L_6 (fun M_7 L_8 => K (M_7 4 4) M_7 L_8))) ∧ (¬ (v_3 = (Int32.ofInt (-6))) → K (Int32.ofInt (-5)) M_1 L_2)))
theorem t_X9_house {E : VE} {d : Nat} {Q : QQ} {K : Int32 → Mem → LMem → Prop} {M : Mem} {L : LMem} (hP : P_X9_house M L K) (hK : ∀ (v : Int32) (M : Mem) (L : LMem), K v M L → Q (some (.int v)) M L) : Wp E (d + 4) 63 0 [.ref 0] [] M L Q := by
  unfold P_X9_house at hP
  refine wp_seg (pc' := 4) [.aload 0, .getfield 576] (by decide +kernel) (?_ : Wp E (d + 4) 63 4 [.ref 0] [.ref 1] M L Q)
  refine wp_callV 36 1 [] (i := 90) (by decide +kernel) (by decide +kernel) (by decide +kernel) (by decide +kernel) rfl rfl rfl (rest := []) rfl rfl ?_
  refine t_X5_houseFault hP (fun v_3 M_1 L_2 hP => ?_)
  show Wp E (d + 4) 63 7 [.ref 0] [.int v_3] M_1 L_2 Q
  refine wp_seg (pc' := 9) [.iconst (-6)] (by decide +kernel) (?_ : Wp E (d + 4) 63 9 [.ref 0] [.int (Int32.ofInt (-6)), .int v_3] M_1 L_2 Q)
  refine wp_icmpeq (off := 6) 15 (by decide +kernel) (by decide) (fun c_4 => ?_) (fun c_4 => ?_)
  · have hP := hP.1 c_4
    refine wp_seg (pc' := 26) [.aload 0, .getfield 577, .getfield 192, .aload 0, .getfield 576] (by decide +kernel) (?_ : Wp E (d + 4) 63 26 [.ref 0] [.ref 1, .ref 4] M_1 L_2 Q)
    refine wp_callV 12 4 [.ref 1] (i := 100) (by decide +kernel) (by decide +kernel) (by decide +kernel) (by decide +kernel) rfl rfl rfl (rest := []) rfl rfl ?_
    refine t_X2_read hP (fun M_5 L_6 hP => ?_)
    show Wp E (d + 4) 63 29 [.ref 0] [] M_5 L_6 Q
    refine wp_seg (pc' := 33) [.aload 0, .getfield 576] (by decide +kernel) (?_ : Wp E (d + 4) 63 33 [.ref 0] [.ref 1] M_5 L_6 Q)
    refine wp_callV 28 1 [] (i := 86) (by decide +kernel) (by decide +kernel) (by decide +kernel) (by decide +kernel) rfl rfl rfl (rest := []) rfl rfl ?_
    refine s_X5_empty M_5  ?_
    show Wp E (d + 4) 63 36 [.ref 0] [.int (f_X5_empty M_5)] (g_X5_empty M_5) L_6 Q
    refine wp_seg (pc' := 49) [.pop, .aload 0, .getfield 577, .iconst 0, .putfield 200, .aload 0, .getfield 577] (by decide +kernel) (?_ : Wp E (d + 4) 63 49 [.ref 0] [.ref 3] (mput (g_X5_empty M_5) 3 8 (Int32.ofInt 0)) L_6 Q)
    refine wp_callV 15 3 [] (i := 109) (by decide +kernel) (by decide +kernel) (by decide +kernel) (by decide +kernel) rfl rfl rfl (rest := []) rfl rfl ?_
    refine t_X3_beginTries hP (fun M_7 L_8 hP => ?_)
    show Wp E (d + 4) 63 52 [.ref 0] [] M_7 L_8 Q
    refine wp_seg (pc' := 62) [.aload 0, .getfield 577, .getfield 192, .getfield 132] (by decide +kernel) (?_ : Wp E (d + 4) 63 62 [.ref 0] [.int (M_7 4 4)] M_7 L_8 Q)
    exact wp_iret (by decide +kernel) rfl (hK _ _ _ hP)
  · have hP := hP.2 c_4
    refine wp_seg (pc' := 14) [.iconst (-5)] (by decide +kernel) (?_ : Wp E (d + 4) 63 14 [.ref 0] [.int (Int32.ofInt (-5))] M_1 L_2 Q)
    exact wp_iret (by decide +kernel) rfl (hK _ _ _ hP)

def P_X9_way (x1 : Int32) (x2 : Int32) (x3 : Int32) (M : Mem) (L : LMem) (K : Int32 → Mem → LMem → Prop) : Prop := (((f_X9_twoRooms M x1 x2) = 0 → K (Int32.ofInt (-1)) M L) ∧ (¬ ((f_X9_twoRooms M x1 x2) = 0) → P_X6_find x1 x2 (Int32.ofInt 0) M L (fun v_4 M_2 L_3 => ((v_4 = 0 → K (Int32.ofInt (-6)) M_2 L_3) ∧ (¬ (v_4 = 0) → ((x3 = (Int32.ofInt (-1)) → K (M_2 37 4) M_2 L_3) ∧ (¬ (x3 = (Int32.ofInt (-1))) → ((x3 = (Int32.ofInt (-2)) → K (M_2 37 3) M_2 L_3) ∧ (¬ (x3 = (Int32.ofInt (-2))) → ((x3 < 0 → K (Int32.ofInt (-6)) M_2 L_3) ∧ (¬ (x3 < 0) → (((M_2 37 3) ≤ x3 → K (Int32.ofInt (-6)) M_2 L_3) ∧ (¬ ((M_2 37 3) ≤ x3) → (vp_in x3 8 ∧ K (M_2 39 x3.toNatClampNeg) M_2 L_3))))))))))))))
theorem t_X9_way {E : VE} {d : Nat} {Q : QQ} {K : Int32 → Mem → LMem → Prop} {x1 : Int32} {x2 : Int32} {x3 : Int32} {M : Mem} {L : LMem} (hP : P_X9_way x1 x2 x3 M L K) (hK : ∀ (v : Int32) (M : Mem) (L : LMem), K v M L → Q (some (.int v)) M L) : Wp E (d + 4) 65 0 [.ref 0, .int x1, .int x2, .int x3] [] M L Q := by
  unfold P_X9_way at hP
  refine wp_seg (pc' := 2) [.iload 1, .iload 2] (by decide +kernel) (?_ : Wp E (d + 4) 65 2 [.ref 0, .int x1, .int x2, .int x3] [.int x2, .int x1] M L Q)
  refine wp_callS 85 [.int x1, .int x2] (i := 136) (by decide +kernel) (by decide +kernel) (by decide +kernel) rfl rfl rfl (rest := []) rfl rfl ?_
  refine s_X9_twoRooms M x1 x2  ?_
  show Wp E (d + 4) 65 5 [.ref 0, .int x1, .int x2, .int x3] [.int (f_X9_twoRooms M x1 x2)] M L Q
  refine wp_ifne (off := 5) 10 (by decide +kernel) (by decide) (fun c_1 => ?_) (fun c_1 => ?_)
  · have hP := hP.2 c_1
    refine wp_seg (pc' := 21) [.aload 0, .getfield 581, .aload 0, .getfield 577, .iload 1, .iload 2, .iconst 0] (by decide +kernel) (?_ : Wp E (d + 4) 65 21 [.ref 0, .int x1, .int x2, .int x3] [.int (Int32.ofInt 0), .int x2, .int x1, .ref 3, .ref 37] M L Q)
    refine wp_callV 38 37 [.ref 3, .int x1, .int x2, .int (Int32.ofInt 0)] (i := 140) (by decide +kernel) (by decide +kernel) (by decide +kernel) (by decide +kernel) rfl rfl rfl (rest := []) rfl rfl ?_
    refine t_X6_find hP (fun v_4 M_2 L_3 hP => ?_)
    show Wp E (d + 4) 65 24 [.ref 0, .int x1, .int x2, .int x3] [.int v_4] M_2 L_3 Q
    refine wp_ifne (off := 6) 30 (by decide +kernel) (by decide) (fun c_5 => ?_) (fun c_5 => ?_)
    · have hP := hP.2 c_5
      refine wp_seg (pc' := 32) [.iload 3, .iconst (-1)] (by decide +kernel) (?_ : Wp E (d + 4) 65 32 [.ref 0, .int x1, .int x2, .int x3] [.int (Int32.ofInt (-1)), .int x3] M_2 L_3 Q)
      refine wp_icmpne (off := 11) 43 (by decide +kernel) (by decide) (fun c_6 => ?_) (fun c_6 => ?_)
      · have hP := hP.2 c_6
        refine wp_seg (pc' := 46) [.iload 3, .iconst (-2)] (by decide +kernel) (?_ : Wp E (d + 4) 65 46 [.ref 0, .int x1, .int x2, .int x3] [.int (Int32.ofInt (-2)), .int x3] M_2 L_3 Q)
        refine wp_icmpne (off := 11) 57 (by decide +kernel) (by decide) (fun c_7 => ?_) (fun c_7 => ?_)
        · have hP := hP.2 c_7
          refine wp_seg (pc' := 58) [.iload 3] (by decide +kernel) (?_ : Wp E (d + 4) 65 58 [.ref 0, .int x1, .int x2, .int x3] [.int x3] M_2 L_3 Q)
          refine wp_iflt (off := 26) 84 (by decide +kernel) (by decide) (fun c_8 => ?_) (fun c_8 => ?_)
          · have hP := hP.1 c_8
            refine wp_seg (pc' := 86) [.iconst (-6)] (by decide +kernel) (?_ : Wp E (d + 4) 65 86 [.ref 0, .int x1, .int x2, .int x3] [.int (Int32.ofInt (-6))] M_2 L_3 Q)
            exact wp_iret (by decide +kernel) rfl (hK _ _ _ hP)
          · have hP := hP.2 c_8
            refine wp_seg (pc' := 69) [.iload 3, .aload 0, .getfield 581, .getfield 387] (by decide +kernel) (?_ : Wp E (d + 4) 65 69 [.ref 0, .int x1, .int x2, .int x3] [.int (M_2 37 3), .int x3] M_2 L_3 Q)
            refine wp_icmpge (off := 15) 84 (by decide +kernel) (by decide) (fun c_9 => ?_) (fun c_9 => ?_)
            · have hP := hP.1 c_9
              refine wp_seg (pc' := 86) [.iconst (-6)] (by decide +kernel) (?_ : Wp E (d + 4) 65 86 [.ref 0, .int x1, .int x2, .int x3] [.int (Int32.ofInt (-6))] M_2 L_3 Q)
              exact wp_iret (by decide +kernel) rfl (hK _ _ _ hP)
            · have hP := hP.2 c_9
              obtain ⟨a_10, hP⟩ := hP
              refine wp_seg (pc' := 81) [.aload 0, .getfield 581, .getfield 385, .iload 3, .iaload] (by decide +kernel) (show aok 39 0 x3 ∧ Wp E (d + 4) 65 81 [.ref 0, .int x1, .int x2, .int x3] [.int (M_2 39 x3.toNatClampNeg)] M_2 L_3 Q from ⟨⟨rfl, a_10⟩, ?_⟩)
              refine wp_seg (pc' := 86) [.goto 0] (by decide +kernel) (?_ : Wp E (d + 4) 65 86 [.ref 0, .int x1, .int x2, .int x3] [.int (M_2 39 x3.toNatClampNeg)] M_2 L_3 Q)
              exact wp_iret (by decide +kernel) rfl (hK _ _ _ hP)
        · have hP := hP.1 c_7
          refine wp_seg (pc' := 56) [.aload 0, .getfield 581, .getfield 387] (by decide +kernel) (?_ : Wp E (d + 4) 65 56 [.ref 0, .int x1, .int x2, .int x3] [.int (M_2 37 3)] M_2 L_3 Q)
          exact wp_iret (by decide +kernel) rfl (hK _ _ _ hP)
      · have hP := hP.1 c_6
        refine wp_seg (pc' := 42) [.aload 0, .getfield 581, .getfield 388] (by decide +kernel) (?_ : Wp E (d + 4) 65 42 [.ref 0, .int x1, .int x2, .int x3] [.int (M_2 37 4)] M_2 L_3 Q)
        exact wp_iret (by decide +kernel) rfl (hK _ _ _ hP)
    · have hP := hP.1 c_5
      refine wp_seg (pc' := 29) [.iconst (-6)] (by decide +kernel) (?_ : Wp E (d + 4) 65 29 [.ref 0, .int x1, .int x2, .int x3] [.int (Int32.ofInt (-6))] M_2 L_3 Q)
      exact wp_iret (by decide +kernel) rfl (hK _ _ _ hP)
  · have hP := hP.1 c_1
    refine wp_seg (pc' := 9) [.iconst (-1)] (by decide +kernel) (?_ : Wp E (d + 4) 65 9 [.ref 0, .int x1, .int x2, .int x3] [.int (Int32.ofInt (-1))] M L Q)
    exact wp_iret (by decide +kernel) rfl (hK _ _ _ hP)

def P_X9_loud (x1 : Int32) (x2 : Int32) (x3 : Int32) (M : Mem) (L : LMem) (K : Int32 → Mem → LMem → Prop) : Prop := (((f_X9_twoRooms M x1 x2) = 0 → K (Int32.ofInt (-1)) M L) ∧ (¬ ((f_X9_twoRooms M x1 x2) = 0) → (((f_X9_isRoom M x3) = 0 → K (Int32.ofInt (-1)) M L) ∧ (¬ ((f_X9_isRoom M x3) = 0) → P_X6_find x1 x2 (Int32.ofInt 0) M L (fun v_5 M_3 L_4 => ((v_5 = 0 → K (Int32.ofInt (-6)) M_3 L_4) ∧ (¬ (v_5 = 0) → P_X6_loudness x3 M_3 L_4 (fun v_9 M_7 L_8 => K v_9 M_7 L_8))))))))
theorem t_X9_loud {E : VE} {d : Nat} {Q : QQ} {K : Int32 → Mem → LMem → Prop} {x1 : Int32} {x2 : Int32} {x3 : Int32} {M : Mem} {L : LMem} (hP : P_X9_loud x1 x2 x3 M L K) (hK : ∀ (v : Int32) (M : Mem) (L : LMem), K v M L → Q (some (.int v)) M L) : Wp E (d + 4) 66 0 [.ref 0, .int x1, .int x2, .int x3] [] M L Q := by
  unfold P_X9_loud at hP
  refine wp_seg (pc' := 2) [.iload 1, .iload 2] (by decide +kernel) (?_ : Wp E (d + 4) 66 2 [.ref 0, .int x1, .int x2, .int x3] [.int x2, .int x1] M L Q)
  refine wp_callS 85 [.int x1, .int x2] (i := 136) (by decide +kernel) (by decide +kernel) (by decide +kernel) rfl rfl rfl (rest := []) rfl rfl ?_
  refine s_X9_twoRooms M x1 x2  ?_
  show Wp E (d + 4) 66 5 [.ref 0, .int x1, .int x2, .int x3] [.int (f_X9_twoRooms M x1 x2)] M L Q
  refine wp_ifeq (off := 10) 15 (by decide +kernel) (by decide) (fun c_1 => ?_) (fun c_1 => ?_)
  · have hP := hP.1 c_1
    refine wp_seg (pc' := 16) [.iconst (-1)] (by decide +kernel) (?_ : Wp E (d + 4) 66 16 [.ref 0, .int x1, .int x2, .int x3] [.int (Int32.ofInt (-1))] M L Q)
    exact wp_iret (by decide +kernel) rfl (hK _ _ _ hP)
  · have hP := hP.2 c_1
    refine wp_seg (pc' := 9) [.iload 3] (by decide +kernel) (?_ : Wp E (d + 4) 66 9 [.ref 0, .int x1, .int x2, .int x3] [.int x3] M L Q)
    refine wp_callS 84 [.int x3] (i := 150) (by decide +kernel) (by decide +kernel) (by decide +kernel) rfl rfl rfl (rest := []) rfl rfl ?_
    refine s_X9_isRoom M x3  ?_
    show Wp E (d + 4) 66 12 [.ref 0, .int x1, .int x2, .int x3] [.int (f_X9_isRoom M x3)] M L Q
    refine wp_ifne (off := 5) 17 (by decide +kernel) (by decide) (fun c_2 => ?_) (fun c_2 => ?_)
    · have hP := hP.2 c_2
      refine wp_seg (pc' := 28) [.aload 0, .getfield 581, .aload 0, .getfield 577, .iload 1, .iload 2, .iconst 0] (by decide +kernel) (?_ : Wp E (d + 4) 66 28 [.ref 0, .int x1, .int x2, .int x3] [.int (Int32.ofInt 0), .int x2, .int x1, .ref 3, .ref 37] M L Q)
      refine wp_callV 38 37 [.ref 3, .int x1, .int x2, .int (Int32.ofInt 0)] (i := 140) (by decide +kernel) (by decide +kernel) (by decide +kernel) (by decide +kernel) rfl rfl rfl (rest := []) rfl rfl ?_
      refine t_X6_find hP (fun v_5 M_3 L_4 hP => ?_)
      show Wp E (d + 4) 66 31 [.ref 0, .int x1, .int x2, .int x3] [.int v_5] M_3 L_4 Q
      refine wp_ifeq (off := 18) 49 (by decide +kernel) (by decide) (fun c_6 => ?_) (fun c_6 => ?_)
      · have hP := hP.1 c_6
        refine wp_seg (pc' := 51) [.iconst (-6)] (by decide +kernel) (?_ : Wp E (d + 4) 66 51 [.ref 0, .int x1, .int x2, .int x3] [.int (Int32.ofInt (-6))] M_3 L_4 Q)
        exact wp_iret (by decide +kernel) rfl (hK _ _ _ hP)
      · have hP := hP.2 c_6
        refine wp_seg (pc' := 43) [.aload 0, .getfield 581, .aload 0, .getfield 577, .iload 3] (by decide +kernel) (?_ : Wp E (d + 4) 66 43 [.ref 0, .int x1, .int x2, .int x3] [.int x3, .ref 3, .ref 37] M_3 L_4 Q)
        refine wp_callV 44 37 [.ref 3, .int x3] (i := 153) (by decide +kernel) (by decide +kernel) (by decide +kernel) (by decide +kernel) rfl rfl rfl (rest := []) rfl rfl ?_
        refine t_X6_loudness hP (fun v_9 M_7 L_8 hP => ?_)
        show Wp E (d + 4) 66 46 [.ref 0, .int x1, .int x2, .int x3] [.int v_9] M_7 L_8 Q
        refine wp_seg (pc' := 51) [.goto 0] (by decide +kernel) (?_ : Wp E (d + 4) 66 51 [.ref 0, .int x1, .int x2, .int x3] [.int v_9] M_7 L_8 Q)
        exact wp_iret (by decide +kernel) rfl (hK _ _ _ hP)
    · have hP := hP.1 c_2
      refine wp_seg (pc' := 16) [.iconst (-1)] (by decide +kernel) (?_ : Wp E (d + 4) 66 16 [.ref 0, .int x1, .int x2, .int x3] [.int (Int32.ofInt (-1))] M L Q)
      exact wp_iret (by decide +kernel) rfl (hK _ _ _ hP)

def P_X9_heard (x1 : Int32) (x2 : Int32) (M : Mem) (L : LMem) (K : Int32 → Mem → LMem → Prop) : Prop := (((f_X9_twoRooms M x1 x2) = 0 → K (Int32.ofInt (-1)) M L) ∧ (¬ ((f_X9_twoRooms M x1 x2) = 0) → P_X6_find x1 x2 (Int32.ofInt 0) M L (fun v_4 M_2 L_3 => ((v_4 = 0 → K (Int32.ofInt (-6)) M_2 L_3) ∧ (¬ (v_4 = 0) → P_X6_hearers (M_2 3 2) M_2 L_3 (fun v_8 M_6 L_7 => K v_8 M_6 L_7))))))
theorem t_X9_heard {E : VE} {d : Nat} {Q : QQ} {K : Int32 → Mem → LMem → Prop} {x1 : Int32} {x2 : Int32} {M : Mem} {L : LMem} (hP : P_X9_heard x1 x2 M L K) (hK : ∀ (v : Int32) (M : Mem) (L : LMem), K v M L → Q (some (.int v)) M L) : Wp E (d + 4) 67 0 [.ref 0, .int x1, .int x2] [] M L Q := by
  unfold P_X9_heard at hP
  refine wp_seg (pc' := 2) [.iload 1, .iload 2] (by decide +kernel) (?_ : Wp E (d + 4) 67 2 [.ref 0, .int x1, .int x2] [.int x2, .int x1] M L Q)
  refine wp_callS 85 [.int x1, .int x2] (i := 136) (by decide +kernel) (by decide +kernel) (by decide +kernel) rfl rfl rfl (rest := []) rfl rfl ?_
  refine s_X9_twoRooms M x1 x2  ?_
  show Wp E (d + 4) 67 5 [.ref 0, .int x1, .int x2] [.int (f_X9_twoRooms M x1 x2)] M L Q
  refine wp_ifne (off := 5) 10 (by decide +kernel) (by decide) (fun c_1 => ?_) (fun c_1 => ?_)
  · have hP := hP.2 c_1
    refine wp_seg (pc' := 21) [.aload 0, .getfield 581, .aload 0, .getfield 577, .iload 1, .iload 2, .iconst 0] (by decide +kernel) (?_ : Wp E (d + 4) 67 21 [.ref 0, .int x1, .int x2] [.int (Int32.ofInt 0), .int x2, .int x1, .ref 3, .ref 37] M L Q)
    refine wp_callV 38 37 [.ref 3, .int x1, .int x2, .int (Int32.ofInt 0)] (i := 140) (by decide +kernel) (by decide +kernel) (by decide +kernel) (by decide +kernel) rfl rfl rfl (rest := []) rfl rfl ?_
    refine t_X6_find hP (fun v_4 M_2 L_3 hP => ?_)
    show Wp E (d + 4) 67 24 [.ref 0, .int x1, .int x2] [.int v_4] M_2 L_3 Q
    refine wp_ifeq (off := 27) 51 (by decide +kernel) (by decide) (fun c_5 => ?_) (fun c_5 => ?_)
    · have hP := hP.1 c_5
      refine wp_seg (pc' := 53) [.iconst (-6)] (by decide +kernel) (?_ : Wp E (d + 4) 67 53 [.ref 0, .int x1, .int x2] [.int (Int32.ofInt (-6))] M_2 L_3 Q)
      exact wp_iret (by decide +kernel) rfl (hK _ _ _ hP)
    · have hP := hP.2 c_5
      refine wp_seg (pc' := 45) [.aload 0, .getfield 581, .aload 0, .getfield 577, .getfield 192, .aload 0, .getfield 577, .getfield 194] (by decide +kernel) (?_ : Wp E (d + 4) 67 45 [.ref 0, .int x1, .int x2] [.int (M_2 3 2), .ref 4, .ref 37] M_2 L_3 Q)
      refine wp_callV 45 37 [.ref 4, .int (M_2 3 2)] (i := 157) (by decide +kernel) (by decide +kernel) (by decide +kernel) (by decide +kernel) rfl rfl rfl (rest := []) rfl rfl ?_
      refine t_X6_hearers hP (fun v_8 M_6 L_7 hP => ?_)
      show Wp E (d + 4) 67 48 [.ref 0, .int x1, .int x2] [.int v_8] M_6 L_7 Q
      refine wp_seg (pc' := 53) [.goto 0] (by decide +kernel) (?_ : Wp E (d + 4) 67 53 [.ref 0, .int x1, .int x2] [.int v_8] M_6 L_7 Q)
      exact wp_iret (by decide +kernel) rfl (hK _ _ _ hP)
  · have hP := hP.1 c_1
    refine wp_seg (pc' := 9) [.iconst (-1)] (by decide +kernel) (?_ : Wp E (d + 4) 67 9 [.ref 0, .int x1, .int x2] [.int (Int32.ofInt (-1))] M L Q)
    exact wp_iret (by decide +kernel) rfl (hK _ _ _ hP)

def P_X9_judge (x1 : Int32) (M : Mem) (L : LMem) (K : Int32 → Mem → LMem → Prop) : Prop := (((f_X9_within M x1 (Int32.ofInt 0) (Int32.ofInt 1)) = 0 → K (Int32.ofInt (-2)) M L) ∧ (¬ ((f_X9_within M x1 (Int32.ofInt 0) (Int32.ofInt 1)) = 0) → P_X5_dayFault M L (fun v_4 M_2 L_3 => ((v_4 = (Int32.ofInt (-6)) → P_X0_run (M_2 3 2) M_2 L_3 (fun M_6 L_7 => (((M_6 41 12) = 0 → K (Int32.ofInt (-6)) M_6 L_7) ∧ (¬ ((M_6 41 12) = 0) → ((x1 = 0 → K (M_6 41 7) M_6 L_7) ∧ (¬ (x1 = 0) → K (M_6 41 12) M_6 L_7)))))) ∧ (¬ (v_4 = (Int32.ofInt (-6))) → K (Int32.ofInt (-5)) M_2 L_3)))))
theorem t_X9_judge {E : VE} {d : Nat} {Q : QQ} {K : Int32 → Mem → LMem → Prop} {x1 : Int32} {M : Mem} {L : LMem} (hP : P_X9_judge x1 M L K) (hK : ∀ (v : Int32) (M : Mem) (L : LMem), K v M L → Q (some (.int v)) M L) : Wp E (d + 6) 68 0 [.ref 0, .int x1] [] M L Q := by
  unfold P_X9_judge at hP
  refine wp_seg (pc' := 3) [.iload 1, .iconst 0, .iconst 1] (by decide +kernel) (?_ : Wp E (d + 6) 68 3 [.ref 0, .int x1] [.int (Int32.ofInt 1), .int (Int32.ofInt 0), .int x1] M L Q)
  refine wp_callS 83 [.int x1, .int (Int32.ofInt 0), .int (Int32.ofInt 1)] (i := 126) (by decide +kernel) (by decide +kernel) (by decide +kernel) rfl rfl rfl (rest := []) rfl rfl ?_
  refine s_X9_within M x1 (Int32.ofInt 0) (Int32.ofInt 1)  ?_
  show Wp E (d + 6) 68 6 [.ref 0, .int x1] [.int (f_X9_within M x1 (Int32.ofInt 0) (Int32.ofInt 1))] M L Q
  refine wp_ifne (off := 6) 12 (by decide +kernel) (by decide) (fun c_1 => ?_) (fun c_1 => ?_)
  · have hP := hP.2 c_1
    refine wp_seg (pc' := 16) [.aload 0, .getfield 576] (by decide +kernel) (?_ : Wp E (d + 6) 68 16 [.ref 0, .int x1] [.ref 1] M L Q)
    refine wp_callV 37 1 [] (i := 93) (by decide +kernel) (by decide +kernel) (by decide +kernel) (by decide +kernel) rfl rfl rfl (rest := []) rfl rfl ?_
    refine t_X5_dayFault hP (fun v_4 M_2 L_3 hP => ?_)
    show Wp E (d + 6) 68 19 [.ref 0, .int x1] [.int v_4] M_2 L_3 Q
    refine wp_seg (pc' := 21) [.iconst (-6)] (by decide +kernel) (?_ : Wp E (d + 6) 68 21 [.ref 0, .int x1] [.int (Int32.ofInt (-6)), .int v_4] M_2 L_3 Q)
    refine wp_icmpeq (off := 6) 27 (by decide +kernel) (by decide) (fun c_5 => ?_) (fun c_5 => ?_)
    · have hP := hP.1 c_5
      refine wp_seg (pc' := 50) [.aload 0, .getfield 582, .aload 0, .getfield 576, .aload 0, .getfield 577, .aload 0, .getfield 581, .aload 0, .getfield 577, .getfield 194] (by decide +kernel) (?_ : Wp E (d + 6) 68 50 [.ref 0, .int x1] [.int (M_2 3 2), .ref 37, .ref 3, .ref 1, .ref 41] M_2 L_3 Q)
      refine wp_callV 0 41 [.ref 1, .ref 3, .ref 37, .int (M_2 3 2)] (i := 161) (by decide +kernel) (by decide +kernel) (by decide +kernel) (by decide +kernel) rfl rfl rfl (rest := []) rfl rfl ?_
      refine t_X0_run hP (fun M_6 L_7 hP => ?_)
      show Wp E (d + 6) 68 53 [.ref 0, .int x1] [] M_6 L_7 Q
      refine wp_seg (pc' := 60) [.aload 0, .getfield 582, .getfield 12] (by decide +kernel) (?_ : Wp E (d + 6) 68 60 [.ref 0, .int x1] [.int (M_6 41 12)] M_6 L_7 Q)
      refine wp_ifne (off := 6) 66 (by decide +kernel) (by decide) (fun c_8 => ?_) (fun c_8 => ?_)
      · have hP := hP.2 c_8
        refine wp_seg (pc' := 67) [.iload 1] (by decide +kernel) (?_ : Wp E (d + 6) 68 67 [.ref 0, .int x1] [.int x1] M_6 L_7 Q)
        refine wp_ifne (off := 13) 80 (by decide +kernel) (by decide) (fun c_9 => ?_) (fun c_9 => ?_)
        · have hP := hP.2 c_9
          refine wp_seg (pc' := 87) [.aload 0, .getfield 582, .getfield 12] (by decide +kernel) (?_ : Wp E (d + 6) 68 87 [.ref 0, .int x1] [.int (M_6 41 12)] M_6 L_7 Q)
          exact wp_iret (by decide +kernel) rfl (hK _ _ _ hP)
        · have hP := hP.1 c_9
          refine wp_seg (pc' := 87) [.aload 0, .getfield 582, .getfield 7, .goto 0] (by decide +kernel) (?_ : Wp E (d + 6) 68 87 [.ref 0, .int x1] [.int (M_6 41 7)] M_6 L_7 Q)
          exact wp_iret (by decide +kernel) rfl (hK _ _ _ hP)
      · have hP := hP.1 c_8
        refine wp_seg (pc' := 65) [.iconst (-6)] (by decide +kernel) (?_ : Wp E (d + 6) 68 65 [.ref 0, .int x1] [.int (Int32.ofInt (-6))] M_6 L_7 Q)
        exact wp_iret (by decide +kernel) rfl (hK _ _ _ hP)
    · have hP := hP.2 c_5
      refine wp_seg (pc' := 26) [.iconst (-5)] (by decide +kernel) (?_ : Wp E (d + 6) 68 26 [.ref 0, .int x1] [.int (Int32.ofInt (-5))] M_2 L_3 Q)
      exact wp_iret (by decide +kernel) rfl (hK _ _ _ hP)
  · have hP := hP.1 c_1
    refine wp_seg (pc' := 11) [.iconst (-2)] (by decide +kernel) (?_ : Wp E (d + 6) 68 11 [.ref 0, .int x1] [.int (Int32.ofInt (-2))] M L Q)
    exact wp_iret (by decide +kernel) rfl (hK _ _ _ hP)

def P_X9_day (x1 : Int32) (M : Mem) (L : LMem) (K : Int32 → Mem → LMem → Prop) : Prop := (((f_X9_within M x1 (Int32.ofInt 0) (Int32.ofInt 2)) = 0 → K (Int32.ofInt (-2)) M L) ∧ (¬ ((f_X9_within M x1 (Int32.ofInt 0) (Int32.ofInt 2)) = 0) → P_X5_dayFault M L (fun v_4 M_2 L_3 => ((v_4 = (Int32.ofInt (-6)) → P_X0_run (M_2 3 2) M_2 L_3 (fun M_6 L_7 => (((M_6 41 12) = 0 → ((x1 = 0 → K (M_6 41 9) M_6 L_7) ∧ (¬ (x1 = 0) → ((x1 = (Int32.ofInt 1) → K (M_6 41 10) M_6 L_7) ∧ (¬ (x1 = (Int32.ofInt 1)) → K (M_6 41 11) M_6 L_7))))) ∧ (¬ ((M_6 41 12) = 0) → K (Int32.ofInt (-3)) M_6 L_7)))) ∧ (¬ (v_4 = (Int32.ofInt (-6))) → K (Int32.ofInt (-5)) M_2 L_3)))))
theorem t_X9_day {E : VE} {d : Nat} {Q : QQ} {K : Int32 → Mem → LMem → Prop} {x1 : Int32} {M : Mem} {L : LMem} (hP : P_X9_day x1 M L K) (hK : ∀ (v : Int32) (M : Mem) (L : LMem), K v M L → Q (some (.int v)) M L) : Wp E (d + 6) 69 0 [.ref 0, .int x1] [] M L Q := by
  unfold P_X9_day at hP
  refine wp_seg (pc' := 3) [.iload 1, .iconst 0, .iconst 2] (by decide +kernel) (?_ : Wp E (d + 6) 69 3 [.ref 0, .int x1] [.int (Int32.ofInt 2), .int (Int32.ofInt 0), .int x1] M L Q)
  refine wp_callS 83 [.int x1, .int (Int32.ofInt 0), .int (Int32.ofInt 2)] (i := 126) (by decide +kernel) (by decide +kernel) (by decide +kernel) rfl rfl rfl (rest := []) rfl rfl ?_
  refine s_X9_within M x1 (Int32.ofInt 0) (Int32.ofInt 2)  ?_
  show Wp E (d + 6) 69 6 [.ref 0, .int x1] [.int (f_X9_within M x1 (Int32.ofInt 0) (Int32.ofInt 2))] M L Q
  refine wp_ifne (off := 6) 12 (by decide +kernel) (by decide) (fun c_1 => ?_) (fun c_1 => ?_)
  · have hP := hP.2 c_1
    refine wp_seg (pc' := 16) [.aload 0, .getfield 576] (by decide +kernel) (?_ : Wp E (d + 6) 69 16 [.ref 0, .int x1] [.ref 1] M L Q)
    refine wp_callV 37 1 [] (i := 93) (by decide +kernel) (by decide +kernel) (by decide +kernel) (by decide +kernel) rfl rfl rfl (rest := []) rfl rfl ?_
    refine t_X5_dayFault hP (fun v_4 M_2 L_3 hP => ?_)
    show Wp E (d + 6) 69 19 [.ref 0, .int x1] [.int v_4] M_2 L_3 Q
    refine wp_seg (pc' := 21) [.iconst (-6)] (by decide +kernel) (?_ : Wp E (d + 6) 69 21 [.ref 0, .int x1] [.int (Int32.ofInt (-6)), .int v_4] M_2 L_3 Q)
    refine wp_icmpeq (off := 6) 27 (by decide +kernel) (by decide) (fun c_5 => ?_) (fun c_5 => ?_)
    · have hP := hP.1 c_5
      refine wp_seg (pc' := 50) [.aload 0, .getfield 582, .aload 0, .getfield 576, .aload 0, .getfield 577, .aload 0, .getfield 581, .aload 0, .getfield 577, .getfield 194] (by decide +kernel) (?_ : Wp E (d + 6) 69 50 [.ref 0, .int x1] [.int (M_2 3 2), .ref 37, .ref 3, .ref 1, .ref 41] M_2 L_3 Q)
      refine wp_callV 0 41 [.ref 1, .ref 3, .ref 37, .int (M_2 3 2)] (i := 161) (by decide +kernel) (by decide +kernel) (by decide +kernel) (by decide +kernel) rfl rfl rfl (rest := []) rfl rfl ?_
      refine t_X0_run hP (fun M_6 L_7 hP => ?_)
      show Wp E (d + 6) 69 53 [.ref 0, .int x1] [] M_6 L_7 Q
      refine wp_seg (pc' := 60) [.aload 0, .getfield 582, .getfield 12] (by decide +kernel) (?_ : Wp E (d + 6) 69 60 [.ref 0, .int x1] [.int (M_6 41 12)] M_6 L_7 Q)
      refine wp_ifeq (off := 6) 66 (by decide +kernel) (by decide) (fun c_8 => ?_) (fun c_8 => ?_)
      · have hP := hP.1 c_8
        refine wp_seg (pc' := 67) [.iload 1] (by decide +kernel) (?_ : Wp E (d + 6) 69 67 [.ref 0, .int x1] [.int x1] M_6 L_7 Q)
        refine wp_ifne (off := 11) 78 (by decide +kernel) (by decide) (fun c_9 => ?_) (fun c_9 => ?_)
        · have hP := hP.2 c_9
          refine wp_seg (pc' := 80) [.iload 1, .iconst 1] (by decide +kernel) (?_ : Wp E (d + 6) 69 80 [.ref 0, .int x1] [.int (Int32.ofInt 1), .int x1] M_6 L_7 Q)
          refine wp_icmpne (off := 13) 93 (by decide +kernel) (by decide) (fun c_10 => ?_) (fun c_10 => ?_)
          · have hP := hP.2 c_10
            refine wp_seg (pc' := 100) [.aload 0, .getfield 582, .getfield 11] (by decide +kernel) (?_ : Wp E (d + 6) 69 100 [.ref 0, .int x1] [.int (M_6 41 11)] M_6 L_7 Q)
            exact wp_iret (by decide +kernel) rfl (hK _ _ _ hP)
          · have hP := hP.1 c_10
            refine wp_seg (pc' := 100) [.aload 0, .getfield 582, .getfield 10, .goto 0] (by decide +kernel) (?_ : Wp E (d + 6) 69 100 [.ref 0, .int x1] [.int (M_6 41 10)] M_6 L_7 Q)
            exact wp_iret (by decide +kernel) rfl (hK _ _ _ hP)
        · have hP := hP.1 c_9
          refine wp_seg (pc' := 77) [.aload 0, .getfield 582, .getfield 9] (by decide +kernel) (?_ : Wp E (d + 6) 69 77 [.ref 0, .int x1] [.int (M_6 41 9)] M_6 L_7 Q)
          exact wp_iret (by decide +kernel) rfl (hK _ _ _ hP)
      · have hP := hP.2 c_8
        refine wp_seg (pc' := 65) [.iconst (-3)] (by decide +kernel) (?_ : Wp E (d + 6) 69 65 [.ref 0, .int x1] [.int (Int32.ofInt (-3))] M_6 L_7 Q)
        exact wp_iret (by decide +kernel) rfl (hK _ _ _ hP)
    · have hP := hP.2 c_5
      refine wp_seg (pc' := 26) [.iconst (-5)] (by decide +kernel) (?_ : Wp E (d + 6) 69 26 [.ref 0, .int x1] [.int (Int32.ofInt (-5))] M_2 L_3 Q)
      exact wp_iret (by decide +kernel) rfl (hK _ _ _ hP)
  · have hP := hP.1 c_1
    refine wp_seg (pc' := 11) [.iconst (-2)] (by decide +kernel) (?_ : Wp E (d + 6) 69 11 [.ref 0, .int x1] [.int (Int32.ofInt (-2))] M L Q)
    exact wp_iret (by decide +kernel) rfl (hK _ _ _ hP)

def P_X9_knows (x1 : Int32) (x2 : Int32) (M : Mem) (L : LMem) (K : Int32 → Mem → LMem → Prop) : Prop := (((f_X9_isRoom M x1) = 0 → K (Int32.ofInt (-1)) M L) ∧ (¬ ((f_X9_isRoom M x1) = 0) → (((f_X9_within M x2 (Int32.ofInt 0) (Int32.ofInt 1)) = 0 → K (Int32.ofInt (-2)) M L) ∧ (¬ ((f_X9_within M x2 (Int32.ofInt 0) (Int32.ofInt 1)) = 0) → P_X5_dayFault M L (fun v_5 M_3 L_4 => ((v_5 = (Int32.ofInt (-6)) → ((x2 = (Int32.ofInt 1) → P_X0_run (Int32.ofInt 0) M_3 L_4 (fun M_12 L_13 => (((M_12 41 12) = 0 → (vp_in x1 8 ∧ K (M_12 48 x1.toNatClampNeg) M_12 L_13)) ∧ (¬ ((M_12 41 12) = 0) → K (Int32.ofInt (-3)) M_12 L_13)))) ∧ (¬ (x2 = (Int32.ofInt 1)) → P_X0_run (M_3 3 2) M_3 L_4 (fun M_8 L_9 => (((M_8 41 12) = 0 → (vp_in x1 8 ∧ K (M_8 48 x1.toNatClampNeg) M_8 L_9)) ∧ (¬ ((M_8 41 12) = 0) → K (Int32.ofInt (-3)) M_8 L_9)))))) ∧ (¬ (v_5 = (Int32.ofInt (-6))) → K (Int32.ofInt (-5)) M_3 L_4)))))))
theorem t_X9_knows {E : VE} {d : Nat} {Q : QQ} {K : Int32 → Mem → LMem → Prop} {x1 : Int32} {x2 : Int32} {M : Mem} {L : LMem} (hP : P_X9_knows x1 x2 M L K) (hK : ∀ (v : Int32) (M : Mem) (L : LMem), K v M L → Q (some (.int v)) M L) : Wp E (d + 6) 71 0 [.ref 0, .int x1, .int x2] [] M L Q := by
  unfold P_X9_knows at hP
  refine wp_seg (pc' := 1) [.iload 1] (by decide +kernel) (?_ : Wp E (d + 6) 71 1 [.ref 0, .int x1, .int x2] [.int x1] M L Q)
  refine wp_callS 84 [.int x1] (i := 150) (by decide +kernel) (by decide +kernel) (by decide +kernel) rfl rfl rfl (rest := []) rfl rfl ?_
  refine s_X9_isRoom M x1  ?_
  show Wp E (d + 6) 71 4 [.ref 0, .int x1, .int x2] [.int (f_X9_isRoom M x1)] M L Q
  refine wp_ifne (off := 5) 9 (by decide +kernel) (by decide) (fun c_1 => ?_) (fun c_1 => ?_)
  · have hP := hP.2 c_1
    refine wp_seg (pc' := 12) [.iload 2, .iconst 0, .iconst 1] (by decide +kernel) (?_ : Wp E (d + 6) 71 12 [.ref 0, .int x1, .int x2] [.int (Int32.ofInt 1), .int (Int32.ofInt 0), .int x2] M L Q)
    refine wp_callS 83 [.int x2, .int (Int32.ofInt 0), .int (Int32.ofInt 1)] (i := 126) (by decide +kernel) (by decide +kernel) (by decide +kernel) rfl rfl rfl (rest := []) rfl rfl ?_
    refine s_X9_within M x2 (Int32.ofInt 0) (Int32.ofInt 1)  ?_
    show Wp E (d + 6) 71 15 [.ref 0, .int x1, .int x2] [.int (f_X9_within M x2 (Int32.ofInt 0) (Int32.ofInt 1))] M L Q
    refine wp_ifne (off := 6) 21 (by decide +kernel) (by decide) (fun c_2 => ?_) (fun c_2 => ?_)
    · have hP := hP.2 c_2
      refine wp_seg (pc' := 25) [.aload 0, .getfield 576] (by decide +kernel) (?_ : Wp E (d + 6) 71 25 [.ref 0, .int x1, .int x2] [.ref 1] M L Q)
      refine wp_callV 37 1 [] (i := 93) (by decide +kernel) (by decide +kernel) (by decide +kernel) (by decide +kernel) rfl rfl rfl (rest := []) rfl rfl ?_
      refine t_X5_dayFault hP (fun v_5 M_3 L_4 hP => ?_)
      show Wp E (d + 6) 71 28 [.ref 0, .int x1, .int x2] [.int v_5] M_3 L_4 Q
      refine wp_seg (pc' := 30) [.iconst (-6)] (by decide +kernel) (?_ : Wp E (d + 6) 71 30 [.ref 0, .int x1, .int x2] [.int (Int32.ofInt (-6)), .int v_5] M_3 L_4 Q)
      refine wp_icmpeq (off := 6) 36 (by decide +kernel) (by decide) (fun c_6 => ?_) (fun c_6 => ?_)
      · have hP := hP.1 c_6
        refine wp_seg (pc' := 54) [.aload 0, .getfield 582, .aload 0, .getfield 576, .aload 0, .getfield 577, .aload 0, .getfield 581, .iload 2, .iconst 1] (by decide +kernel) (?_ : Wp E (d + 6) 71 54 [.ref 0, .int x1, .int x2] [.int (Int32.ofInt 1), .int x2, .ref 37, .ref 3, .ref 1, .ref 41] M_3 L_4 Q)
        refine wp_icmpne (off := 7) 61 (by decide +kernel) (by decide) (fun c_7 => ?_) (fun c_7 => ?_)
        · have hP := hP.2 c_7
          refine wp_seg (pc' := 68) [.aload 0, .getfield 577, .getfield 194] (by decide +kernel) (?_ : Wp E (d + 6) 71 68 [.ref 0, .int x1, .int x2] [.int (M_3 3 2), .ref 37, .ref 3, .ref 1, .ref 41] M_3 L_4 Q)
          refine wp_callV 0 41 [.ref 1, .ref 3, .ref 37, .int (M_3 3 2)] (i := 161) (by decide +kernel) (by decide +kernel) (by decide +kernel) (by decide +kernel) rfl rfl rfl (rest := []) rfl rfl ?_
          refine t_X0_run hP (fun M_8 L_9 hP => ?_)
          show Wp E (d + 6) 71 71 [.ref 0, .int x1, .int x2] [] M_8 L_9 Q
          refine wp_seg (pc' := 78) [.aload 0, .getfield 582, .getfield 12] (by decide +kernel) (?_ : Wp E (d + 6) 71 78 [.ref 0, .int x1, .int x2] [.int (M_8 41 12)] M_8 L_9 Q)
          refine wp_ifne (off := 15) 93 (by decide +kernel) (by decide) (fun c_10 => ?_) (fun c_10 => ?_)
          · have hP := hP.2 c_10
            refine wp_seg (pc' := 95) [.iconst (-3)] (by decide +kernel) (?_ : Wp E (d + 6) 71 95 [.ref 0, .int x1, .int x2] [.int (Int32.ofInt (-3))] M_8 L_9 Q)
            exact wp_iret (by decide +kernel) rfl (hK _ _ _ hP)
          · have hP := hP.1 c_10
            obtain ⟨a_11, hP⟩ := hP
            refine wp_seg (pc' := 90) [.aload 0, .getfield 582, .getfield 6, .iload 1, .iaload] (by decide +kernel) (show aok 48 0 x1 ∧ Wp E (d + 6) 71 90 [.ref 0, .int x1, .int x2] [.int (M_8 48 x1.toNatClampNeg)] M_8 L_9 Q from ⟨⟨rfl, a_11⟩, ?_⟩)
            refine wp_seg (pc' := 95) [.goto 0] (by decide +kernel) (?_ : Wp E (d + 6) 71 95 [.ref 0, .int x1, .int x2] [.int (M_8 48 x1.toNatClampNeg)] M_8 L_9 Q)
            exact wp_iret (by decide +kernel) rfl (hK _ _ _ hP)
        · have hP := hP.1 c_7
          refine wp_seg (pc' := 68) [.iconst 0, .goto 0] (by decide +kernel) (?_ : Wp E (d + 6) 71 68 [.ref 0, .int x1, .int x2] [.int (Int32.ofInt 0), .ref 37, .ref 3, .ref 1, .ref 41] M_3 L_4 Q)
          refine wp_callV 0 41 [.ref 1, .ref 3, .ref 37, .int (Int32.ofInt 0)] (i := 161) (by decide +kernel) (by decide +kernel) (by decide +kernel) (by decide +kernel) rfl rfl rfl (rest := []) rfl rfl ?_
          refine t_X0_run hP (fun M_12 L_13 hP => ?_)
          show Wp E (d + 6) 71 71 [.ref 0, .int x1, .int x2] [] M_12 L_13 Q
          refine wp_seg (pc' := 78) [.aload 0, .getfield 582, .getfield 12] (by decide +kernel) (?_ : Wp E (d + 6) 71 78 [.ref 0, .int x1, .int x2] [.int (M_12 41 12)] M_12 L_13 Q)
          refine wp_ifne (off := 15) 93 (by decide +kernel) (by decide) (fun c_14 => ?_) (fun c_14 => ?_)
          · have hP := hP.2 c_14
            refine wp_seg (pc' := 95) [.iconst (-3)] (by decide +kernel) (?_ : Wp E (d + 6) 71 95 [.ref 0, .int x1, .int x2] [.int (Int32.ofInt (-3))] M_12 L_13 Q)
            exact wp_iret (by decide +kernel) rfl (hK _ _ _ hP)
          · have hP := hP.1 c_14
            obtain ⟨a_15, hP⟩ := hP
            refine wp_seg (pc' := 90) [.aload 0, .getfield 582, .getfield 6, .iload 1, .iaload] (by decide +kernel) (show aok 48 0 x1 ∧ Wp E (d + 6) 71 90 [.ref 0, .int x1, .int x2] [.int (M_12 48 x1.toNatClampNeg)] M_12 L_13 Q from ⟨⟨rfl, a_15⟩, ?_⟩)
            refine wp_seg (pc' := 95) [.goto 0] (by decide +kernel) (?_ : Wp E (d + 6) 71 95 [.ref 0, .int x1, .int x2] [.int (M_12 48 x1.toNatClampNeg)] M_12 L_13 Q)
            exact wp_iret (by decide +kernel) rfl (hK _ _ _ hP)
      · have hP := hP.2 c_6
        refine wp_seg (pc' := 35) [.iconst (-5)] (by decide +kernel) (?_ : Wp E (d + 6) 71 35 [.ref 0, .int x1, .int x2] [.int (Int32.ofInt (-5))] M_3 L_4 Q)
        exact wp_iret (by decide +kernel) rfl (hK _ _ _ hP)
    · have hP := hP.1 c_2
      refine wp_seg (pc' := 20) [.iconst (-2)] (by decide +kernel) (?_ : Wp E (d + 6) 71 20 [.ref 0, .int x1, .int x2] [.int (Int32.ofInt (-2))] M L Q)
      exact wp_iret (by decide +kernel) rfl (hK _ _ _ hP)
  · have hP := hP.1 c_1
    refine wp_seg (pc' := 8) [.iconst (-1)] (by decide +kernel) (?_ : Wp E (d + 6) 71 8 [.ref 0, .int x1, .int x2] [.int (Int32.ofInt (-1))] M L Q)
    exact wp_iret (by decide +kernel) rfl (hK _ _ _ hP)

def P_X9_soonest (x1 : Int32) (M : Mem) (L : LMem) (K : Int32 → Mem → LMem → Prop) : Prop := P_X4_gather M L (fun v_3 M_1 L_2 => ((v_3 = 0 → K (Int32.ofInt (-6)) M_1 L_2) ∧ (¬ (v_3 = 0) → P_X4_seek (Int32.ofInt 0) M_1 L_2 (fun M_5 L_6 => ((x1 = (Int32.ofInt (-1)) → K (M_5 49 9) M_5 L_6) ∧ (¬ (x1 = (Int32.ofInt (-1))) → ((¬ (x1 < 0) → ¬ ((M_5 49 7) ≤ x1) → vp_in x1 5) ∧ K (f_X4_callAt M_5 x1) M_5 L_6)))))))
theorem t_X9_soonest {E : VE} {d : Nat} {Q : QQ} {K : Int32 → Mem → LMem → Prop} {x1 : Int32} {M : Mem} {L : LMem} (hP : P_X9_soonest x1 M L K) (hK : ∀ (v : Int32) (M : Mem) (L : LMem), K v M L → Q (some (.int v)) M L) : Wp E (d + 5) 74 0 [.ref 0, .int x1] [] M L Q := by
  unfold P_X9_soonest at hP
  refine wp_seg (pc' := 12) [.aload 0, .getfield 583, .aload 0, .getfield 577, .aload 0, .getfield 581] (by decide +kernel) (?_ : Wp E (d + 5) 74 12 [.ref 0, .int x1] [.ref 37, .ref 3, .ref 49] M L Q)
  refine wp_callV 17 49 [.ref 3, .ref 37] (i := 190) (by decide +kernel) (by decide +kernel) (by decide +kernel) (by decide +kernel) rfl rfl rfl (rest := []) rfl rfl ?_
  refine t_X4_gather hP (fun v_3 M_1 L_2 hP => ?_)
  show Wp E (d + 5) 74 15 [.ref 0, .int x1] [.int v_3] M_1 L_2 Q
  refine wp_ifne (off := 6) 21 (by decide +kernel) (by decide) (fun c_4 => ?_) (fun c_4 => ?_)
  · have hP := hP.2 c_4
    refine wp_seg (pc' := 26) [.aload 0, .getfield 583, .iconst 0] (by decide +kernel) (?_ : Wp E (d + 5) 74 26 [.ref 0, .int x1] [.int (Int32.ofInt 0), .ref 49] M_1 L_2 Q)
    refine wp_callV 18 49 [.int (Int32.ofInt 0)] (i := 194) (by decide +kernel) (by decide +kernel) (by decide +kernel) (by decide +kernel) rfl rfl rfl (rest := []) rfl rfl ?_
    refine t_X4_seek hP (fun M_5 L_6 hP => ?_)
    show Wp E (d + 5) 74 29 [.ref 0, .int x1] [] M_5 L_6 Q
    refine wp_seg (pc' := 31) [.iload 1, .iconst (-1)] (by decide +kernel) (?_ : Wp E (d + 5) 74 31 [.ref 0, .int x1] [.int (Int32.ofInt (-1)), .int x1] M_5 L_6 Q)
    refine wp_icmpne (off := 13) 44 (by decide +kernel) (by decide) (fun c_7 => ?_) (fun c_7 => ?_)
    · have hP := hP.2 c_7
      refine wp_seg (pc' := 49) [.aload 0, .getfield 583, .iload 1] (by decide +kernel) (?_ : Wp E (d + 5) 74 49 [.ref 0, .int x1] [.int x1, .ref 49] M_5 L_6 Q)
      refine wp_callV 19 49 [.int x1] (i := 201) (by decide +kernel) (by decide +kernel) (by decide +kernel) (by decide +kernel) rfl rfl rfl (rest := []) rfl rfl ?_
      obtain ⟨a_8, hP⟩ := hP
      refine s_X4_callAt M_5 x1 a_8 ?_
      show Wp E (d + 5) 74 52 [.ref 0, .int x1] [.int (f_X4_callAt M_5 x1)] M_5 L_6 Q
      exact wp_iret (by decide +kernel) rfl (hK _ _ _ hP)
    · have hP := hP.1 c_7
      refine wp_seg (pc' := 52) [.aload 0, .getfield 583, .getfield 265, .goto 0] (by decide +kernel) (?_ : Wp E (d + 5) 74 52 [.ref 0, .int x1] [.int (M_5 49 9)] M_5 L_6 Q)
      exact wp_iret (by decide +kernel) rfl (hK _ _ _ hP)
  · have hP := hP.1 c_4
    refine wp_seg (pc' := 20) [.iconst (-6)] (by decide +kernel) (?_ : Wp E (d + 5) 74 20 [.ref 0, .int x1] [.int (Int32.ofInt (-6))] M_1 L_2 Q)
    exact wp_iret (by decide +kernel) rfl (hK _ _ _ hP)

def P_X9_byDue (x1 : Int32) (M : Mem) (L : LMem) (K : Int32 → Mem → LMem → Prop) : Prop := P_X4_gather M L (fun v_3 M_1 L_2 => ((v_3 = 0 → K (Int32.ofInt (-6)) M_1 L_2) ∧ (¬ (v_3 = 0) → P_X4_seek (Int32.ofInt 1) M_1 L_2 (fun M_5 L_6 => (((M_5 49 10) = 0 → K (Int32.ofInt (-6)) M_5 L_6) ∧ (¬ ((M_5 49 10) = 0) → ((x1 = (Int32.ofInt (-1)) → K (Int32.ofInt 1) M_5 L_6) ∧ (¬ (x1 = (Int32.ofInt (-1))) → ((¬ (x1 < 0) → ¬ ((M_5 49 7) ≤ x1) → vp_in x1 5) ∧ K (f_X4_callAt M_5 x1) M_5 L_6)))))))))
theorem t_X9_byDue {E : VE} {d : Nat} {Q : QQ} {K : Int32 → Mem → LMem → Prop} {x1 : Int32} {M : Mem} {L : LMem} (hP : P_X9_byDue x1 M L K) (hK : ∀ (v : Int32) (M : Mem) (L : LMem), K v M L → Q (some (.int v)) M L) : Wp E (d + 5) 75 0 [.ref 0, .int x1] [] M L Q := by
  unfold P_X9_byDue at hP
  refine wp_seg (pc' := 12) [.aload 0, .getfield 583, .aload 0, .getfield 577, .aload 0, .getfield 581] (by decide +kernel) (?_ : Wp E (d + 5) 75 12 [.ref 0, .int x1] [.ref 37, .ref 3, .ref 49] M L Q)
  refine wp_callV 17 49 [.ref 3, .ref 37] (i := 190) (by decide +kernel) (by decide +kernel) (by decide +kernel) (by decide +kernel) rfl rfl rfl (rest := []) rfl rfl ?_
  refine t_X4_gather hP (fun v_3 M_1 L_2 hP => ?_)
  show Wp E (d + 5) 75 15 [.ref 0, .int x1] [.int v_3] M_1 L_2 Q
  refine wp_ifne (off := 6) 21 (by decide +kernel) (by decide) (fun c_4 => ?_) (fun c_4 => ?_)
  · have hP := hP.2 c_4
    refine wp_seg (pc' := 26) [.aload 0, .getfield 583, .iconst 1] (by decide +kernel) (?_ : Wp E (d + 5) 75 26 [.ref 0, .int x1] [.int (Int32.ofInt 1), .ref 49] M_1 L_2 Q)
    refine wp_callV 18 49 [.int (Int32.ofInt 1)] (i := 194) (by decide +kernel) (by decide +kernel) (by decide +kernel) (by decide +kernel) rfl rfl rfl (rest := []) rfl rfl ?_
    refine t_X4_seek hP (fun M_5 L_6 hP => ?_)
    show Wp E (d + 5) 75 29 [.ref 0, .int x1] [] M_5 L_6 Q
    refine wp_seg (pc' := 36) [.aload 0, .getfield 583, .getfield 266] (by decide +kernel) (?_ : Wp E (d + 5) 75 36 [.ref 0, .int x1] [.int (M_5 49 10)] M_5 L_6 Q)
    refine wp_ifne (off := 6) 42 (by decide +kernel) (by decide) (fun c_7 => ?_) (fun c_7 => ?_)
    · have hP := hP.2 c_7
      refine wp_seg (pc' := 44) [.iload 1, .iconst (-1)] (by decide +kernel) (?_ : Wp E (d + 5) 75 44 [.ref 0, .int x1] [.int (Int32.ofInt (-1)), .int x1] M_5 L_6 Q)
      refine wp_icmpne (off := 7) 51 (by decide +kernel) (by decide) (fun c_8 => ?_) (fun c_8 => ?_)
      · have hP := hP.2 c_8
        refine wp_seg (pc' := 56) [.aload 0, .getfield 583, .iload 1] (by decide +kernel) (?_ : Wp E (d + 5) 75 56 [.ref 0, .int x1] [.int x1, .ref 49] M_5 L_6 Q)
        refine wp_callV 19 49 [.int x1] (i := 201) (by decide +kernel) (by decide +kernel) (by decide +kernel) (by decide +kernel) rfl rfl rfl (rest := []) rfl rfl ?_
        obtain ⟨a_9, hP⟩ := hP
        refine s_X4_callAt M_5 x1 a_9 ?_
        show Wp E (d + 5) 75 59 [.ref 0, .int x1] [.int (f_X4_callAt M_5 x1)] M_5 L_6 Q
        exact wp_iret (by decide +kernel) rfl (hK _ _ _ hP)
      · have hP := hP.1 c_8
        refine wp_seg (pc' := 59) [.iconst 1, .goto 0] (by decide +kernel) (?_ : Wp E (d + 5) 75 59 [.ref 0, .int x1] [.int (Int32.ofInt 1)] M_5 L_6 Q)
        exact wp_iret (by decide +kernel) rfl (hK _ _ _ hP)
    · have hP := hP.1 c_7
      refine wp_seg (pc' := 41) [.iconst (-6)] (by decide +kernel) (?_ : Wp E (d + 5) 75 41 [.ref 0, .int x1] [.int (Int32.ofInt (-6))] M_5 L_6 Q)
      exact wp_iret (by decide +kernel) rfl (hK _ _ _ hP)
  · have hP := hP.1 c_4
    refine wp_seg (pc' := 20) [.iconst (-6)] (by decide +kernel) (?_ : Wp E (d + 5) 75 20 [.ref 0, .int x1] [.int (Int32.ofInt (-6))] M_1 L_2 Q)
    exact wp_iret (by decide +kernel) rfl (hK _ _ _ hP)

def P_X9_tried (x1 : Int32) (x2 : Int32) (x3 : Int32) (M : Mem) (L : LMem) (K : Int32 → Mem → LMem → Prop) : Prop := (((f_X9_twoRooms M x1 x2) = 0 → K (Int32.ofInt (-1)) M L) ∧ (¬ ((f_X9_twoRooms M x1 x2) = 0) → P_X6_find x1 x2 (Int32.ofInt 0) M L (fun v_4 M_2 L_3 => ((v_4 = 0 → K (Int32.ofInt (-3)) M_2 L_3) ∧ (¬ (v_4 = 0) → (((M_2 3 9) < (Int32.ofInt 99) → ((x3 = 0 → K (f_J6_bitCount_0f7a4 (mput (mput M_2 3 9 ((M_2 3 9) + (Int32.ofInt 1))) 3 10 ((M_2 3 10) &&& (M_2 37 5))) ((M_2 3 10) &&& (M_2 37 5))) (mput (mput M_2 3 9 ((M_2 3 9) + (Int32.ofInt 1))) 3 10 ((M_2 3 10) &&& (M_2 37 5))) L_3) ∧ (¬ (x3 = 0) → K (f_J6_bitCount_0f7a4 (mput (mput M_2 3 9 ((M_2 3 9) + (Int32.ofInt 1))) 3 10 ((M_2 3 10) &&& ((M_2 37 5) ^^^ (Int32.ofInt (-1))))) ((M_2 3 10) &&& ((M_2 37 5) ^^^ (Int32.ofInt (-1))))) (mput (mput M_2 3 9 ((M_2 3 9) + (Int32.ofInt 1))) 3 10 ((M_2 3 10) &&& ((M_2 37 5) ^^^ (Int32.ofInt (-1))))) L_3))) ∧ (¬ ((M_2 3 9) < (Int32.ofInt 99)) → K (Int32.ofInt (-4)) M_2 L_3)))))))
theorem t_X9_tried {E : VE} {d : Nat} {Q : QQ} {K : Int32 → Mem → LMem → Prop} {x1 : Int32} {x2 : Int32} {x3 : Int32} {M : Mem} {L : LMem} (hP : P_X9_tried x1 x2 x3 M L K) (hK : ∀ (v : Int32) (M : Mem) (L : LMem), K v M L → Q (some (.int v)) M L) : Wp E (d + 4) 77 0 [.ref 0, .int x1, .int x2, .int x3] [] M L Q := by
  unfold P_X9_tried at hP
  refine wp_seg (pc' := 2) [.iload 1, .iload 2] (by decide +kernel) (?_ : Wp E (d + 4) 77 2 [.ref 0, .int x1, .int x2, .int x3] [.int x2, .int x1] M L Q)
  refine wp_callS 85 [.int x1, .int x2] (i := 136) (by decide +kernel) (by decide +kernel) (by decide +kernel) rfl rfl rfl (rest := []) rfl rfl ?_
  refine s_X9_twoRooms M x1 x2  ?_
  show Wp E (d + 4) 77 5 [.ref 0, .int x1, .int x2, .int x3] [.int (f_X9_twoRooms M x1 x2)] M L Q
  refine wp_ifne (off := 5) 10 (by decide +kernel) (by decide) (fun c_1 => ?_) (fun c_1 => ?_)
  · have hP := hP.2 c_1
    refine wp_seg (pc' := 21) [.aload 0, .getfield 581, .aload 0, .getfield 577, .iload 1, .iload 2, .iconst 0] (by decide +kernel) (?_ : Wp E (d + 4) 77 21 [.ref 0, .int x1, .int x2, .int x3] [.int (Int32.ofInt 0), .int x2, .int x1, .ref 3, .ref 37] M L Q)
    refine wp_callV 38 37 [.ref 3, .int x1, .int x2, .int (Int32.ofInt 0)] (i := 140) (by decide +kernel) (by decide +kernel) (by decide +kernel) (by decide +kernel) rfl rfl rfl (rest := []) rfl rfl ?_
    refine t_X6_find hP (fun v_4 M_2 L_3 hP => ?_)
    show Wp E (d + 4) 77 24 [.ref 0, .int x1, .int x2, .int x3] [.int v_4] M_2 L_3 Q
    refine wp_ifne (off := 6) 30 (by decide +kernel) (by decide) (fun c_5 => ?_) (fun c_5 => ?_)
    · have hP := hP.2 c_5
      refine wp_seg (pc' := 39) [.aload 0, .getfield 577, .getfield 201, .iconst 99] (by decide +kernel) (?_ : Wp E (d + 4) 77 39 [.ref 0, .int x1, .int x2, .int x3] [.int (Int32.ofInt 99), .int (M_2 3 9)] M_2 L_3 Q)
      refine wp_icmplt (off := 6) 45 (by decide +kernel) (by decide) (fun c_6 => ?_) (fun c_6 => ?_)
      · have hP := hP.1 c_6
        refine wp_seg (pc' := 67) [.aload 0, .getfield 577, .dup, .getfield 201, .iconst 1, .iadd, .putfield 201, .aload 0, .getfield 577, .dup, .getfield 202, .iload 3] (by decide +kernel) (?_ : Wp E (d + 4) 77 67 [.ref 0, .int x1, .int x2, .int x3] [.int x3, .int (M_2 3 10), .ref 3] (mput M_2 3 9 ((M_2 3 9) + (Int32.ofInt 1))) L_3 Q)
        refine wp_ifeq (off := 15) 82 (by decide +kernel) (by decide) (fun c_7 => ?_) (fun c_7 => ?_)
        · have hP := hP.1 c_7
          refine wp_seg (pc' := 100) [.aload 0, .getfield 581, .getfield 389, .iand, .putfield 202, .aload 0, .getfield 577, .getfield 202] (by decide +kernel) (?_ : Wp E (d + 4) 77 100 [.ref 0, .int x1, .int x2, .int x3] [.int ((M_2 3 10) &&& (M_2 37 5))] (mput (mput M_2 3 9 ((M_2 3 9) + (Int32.ofInt 1))) 3 10 ((M_2 3 10) &&& (M_2 37 5))) L_3 Q)
          refine wp_callS 87 [.int ((M_2 3 10) &&& (M_2 37 5))] (i := 225) (by decide +kernel) (by decide +kernel) (by decide +kernel) rfl rfl rfl (rest := []) rfl rfl ?_
          refine s_J6_bitCount_0f7a4 (mput (mput M_2 3 9 ((M_2 3 9) + (Int32.ofInt 1))) 3 10 ((M_2 3 10) &&& (M_2 37 5))) ((M_2 3 10) &&& (M_2 37 5))  ?_
          show Wp E (d + 4) 77 103 [.ref 0, .int x1, .int x2, .int x3] [.int (f_J6_bitCount_0f7a4 (mput (mput M_2 3 9 ((M_2 3 9) + (Int32.ofInt 1))) 3 10 ((M_2 3 10) &&& (M_2 37 5))) ((M_2 3 10) &&& (M_2 37 5)))] (mput (mput M_2 3 9 ((M_2 3 9) + (Int32.ofInt 1))) 3 10 ((M_2 3 10) &&& (M_2 37 5))) L_3 Q
          exact wp_iret (by decide +kernel) rfl (hK _ _ _ hP)
        · have hP := hP.2 c_7
          refine wp_seg (pc' := 100) [.aload 0, .getfield 581, .getfield 389, .iconst (-1), .ixor, .goto 0, .iand, .putfield 202, .aload 0, .getfield 577, .getfield 202] (by decide +kernel) (?_ : Wp E (d + 4) 77 100 [.ref 0, .int x1, .int x2, .int x3] [.int ((M_2 3 10) &&& ((M_2 37 5) ^^^ (Int32.ofInt (-1))))] (mput (mput M_2 3 9 ((M_2 3 9) + (Int32.ofInt 1))) 3 10 ((M_2 3 10) &&& ((M_2 37 5) ^^^ (Int32.ofInt (-1))))) L_3 Q)
          refine wp_callS 87 [.int ((M_2 3 10) &&& ((M_2 37 5) ^^^ (Int32.ofInt (-1))))] (i := 225) (by decide +kernel) (by decide +kernel) (by decide +kernel) rfl rfl rfl (rest := []) rfl rfl ?_
          refine s_J6_bitCount_0f7a4 (mput (mput M_2 3 9 ((M_2 3 9) + (Int32.ofInt 1))) 3 10 ((M_2 3 10) &&& ((M_2 37 5) ^^^ (Int32.ofInt (-1))))) ((M_2 3 10) &&& ((M_2 37 5) ^^^ (Int32.ofInt (-1))))  ?_
          show Wp E (d + 4) 77 103 [.ref 0, .int x1, .int x2, .int x3] [.int (f_J6_bitCount_0f7a4 (mput (mput M_2 3 9 ((M_2 3 9) + (Int32.ofInt 1))) 3 10 ((M_2 3 10) &&& ((M_2 37 5) ^^^ (Int32.ofInt (-1))))) ((M_2 3 10) &&& ((M_2 37 5) ^^^ (Int32.ofInt (-1)))))] (mput (mput M_2 3 9 ((M_2 3 9) + (Int32.ofInt 1))) 3 10 ((M_2 3 10) &&& ((M_2 37 5) ^^^ (Int32.ofInt (-1))))) L_3 Q
          exact wp_iret (by decide +kernel) rfl (hK _ _ _ hP)
      · have hP := hP.2 c_6
        refine wp_seg (pc' := 44) [.iconst (-4)] (by decide +kernel) (?_ : Wp E (d + 4) 77 44 [.ref 0, .int x1, .int x2, .int x3] [.int (Int32.ofInt (-4))] M_2 L_3 Q)
        exact wp_iret (by decide +kernel) rfl (hK _ _ _ hP)
    · have hP := hP.1 c_5
      refine wp_seg (pc' := 29) [.iconst (-3)] (by decide +kernel) (?_ : Wp E (d + 4) 77 29 [.ref 0, .int x1, .int x2, .int x3] [.int (Int32.ofInt (-3))] M_2 L_3 Q)
      exact wp_iret (by decide +kernel) rfl (hK _ _ _ hP)
  · have hP := hP.1 c_1
    refine wp_seg (pc' := 9) [.iconst (-1)] (by decide +kernel) (?_ : Wp E (d + 4) 77 9 [.ref 0, .int x1, .int x2, .int x3] [.int (Int32.ofInt (-1))] M L Q)
    exact wp_iret (by decide +kernel) rfl (hK _ _ _ hP)

def P_X9_far (x1 : Int32) (x2 : Int32) (M : Mem) (L : LMem) (K : Int32 → Mem → LMem → Prop) : Prop := (((f_X9_twoRooms M x1 x2) = 0 → K (Int32.ofInt (-1)) M L) ∧ (¬ ((f_X9_twoRooms M x1 x2) = 0) → P_X6_find x1 x2 (Int32.ofInt 0) M L (fun v_4 M_2 L_3 => ((v_4 = 0 → K (Int32.ofInt 99) M_2 L_3) ∧ (¬ (v_4 = 0) → K (M_2 37 4) M_2 L_3)))))
theorem t_X9_far {E : VE} {d : Nat} {Q : QQ} {K : Int32 → Mem → LMem → Prop} {x1 : Int32} {x2 : Int32} {M : Mem} {L : LMem} (hP : P_X9_far x1 x2 M L K) (hK : ∀ (v : Int32) (M : Mem) (L : LMem), K v M L → Q (some (.int v)) M L) : Wp E (d + 4) 79 0 [.ref 0, .int x1, .int x2] [] M L Q := by
  unfold P_X9_far at hP
  refine wp_seg (pc' := 2) [.iload 1, .iload 2] (by decide +kernel) (?_ : Wp E (d + 4) 79 2 [.ref 0, .int x1, .int x2] [.int x2, .int x1] M L Q)
  refine wp_callS 85 [.int x1, .int x2] (i := 136) (by decide +kernel) (by decide +kernel) (by decide +kernel) rfl rfl rfl (rest := []) rfl rfl ?_
  refine s_X9_twoRooms M x1 x2  ?_
  show Wp E (d + 4) 79 5 [.ref 0, .int x1, .int x2] [.int (f_X9_twoRooms M x1 x2)] M L Q
  refine wp_ifne (off := 5) 10 (by decide +kernel) (by decide) (fun c_1 => ?_) (fun c_1 => ?_)
  · have hP := hP.2 c_1
    refine wp_seg (pc' := 21) [.aload 0, .getfield 581, .aload 0, .getfield 577, .iload 1, .iload 2, .iconst 0] (by decide +kernel) (?_ : Wp E (d + 4) 79 21 [.ref 0, .int x1, .int x2] [.int (Int32.ofInt 0), .int x2, .int x1, .ref 3, .ref 37] M L Q)
    refine wp_callV 38 37 [.ref 3, .int x1, .int x2, .int (Int32.ofInt 0)] (i := 140) (by decide +kernel) (by decide +kernel) (by decide +kernel) (by decide +kernel) rfl rfl rfl (rest := []) rfl rfl ?_
    refine t_X6_find hP (fun v_4 M_2 L_3 hP => ?_)
    show Wp E (d + 4) 79 24 [.ref 0, .int x1, .int x2] [.int v_4] M_2 L_3 Q
    refine wp_ifeq (off := 13) 37 (by decide +kernel) (by decide) (fun c_5 => ?_) (fun c_5 => ?_)
    · have hP := hP.1 c_5
      refine wp_seg (pc' := 39) [.iconst 99] (by decide +kernel) (?_ : Wp E (d + 4) 79 39 [.ref 0, .int x1, .int x2] [.int (Int32.ofInt 99)] M_2 L_3 Q)
      exact wp_iret (by decide +kernel) rfl (hK _ _ _ hP)
    · have hP := hP.2 c_5
      refine wp_seg (pc' := 39) [.aload 0, .getfield 581, .getfield 388, .goto 0] (by decide +kernel) (?_ : Wp E (d + 4) 79 39 [.ref 0, .int x1, .int x2] [.int (M_2 37 4)] M_2 L_3 Q)
      exact wp_iret (by decide +kernel) rfl (hK _ _ _ hP)
  · have hP := hP.1 c_1
    refine wp_seg (pc' := 9) [.iconst (-1)] (by decide +kernel) (?_ : Wp E (d + 4) 79 9 [.ref 0, .int x1, .int x2] [.int (Int32.ofInt (-1))] M L Q)
    exact wp_iret (by decide +kernel) rfl (hK _ _ _ hP)

def PL_X9_further_69 (K : Int32 → Mem → LMem → Prop) (C_56 : Int32 → Int32 → Int32 → Int32 → Int32 → Mem → LMem → Prop) : Nat → Int32 → Int32 → Int32 → Int32 → Int32 → Int32 → Mem → LMem → Prop
  | 0, _, _, _, _, _, _, _, _ => False
  | n_ + 1, v1, v2, v3, v4, v5, v6, M, L => (((Int32.ofInt 8) ≤ v6 → C_56 v1 v2 v3 v4 (v5 + Int32.ofInt 1) M L) ∧ (¬ ((Int32.ofInt 8) ≤ v6) → P_X1_sumWith v5 v6 v1 (M 3 1) M L (fun v_11 M_9 L_10 => ((v4 = (Int32.ofInt (-6)) → PL_X9_further_69 K C_56 n_ v1 v2 v_11 (((Int32.ofInt 10) * v5) + v6) v5 (v6 + Int32.ofInt 1) M_9 L_10) ∧ (¬ (v4 = (Int32.ofInt (-6))) → ((v3 ≤ v_11 → PL_X9_further_69 K C_56 n_ v1 v2 v3 v4 v5 (v6 + Int32.ofInt 1) M_9 L_10) ∧ (¬ (v3 ≤ v_11) → PL_X9_further_69 K C_56 n_ v1 v2 v_11 (((Int32.ofInt 10) * v5) + v6) v5 (v6 + Int32.ofInt 1) M_9 L_10)))))))
theorem tl_X9_further_69 {E : VE} {d : Nat} {Q : QQ} {K : Int32 → Mem → LMem → Prop} {C_56 : Int32 → Int32 → Int32 → Int32 → Int32 → Mem → LMem → Prop} (hK : ∀ (v : Int32) (M : Mem) (L : LMem), K v M L → Q (some (.int v)) M L) (hC_56 : ∀ (v1 : Int32) (v2 : Int32) (v3 : Int32) (v4 : Int32) (v5 : Int32) (M : Mem) (L : LMem), C_56 v1 v2 v3 v4 v5 M L → Wp E (d + 2) 80 56 [.ref 0, .int v1, .int v2, .int v3, .int v4, .int v5, .null, .null] [] M L Q) : ∀ (n_ : Nat) (v1 : Int32) (v2 : Int32) (v3 : Int32) (v4 : Int32) (v5 : Int32) (v6 : Int32) (M : Mem) (L : LMem), PL_X9_further_69 K C_56 n_ v1 v2 v3 v4 v5 v6 M L → Wp E (d + 2) 80 69 [.ref 0, .int v1, .int v2, .int v3, .int v4, .int v5, .int v6, .null] [] M L Q := by
  intro n_
  induction n_ with
  | zero => intro v1 v2 v3 v4 v5 v6 M L hP; exact False.elim hP
  | succ n_ ih =>
    intro v1 v2 v3 v4 v5 v6 M L hP
    unfold PL_X9_further_69 at hP
    refine wp_seg (pc' := 73) [.iload 6, .iconst 8] (by decide +kernel) (?_ : Wp E (d + 2) 80 73 [.ref 0, .int v1, .int v2, .int v3, .int v4, .int v5, .int v6, .null] [.int (Int32.ofInt 8), .int v6] M L Q)
    refine wp_icmpge (off := 56) 129 (by decide +kernel) (by decide) (fun c_8 => ?_) (fun c_8 => ?_)
    · have hP := hP.1 c_8
      refine wp_seg (pc' := 56) [.iinc 5 1, .goto 0] (by decide +kernel) (?_ : Wp E (d + 2) 80 56 [.ref 0, .int v1, .int v2, .int v3, .int v4, .int (v5 + Int32.ofInt 1), .int v6, .null] [] M L Q)
      refine wp_drop (lo := [.ref 0, .int v1, .int v2, .int v3, .int v4, .int (v5 + Int32.ofInt 1), .null, .null]) ⟨Or.inr rfl, Or.inr rfl, Or.inr rfl, Or.inr rfl, Or.inr rfl, Or.inr rfl, Or.inl rfl, Or.inl rfl, trivial⟩ ?_
      exact hC_56 v1 v2 v3 v4 (v5 + Int32.ofInt 1) M L hP
    · have hP := hP.2 c_8
      refine wp_seg (pc' := 92) [.aload 0, .getfield 586, .iload 5, .iload 6, .iload 1, .aload 0, .getfield 577, .getfield 193] (by decide +kernel) (?_ : Wp E (d + 2) 80 92 [.ref 0, .int v1, .int v2, .int v3, .int v4, .int v5, .int v6, .null] [.int (M 3 1), .int v1, .int v6, .int v5, .ref 70] M L Q)
      refine wp_callV 10 70 [.int v5, .int v6, .int v1, .int (M 3 1)] (i := 246) (by decide +kernel) (by decide +kernel) (by decide +kernel) (by decide +kernel) rfl rfl rfl (rest := []) rfl rfl ?_
      refine t_X1_sumWith hP (fun v_11 M_9 L_10 hP => ?_)
      show Wp E (d + 2) 80 95 [.ref 0, .int v1, .int v2, .int v3, .int v4, .int v5, .int v6, .null] [.int v_11] M_9 L_10 Q
      refine wp_seg (pc' := 101) [.istore 7, .iload 4, .iconst (-6)] (by decide +kernel) (?_ : Wp E (d + 2) 80 101 [.ref 0, .int v1, .int v2, .int v3, .int v4, .int v5, .int v6, .int v_11] [.int (Int32.ofInt (-6)), .int v4] M_9 L_10 Q)
      refine wp_icmpeq (off := 9) 110 (by decide +kernel) (by decide) (fun c_12 => ?_) (fun c_12 => ?_)
      · have hP := hP.1 c_12
        refine wp_seg (pc' := 69) [.iload 7, .istore 3, .iconst 10, .iload 5, .imul, .iload 6, .iadd, .istore 4, .iinc 6 1, .goto 0] (by decide +kernel) (?_ : Wp E (d + 2) 80 69 [.ref 0, .int v1, .int v2, .int v_11, .int (((Int32.ofInt 10) * v5) + v6), .int v5, .int (v6 + Int32.ofInt 1), .int v_11] [] M_9 L_10 Q)
        refine wp_drop (lo := [.ref 0, .int v1, .int v2, .int v_11, .int (((Int32.ofInt 10) * v5) + v6), .int v5, .int (v6 + Int32.ofInt 1), .null]) ⟨Or.inr rfl, Or.inr rfl, Or.inr rfl, Or.inr rfl, Or.inr rfl, Or.inr rfl, Or.inr rfl, Or.inl rfl, trivial⟩ ?_
        exact ih v1 v2 v_11 (((Int32.ofInt 10) * v5) + v6) v5 (v6 + Int32.ofInt 1) M_9 L_10 hP
      · have hP := hP.2 c_12
        refine wp_seg (pc' := 107) [.iload 7, .iload 3] (by decide +kernel) (?_ : Wp E (d + 2) 80 107 [.ref 0, .int v1, .int v2, .int v3, .int v4, .int v5, .int v6, .int v_11] [.int v3, .int v_11] M_9 L_10 Q)
        refine wp_icmpge (off := 16) 123 (by decide +kernel) (by decide) (fun c_13 => ?_) (fun c_13 => ?_)
        · have hP := hP.1 c_13
          refine wp_seg (pc' := 69) [.iinc 6 1, .goto 0] (by decide +kernel) (?_ : Wp E (d + 2) 80 69 [.ref 0, .int v1, .int v2, .int v3, .int v4, .int v5, .int (v6 + Int32.ofInt 1), .int v_11] [] M_9 L_10 Q)
          refine wp_drop (lo := [.ref 0, .int v1, .int v2, .int v3, .int v4, .int v5, .int (v6 + Int32.ofInt 1), .null]) ⟨Or.inr rfl, Or.inr rfl, Or.inr rfl, Or.inr rfl, Or.inr rfl, Or.inr rfl, Or.inr rfl, Or.inl rfl, trivial⟩ ?_
          exact ih v1 v2 v3 v4 v5 (v6 + Int32.ofInt 1) M_9 L_10 hP
        · have hP := hP.2 c_13
          refine wp_seg (pc' := 69) [.iload 7, .istore 3, .iconst 10, .iload 5, .imul, .iload 6, .iadd, .istore 4, .iinc 6 1, .goto 0] (by decide +kernel) (?_ : Wp E (d + 2) 80 69 [.ref 0, .int v1, .int v2, .int v_11, .int (((Int32.ofInt 10) * v5) + v6), .int v5, .int (v6 + Int32.ofInt 1), .int v_11] [] M_9 L_10 Q)
          refine wp_drop (lo := [.ref 0, .int v1, .int v2, .int v_11, .int (((Int32.ofInt 10) * v5) + v6), .int v5, .int (v6 + Int32.ofInt 1), .null]) ⟨Or.inr rfl, Or.inr rfl, Or.inr rfl, Or.inr rfl, Or.inr rfl, Or.inr rfl, Or.inr rfl, Or.inl rfl, trivial⟩ ?_
          exact ih v1 v2 v_11 (((Int32.ofInt 10) * v5) + v6) v5 (v6 + Int32.ofInt 1) M_9 L_10 hP
def PL_X9_further_56 (K : Int32 → Mem → LMem → Prop)  : Nat → Int32 → Int32 → Int32 → Int32 → Int32 → Mem → LMem → Prop
  | 0, _, _, _, _, _, _, _ => False
  | n_ + 1, v1, v2, v3, v4, v5, M, L => (((Int32.ofInt 8) ≤ v5 → ((v2 = 0 → K v4 M L) ∧ (¬ (v2 = 0) → K v3 M L))) ∧ (¬ ((Int32.ofInt 8) ≤ v5) → PL_X9_further_69 K (PL_X9_further_56 K n_) 100000 v1 v2 v3 v4 v5 (v5 + (Int32.ofInt 1)) M L))
theorem tl_X9_further_56 {E : VE} {d : Nat} {Q : QQ} {K : Int32 → Mem → LMem → Prop}  (hK : ∀ (v : Int32) (M : Mem) (L : LMem), K v M L → Q (some (.int v)) M L)  : ∀ (n_ : Nat) (v1 : Int32) (v2 : Int32) (v3 : Int32) (v4 : Int32) (v5 : Int32) (M : Mem) (L : LMem), PL_X9_further_56 K n_ v1 v2 v3 v4 v5 M L → Wp E (d + 2) 80 56 [.ref 0, .int v1, .int v2, .int v3, .int v4, .int v5, .null, .null] [] M L Q := by
  intro n_
  induction n_ with
  | zero => intro v1 v2 v3 v4 v5 M L hP; exact False.elim hP
  | succ n_ ih =>
    intro v1 v2 v3 v4 v5 M L hP
    unfold PL_X9_further_56 at hP
    refine wp_seg (pc' := 60) [.iload 5, .iconst 8] (by decide +kernel) (?_ : Wp E (d + 2) 80 60 [.ref 0, .int v1, .int v2, .int v3, .int v4, .int v5, .null, .null] [.int (Int32.ofInt 8), .int v5] M L Q)
    refine wp_icmpge (off := 75) 135 (by decide +kernel) (by decide) (fun c_6 => ?_) (fun c_6 => ?_)
    · have hP := hP.1 c_6
      refine wp_seg (pc' := 136) [.iload 2] (by decide +kernel) (?_ : Wp E (d + 2) 80 136 [.ref 0, .int v1, .int v2, .int v3, .int v4, .int v5, .null, .null] [.int v2] M L Q)
      refine wp_ifne (off := 8) 144 (by decide +kernel) (by decide) (fun c_7 => ?_) (fun c_7 => ?_)
      · have hP := hP.2 c_7
        refine wp_seg (pc' := 145) [.iload 3] (by decide +kernel) (?_ : Wp E (d + 2) 80 145 [.ref 0, .int v1, .int v2, .int v3, .int v4, .int v5, .null, .null] [.int v3] M L Q)
        exact wp_iret (by decide +kernel) rfl (hK _ _ _ hP)
      · have hP := hP.1 c_7
        refine wp_seg (pc' := 145) [.iload 4, .goto 0] (by decide +kernel) (?_ : Wp E (d + 2) 80 145 [.ref 0, .int v1, .int v2, .int v3, .int v4, .int v5, .null, .null] [.int v4] M L Q)
        exact wp_iret (by decide +kernel) rfl (hK _ _ _ hP)
    · have hP := hP.2 c_6
      refine wp_seg (pc' := 69) [.iload 5, .iconst 1, .iadd, .istore 6] (by decide +kernel) (?_ : Wp E (d + 2) 80 69 [.ref 0, .int v1, .int v2, .int v3, .int v4, .int v5, .int (v5 + (Int32.ofInt 1)), .null] [] M L Q)
      exact tl_X9_further_69 hK (fun v1 v2 v3 v4 v5 M L hP => ih v1 v2 v3 v4 v5 M L hP) 100000 v1 v2 v3 v4 v5 (v5 + (Int32.ofInt 1)) M L hP
def P_X9_further (x1 : Int32) (x2 : Int32) (M : Mem) (L : LMem) (K : Int32 → Mem → LMem → Prop) : Prop := (((f_X9_within M x1 (Int32.ofInt 1) (Int32.ofInt 9)) = 0 → K (Int32.ofInt (-2)) M L) ∧ (¬ ((f_X9_within M x1 (Int32.ofInt 1) (Int32.ofInt 9)) = 0) → (((f_X9_within M x2 (Int32.ofInt 0) (Int32.ofInt 2)) = 0 → K (Int32.ofInt (-2)) M L) ∧ (¬ ((f_X9_within M x2 (Int32.ofInt 0) (Int32.ofInt 2)) = 0) → P_X1_measure_70 (Int32.ofInt 0) M L (fun M_3 L_4 => ((x2 = (Int32.ofInt 2) → P_X1_sum M_3 L_4 (fun v_16 M_14 L_15 => K v_16 M_14 L_15)) ∧ (¬ (x2 = (Int32.ofInt 2)) → PL_X9_further_56 K 100000 x1 x2 (Int32.ofInt 0) (Int32.ofInt (-6)) (Int32.ofInt 0) M_3 L_4)))))))
theorem t_X9_further {E : VE} {d : Nat} {Q : QQ} {K : Int32 → Mem → LMem → Prop} {x1 : Int32} {x2 : Int32} {M : Mem} {L : LMem} (hP : P_X9_further x1 x2 M L K) (hK : ∀ (v : Int32) (M : Mem) (L : LMem), K v M L → Q (some (.int v)) M L) : Wp E (d + 2) 80 0 [.ref 0, .int x1, .int x2, .null, .null, .null, .null, .null] [] M L Q := by
  unfold P_X9_further at hP
  refine wp_seg (pc' := 4) [.iload 1, .iconst 1, .iconst 9] (by decide +kernel) (?_ : Wp E (d + 2) 80 4 [.ref 0, .int x1, .int x2, .null, .null, .null, .null, .null] [.int (Int32.ofInt 9), .int (Int32.ofInt 1), .int x1] M L Q)
  refine wp_callS 83 [.int x1, .int (Int32.ofInt 1), .int (Int32.ofInt 9)] (i := 126) (by decide +kernel) (by decide +kernel) (by decide +kernel) rfl rfl rfl (rest := []) rfl rfl ?_
  refine s_X9_within M x1 (Int32.ofInt 1) (Int32.ofInt 9)  ?_
  show Wp E (d + 2) 80 7 [.ref 0, .int x1, .int x2, .null, .null, .null, .null, .null] [.int (f_X9_within M x1 (Int32.ofInt 1) (Int32.ofInt 9))] M L Q
  refine wp_ifeq (off := 12) 19 (by decide +kernel) (by decide) (fun c_1 => ?_) (fun c_1 => ?_)
  · have hP := hP.1 c_1
    refine wp_seg (pc' := 21) [.iconst (-2)] (by decide +kernel) (?_ : Wp E (d + 2) 80 21 [.ref 0, .int x1, .int x2, .null, .null, .null, .null, .null] [.int (Int32.ofInt (-2))] M L Q)
    exact wp_iret (by decide +kernel) rfl (hK _ _ _ hP)
  · have hP := hP.2 c_1
    refine wp_seg (pc' := 13) [.iload 2, .iconst 0, .iconst 2] (by decide +kernel) (?_ : Wp E (d + 2) 80 13 [.ref 0, .int x1, .int x2, .null, .null, .null, .null, .null] [.int (Int32.ofInt 2), .int (Int32.ofInt 0), .int x2] M L Q)
    refine wp_callS 83 [.int x2, .int (Int32.ofInt 0), .int (Int32.ofInt 2)] (i := 126) (by decide +kernel) (by decide +kernel) (by decide +kernel) rfl rfl rfl (rest := []) rfl rfl ?_
    refine s_X9_within M x2 (Int32.ofInt 0) (Int32.ofInt 2)  ?_
    show Wp E (d + 2) 80 16 [.ref 0, .int x1, .int x2, .null, .null, .null, .null, .null] [.int (f_X9_within M x2 (Int32.ofInt 0) (Int32.ofInt 2))] M L Q
    refine wp_ifne (off := 6) 22 (by decide +kernel) (by decide) (fun c_2 => ?_) (fun c_2 => ?_)
    · have hP := hP.2 c_2
      refine wp_seg (pc' := 31) [.aload 0, .getfield 586, .aload 0, .getfield 577, .iconst 0] (by decide +kernel) (?_ : Wp E (d + 2) 80 31 [.ref 0, .int x1, .int x2, .null, .null, .null, .null, .null] [.int (Int32.ofInt 0), .ref 3, .ref 70] M L Q)
      refine wp_callV 5 70 [.ref 3, .int (Int32.ofInt 0)] (i := 239) (by decide +kernel) (by decide +kernel) (by decide +kernel) (by decide +kernel) rfl rfl rfl (rest := []) rfl rfl ?_
      refine t_X1_measure_70 hP (fun M_3 L_4 hP => ?_)
      show Wp E (d + 2) 80 34 [.ref 0, .int x1, .int x2, .null, .null, .null, .null, .null] [] M_3 L_4 Q
      refine wp_seg (pc' := 36) [.iload 2, .iconst 2] (by decide +kernel) (?_ : Wp E (d + 2) 80 36 [.ref 0, .int x1, .int x2, .null, .null, .null, .null, .null] [.int (Int32.ofInt 2), .int x2] M_3 L_4 Q)
      refine wp_icmpne (off := 11) 47 (by decide +kernel) (by decide) (fun c_5 => ?_) (fun c_5 => ?_)
      · have hP := hP.2 c_5
        refine wp_seg (pc' := 56) [.iconst 0, .istore 3, .iconst (-6), .istore 4, .iconst 0, .istore 5] (by decide +kernel) (?_ : Wp E (d + 2) 80 56 [.ref 0, .int x1, .int x2, .int (Int32.ofInt 0), .int (Int32.ofInt (-6)), .int (Int32.ofInt 0), .null, .null] [] M_3 L_4 Q)
        exact tl_X9_further_56 hK 100000 x1 x2 (Int32.ofInt 0) (Int32.ofInt (-6)) (Int32.ofInt 0) M_3 L_4 hP
      · have hP := hP.1 c_5
        refine wp_seg (pc' := 43) [.aload 0, .getfield 586] (by decide +kernel) (?_ : Wp E (d + 2) 80 43 [.ref 0, .int x1, .int x2, .null, .null, .null, .null, .null] [.ref 70] M_3 L_4 Q)
        refine wp_callV 9 70 [] (i := 243) (by decide +kernel) (by decide +kernel) (by decide +kernel) (by decide +kernel) rfl rfl rfl (rest := []) rfl rfl ?_
        refine t_X1_sum hP (fun v_16 M_14 L_15 hP => ?_)
        show Wp E (d + 2) 80 46 [.ref 0, .int x1, .int x2, .null, .null, .null, .null, .null] [.int v_16] M_14 L_15 Q
        exact wp_iret (by decide +kernel) rfl (hK _ _ _ hP)
    · have hP := hP.1 c_2
      refine wp_seg (pc' := 21) [.iconst (-2)] (by decide +kernel) (?_ : Wp E (d + 2) 80 21 [.ref 0, .int x1, .int x2, .null, .null, .null, .null, .null] [.int (Int32.ofInt (-2))] M L Q)
      exact wp_iret (by decide +kernel) rfl (hK _ _ _ hP)

def PL_X9_bridges_16 (K : Int32 → Mem → LMem → Prop)  : Nat → Int32 → Int32 → Mem → LMem → Prop
  | 0, _, _, _, _ => False
  | n_ + 1, v1, v2, M, L => (((M 4 4) ≤ v2 → K v1 M L) ∧ (¬ ((M 4 4) ≤ v2) → P_X1_measure_72 ((Int32.ofInt 1) <<< (v2 &&& 31)) M L (fun M_4 L_5 => P_X1_lacksOneOf M_4 L_5 (fun v_8 M_6 L_7 => ((v_8 = 0 → PL_X9_bridges_16 K n_ v1 (v2 + Int32.ofInt 1) M_6 L_7) ∧ (¬ (v_8 = 0) → PL_X9_bridges_16 K n_ (v1 ||| ((Int32.ofInt 1) <<< (v2 &&& 31))) (v2 + Int32.ofInt 1) M_6 L_7))))))
theorem tl_X9_bridges_16 {E : VE} {d : Nat} {Q : QQ} {K : Int32 → Mem → LMem → Prop}  (hK : ∀ (v : Int32) (M : Mem) (L : LMem), K v M L → Q (some (.int v)) M L)  : ∀ (n_ : Nat) (v1 : Int32) (v2 : Int32) (M : Mem) (L : LMem), PL_X9_bridges_16 K n_ v1 v2 M L → Wp E (d + 2) 81 16 [.ref 0, .int v1, .int v2] [] M L Q := by
  intro n_
  induction n_ with
  | zero => intro v1 v2 M L hP; exact False.elim hP
  | succ n_ ih =>
    intro v1 v2 M L hP
    unfold PL_X9_bridges_16 at hP
    refine wp_seg (pc' := 27) [.iload 2, .aload 0, .getfield 577, .getfield 192, .getfield 132] (by decide +kernel) (?_ : Wp E (d + 2) 81 27 [.ref 0, .int v1, .int v2] [.int (M 4 4), .int v2] M L Q)
    refine wp_icmpge (off := 43) 70 (by decide +kernel) (by decide) (fun c_3 => ?_) (fun c_3 => ?_)
    · have hP := hP.1 c_3
      refine wp_seg (pc' := 71) [.iload 1] (by decide +kernel) (?_ : Wp E (d + 2) 81 71 [.ref 0, .int v1, .int v2] [.int v1] M L Q)
      exact wp_iret (by decide +kernel) rfl (hK _ _ _ hP)
    · have hP := hP.2 c_3
      refine wp_seg (pc' := 41) [.aload 0, .getfield 587, .aload 0, .getfield 577, .iconst 1, .iload 2, .ishl] (by decide +kernel) (?_ : Wp E (d + 2) 81 41 [.ref 0, .int v1, .int v2] [.int ((Int32.ofInt 1) <<< (v2 &&& 31)), .ref 3, .ref 72] M L Q)
      refine wp_callV 5 72 [.ref 3, .int ((Int32.ofInt 1) <<< (v2 &&& 31))] (i := 239) (by decide +kernel) (by decide +kernel) (by decide +kernel) (by decide +kernel) rfl rfl rfl (rest := []) rfl rfl ?_
      refine t_X1_measure_72 hP (fun M_4 L_5 hP => ?_)
      show Wp E (d + 2) 81 44 [.ref 0, .int v1, .int v2] [] M_4 L_5 Q
      refine wp_seg (pc' := 52) [.aload 0, .getfield 587, .aload 0, .getfield 586] (by decide +kernel) (?_ : Wp E (d + 2) 81 52 [.ref 0, .int v1, .int v2] [.ref 70, .ref 72] M_4 L_5 Q)
      refine wp_callV 11 72 [.ref 70] (i := 250) (by decide +kernel) (by decide +kernel) (by decide +kernel) (by decide +kernel) rfl rfl rfl (rest := []) rfl rfl ?_
      refine t_X1_lacksOneOf hP (fun v_8 M_6 L_7 hP => ?_)
      show Wp E (d + 2) 81 55 [.ref 0, .int v1, .int v2] [.int v_8] M_6 L_7 Q
      refine wp_ifeq (off := 9) 64 (by decide +kernel) (by decide) (fun c_9 => ?_) (fun c_9 => ?_)
      · have hP := hP.1 c_9
        refine wp_seg (pc' := 16) [.iinc 2 1, .goto 0] (by decide +kernel) (?_ : Wp E (d + 2) 81 16 [.ref 0, .int v1, .int (v2 + Int32.ofInt 1)] [] M_6 L_7 Q)
        exact ih v1 (v2 + Int32.ofInt 1) M_6 L_7 hP
      · have hP := hP.2 c_9
        refine wp_seg (pc' := 16) [.iload 1, .iconst 1, .iload 2, .ishl, .ior, .istore 1, .iinc 2 1, .goto 0] (by decide +kernel) (?_ : Wp E (d + 2) 81 16 [.ref 0, .int (v1 ||| ((Int32.ofInt 1) <<< (v2 &&& 31))), .int (v2 + Int32.ofInt 1)] [] M_6 L_7 Q)
        exact ih (v1 ||| ((Int32.ofInt 1) <<< (v2 &&& 31))) (v2 + Int32.ofInt 1) M_6 L_7 hP
def P_X9_bridges (M : Mem) (L : LMem) (K : Int32 → Mem → LMem → Prop) : Prop := P_X1_measure_70 (Int32.ofInt 0) M L (fun M_1 L_2 => PL_X9_bridges_16 K 100000 (Int32.ofInt 0) (Int32.ofInt 0) M_1 L_2)
theorem t_X9_bridges {E : VE} {d : Nat} {Q : QQ} {K : Int32 → Mem → LMem → Prop} {M : Mem} {L : LMem} (hP : P_X9_bridges M L K) (hK : ∀ (v : Int32) (M : Mem) (L : LMem), K v M L → Q (some (.int v)) M L) : Wp E (d + 2) 81 0 [.ref 0, .null, .null] [] M L Q := by
  unfold P_X9_bridges at hP
  refine wp_seg (pc' := 9) [.aload 0, .getfield 586, .aload 0, .getfield 577, .iconst 0] (by decide +kernel) (?_ : Wp E (d + 2) 81 9 [.ref 0, .null, .null] [.int (Int32.ofInt 0), .ref 3, .ref 70] M L Q)
  refine wp_callV 5 70 [.ref 3, .int (Int32.ofInt 0)] (i := 239) (by decide +kernel) (by decide +kernel) (by decide +kernel) (by decide +kernel) rfl rfl rfl (rest := []) rfl rfl ?_
  refine t_X1_measure_70 hP (fun M_1 L_2 hP => ?_)
  show Wp E (d + 2) 81 12 [.ref 0, .null, .null] [] M_1 L_2 Q
  refine wp_seg (pc' := 16) [.iconst 0, .istore 1, .iconst 0, .istore 2] (by decide +kernel) (?_ : Wp E (d + 2) 81 16 [.ref 0, .int (Int32.ofInt 0), .int (Int32.ofInt 0)] [] M_1 L_2 Q)
  exact tl_X9_bridges_16 hK 100000 (Int32.ofInt 0) (Int32.ofInt 0) M_1 L_2 hP

def P_X9_told (x1 : Int32) (M : Mem) (L : LMem) (K : Int32 → Mem → LMem → Prop) : Prop := (((f_X9_within M x1 (Int32.ofInt 10) (Int32.ofInt 17)) = 0 → ((x1 = Int32.ofInt 0 → K (M 1 1) M L) ∧ (¬ x1 = Int32.ofInt 0 → ((x1 = Int32.ofInt 1 → K (M 4 4) M L) ∧ (¬ x1 = Int32.ofInt 1 → ((x1 = Int32.ofInt 2 → K (M 3 1) M L) ∧ (¬ x1 = Int32.ofInt 2 → ((x1 = Int32.ofInt 3 → K (M 3 2) M L) ∧ (¬ x1 = Int32.ofInt 3 → ((x1 = Int32.ofInt 4 → K (M 3 8) M L) ∧ (¬ x1 = Int32.ofInt 4 → ((x1 = Int32.ofInt 5 → K (M 3 9) M L) ∧ (¬ x1 = Int32.ofInt 5 → K (Int32.ofInt (-2)) M L))))))))))))) ∧ (¬ ((f_X9_within M x1 (Int32.ofInt 10) (Int32.ofInt 17)) = 0) → (vp_in (x1 - (Int32.ofInt 10)) 8 ∧ K (M 9 ((x1 - (Int32.ofInt 10)).toNatClampNeg)) M L)))
theorem t_X9_told {E : VE} {d : Nat} {Q : QQ} {K : Int32 → Mem → LMem → Prop} {x1 : Int32} {M : Mem} {L : LMem} (hP : P_X9_told x1 M L K) (hK : ∀ (v : Int32) (M : Mem) (L : LMem), K v M L → Q (some (.int v)) M L) : Wp E (d + 1) 82 0 [.ref 0, .int x1] [] M L Q := by
  unfold P_X9_told at hP
  refine wp_seg (pc' := 5) [.iload 1, .iconst 10, .iconst 17] (by decide +kernel) (?_ : Wp E (d + 1) 82 5 [.ref 0, .int x1] [.int (Int32.ofInt 17), .int (Int32.ofInt 10), .int x1] M L Q)
  refine wp_callS 83 [.int x1, .int (Int32.ofInt 10), .int (Int32.ofInt 17)] (i := 126) (by decide +kernel) (by decide +kernel) (by decide +kernel) rfl rfl rfl (rest := []) rfl rfl ?_
  refine s_X9_within M x1 (Int32.ofInt 10) (Int32.ofInt 17)  ?_
  show Wp E (d + 1) 82 8 [.ref 0, .int x1] [.int (f_X9_within M x1 (Int32.ofInt 10) (Int32.ofInt 17))] M L Q
  refine wp_ifeq (off := 16) 24 (by decide +kernel) (by decide) (fun c_1 => ?_) (fun c_1 => ?_)
  · have hP := hP.1 c_1
    refine wp_seg (pc' := 25) [.iload 1] (by decide +kernel) (?_ : Wp E (d + 1) 82 25 [.ref 0, .int x1] [.int x1] M L Q)
    by_cases c_2 : x1 = Int32.ofInt 0
    · have hx_ : x1.toInt = 0 := by rw [c_2]; decide
      refine wp_tabIn (off := 39) 64 (by decide +kernel : decode (am_B 82) 25 = .ok (.tableswitch 90 0 5 #[39, 47, 58, 66, 74, 82], 39)) (by rw [hx_]; decide) (by rw [hx_]; decide) (by rw [hx_]; rfl) (by decide) ?_
      have hP := hP.1 c_2
      refine wp_seg (pc' := 71) [.aload 0, .getfield 576, .getfield 321] (by decide +kernel) (?_ : Wp E (d + 1) 82 71 [.ref 0, .int x1] [.int (M 1 1)] M L Q)
      exact wp_iret (by decide +kernel) rfl (hK _ _ _ hP)
    replace hP := hP.2 c_2
    by_cases c_3 : x1 = Int32.ofInt 1
    · have hx_ : x1.toInt = 1 := by rw [c_3]; decide
      refine wp_tabIn (off := 47) 72 (by decide +kernel : decode (am_B 82) 25 = .ok (.tableswitch 90 0 5 #[39, 47, 58, 66, 74, 82], 39)) (by rw [hx_]; decide) (by rw [hx_]; decide) (by rw [hx_]; rfl) (by decide) ?_
      have hP := hP.1 c_3
      refine wp_seg (pc' := 82) [.aload 0, .getfield 577, .getfield 192, .getfield 132] (by decide +kernel) (?_ : Wp E (d + 1) 82 82 [.ref 0, .int x1] [.int (M 4 4)] M L Q)
      exact wp_iret (by decide +kernel) rfl (hK _ _ _ hP)
    replace hP := hP.2 c_3
    by_cases c_4 : x1 = Int32.ofInt 2
    · have hx_ : x1.toInt = 2 := by rw [c_4]; decide
      refine wp_tabIn (off := 58) 83 (by decide +kernel : decode (am_B 82) 25 = .ok (.tableswitch 90 0 5 #[39, 47, 58, 66, 74, 82], 39)) (by rw [hx_]; decide) (by rw [hx_]; decide) (by rw [hx_]; rfl) (by decide) ?_
      have hP := hP.1 c_4
      refine wp_seg (pc' := 90) [.aload 0, .getfield 577, .getfield 193] (by decide +kernel) (?_ : Wp E (d + 1) 82 90 [.ref 0, .int x1] [.int (M 3 1)] M L Q)
      exact wp_iret (by decide +kernel) rfl (hK _ _ _ hP)
    replace hP := hP.2 c_4
    by_cases c_5 : x1 = Int32.ofInt 3
    · have hx_ : x1.toInt = 3 := by rw [c_5]; decide
      refine wp_tabIn (off := 66) 91 (by decide +kernel : decode (am_B 82) 25 = .ok (.tableswitch 90 0 5 #[39, 47, 58, 66, 74, 82], 39)) (by rw [hx_]; decide) (by rw [hx_]; decide) (by rw [hx_]; rfl) (by decide) ?_
      have hP := hP.1 c_5
      refine wp_seg (pc' := 98) [.aload 0, .getfield 577, .getfield 194] (by decide +kernel) (?_ : Wp E (d + 1) 82 98 [.ref 0, .int x1] [.int (M 3 2)] M L Q)
      exact wp_iret (by decide +kernel) rfl (hK _ _ _ hP)
    replace hP := hP.2 c_5
    by_cases c_6 : x1 = Int32.ofInt 4
    · have hx_ : x1.toInt = 4 := by rw [c_6]; decide
      refine wp_tabIn (off := 74) 99 (by decide +kernel : decode (am_B 82) 25 = .ok (.tableswitch 90 0 5 #[39, 47, 58, 66, 74, 82], 39)) (by rw [hx_]; decide) (by rw [hx_]; decide) (by rw [hx_]; rfl) (by decide) ?_
      have hP := hP.1 c_6
      refine wp_seg (pc' := 106) [.aload 0, .getfield 577, .getfield 200] (by decide +kernel) (?_ : Wp E (d + 1) 82 106 [.ref 0, .int x1] [.int (M 3 8)] M L Q)
      exact wp_iret (by decide +kernel) rfl (hK _ _ _ hP)
    replace hP := hP.2 c_6
    by_cases c_7 : x1 = Int32.ofInt 5
    · have hx_ : x1.toInt = 5 := by rw [c_7]; decide
      refine wp_tabIn (off := 82) 107 (by decide +kernel : decode (am_B 82) 25 = .ok (.tableswitch 90 0 5 #[39, 47, 58, 66, 74, 82], 39)) (by rw [hx_]; decide) (by rw [hx_]; decide) (by rw [hx_]; rfl) (by decide) ?_
      have hP := hP.1 c_7
      refine wp_seg (pc' := 114) [.aload 0, .getfield 577, .getfield 201] (by decide +kernel) (?_ : Wp E (d + 1) 82 114 [.ref 0, .int x1] [.int (M 3 9)] M L Q)
      exact wp_iret (by decide +kernel) rfl (hK _ _ _ hP)
    replace hP := hP.2 c_7
    refine wp_tabOut 115 (by decide +kernel : decode (am_B 82) 25 = .ok (.tableswitch 90 0 5 #[39, 47, 58, 66, 74, 82], 39)) (by have := sw_ne (v := 0) (by decide) c_2; have := sw_ne (v := 1) (by decide) c_3; have := sw_ne (v := 2) (by decide) c_4; have := sw_ne (v := 3) (by decide) c_5; have := sw_ne (v := 4) (by decide) c_6; have := sw_ne (v := 5) (by decide) c_7; omega) (by decide) ?_
    refine wp_seg (pc' := 117) [.iconst (-2)] (by decide +kernel) (?_ : Wp E (d + 1) 82 117 [.ref 0, .int x1] [.int (Int32.ofInt (-2))] M L Q)
    exact wp_iret (by decide +kernel) rfl (hK _ _ _ hP)
  · have hP := hP.2 c_1
    obtain ⟨a_8, hP⟩ := hP
    refine wp_seg (pc' := 23) [.aload 0, .getfield 577, .getfield 195, .iload 1, .iconst 10, .isub, .iaload] (by decide +kernel) (show aok 9 0 (x1 - (Int32.ofInt 10)) ∧ Wp E (d + 1) 82 23 [.ref 0, .int x1] [.int (M 9 ((x1 - (Int32.ofInt 10)).toNatClampNeg))] M L Q from ⟨⟨rfl, a_8⟩, ?_⟩)
    exact wp_iret (by decide +kernel) rfl (hK _ _ _ hP)
