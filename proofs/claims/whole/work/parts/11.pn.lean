def PL_X10_findWays_77 (K : Int32 → Mem → LMem → Prop) (C_4 : Int32 → Int32 → Int32 → Mem → LMem → Prop) : Nat → Int32 → Int32 → Int32 → Int32 → Int32 → Mem → LMem → Prop
  | 0, _, _, _, _, _, _, _ => False
  | n_ + 1, v1, v2, v3, v4, v5, M, L => (((M 74 20) ≤ v5 → C_4 v1 v2 (v3 + Int32.ofInt 1) M L) ∧ (¬ ((M 74 20) ≤ v5) → (vp_in v5 8 ∧ (vp_in (((Int32.ofInt 8) * v3) + v5) 40 ∧ PL_X10_findWays_77 K C_4 n_ v1 v2 v3 v4 (v5 + Int32.ofInt 1) (mput M 100 ((((Int32.ofInt 8) * v3) + v5).toNatClampNeg) (M 86 v5.toNatClampNeg)) L))))
theorem tl_X10_findWays_77 {E : VE} {d : Nat} {Q : QQ} {K : Int32 → Mem → LMem → Prop} {C_4 : Int32 → Int32 → Int32 → Mem → LMem → Prop} (hK : ∀ (v : Int32) (M : Mem) (L : LMem), K v M L → Q (some (.int v)) M L) (hC_4 : ∀ (v1 : Int32) (v2 : Int32) (v3 : Int32) (M : Mem) (L : LMem), C_4 v1 v2 v3 M L → Wp E (d + 4) 132 4 [.ref 74, .int v1, .int v2, .int v3, .null, .null] [] M L Q) : ∀ (n_ : Nat) (v1 : Int32) (v2 : Int32) (v3 : Int32) (v4 : Int32) (v5 : Int32) (M : Mem) (L : LMem), PL_X10_findWays_77 K C_4 n_ v1 v2 v3 v4 v5 M L → Wp E (d + 4) 132 77 [.ref 74, .int v1, .int v2, .int v3, .int v4, .int v5] [] M L Q := by
  intro n_
  induction n_ with
  | zero => intro v1 v2 v3 v4 v5 M L hP; exact False.elim hP
  | succ n_ ih =>
    intro v1 v2 v3 v4 v5 M L hP
    unfold PL_X10_findWays_77 at hP
    refine wp_seg (pc' := 83) [.iload 5, .aload 0, .getfield 660] (by decide +kernel) (?_ : Wp E (d + 4) 132 83 [.ref 74, .int v1, .int v2, .int v3, .int v4, .int v5] [.int (M 74 20), .int v5] M L Q)
    refine wp_icmpge (off := 28) 111 (by decide +kernel) (by decide) (fun c_11 => ?_) (fun c_11 => ?_)
    · have hP := hP.1 c_11
      refine wp_seg (pc' := 4) [.iinc 3 1, .goto 0] (by decide +kernel) (?_ : Wp E (d + 4) 132 4 [.ref 74, .int v1, .int v2, .int (v3 + Int32.ofInt 1), .int v4, .int v5] [] M L Q)
      refine wp_drop (lo := [.ref 74, .int v1, .int v2, .int (v3 + Int32.ofInt 1), .null, .null]) ⟨Or.inr rfl, Or.inr rfl, Or.inr rfl, Or.inr rfl, Or.inl rfl, Or.inl rfl, trivial⟩ ?_
      exact hC_4 v1 v2 (v3 + Int32.ofInt 1) M L hP
    · have hP := hP.2 c_11
      obtain ⟨a_12, hP⟩ := hP
      refine wp_seg (pc' := 104) [.aload 0, .getfield 678, .iconst 8, .iload 3, .imul, .iload 5, .iadd, .aload 0, .getfield 658, .iload 5, .iaload] (by decide +kernel) (show aok 86 0 v5 ∧ Wp E (d + 4) 132 104 [.ref 74, .int v1, .int v2, .int v3, .int v4, .int v5] [.int (M 86 v5.toNatClampNeg), .int (((Int32.ofInt 8) * v3) + v5), .ref 100] M L Q from ⟨⟨rfl, a_12⟩, ?_⟩)
      obtain ⟨a_13, hP⟩ := hP
      refine wp_seg (pc' := 105) [.iastore] (by decide +kernel) (show aok 100 0 (((Int32.ofInt 8) * v3) + v5) ∧ Wp E (d + 4) 132 105 [.ref 74, .int v1, .int v2, .int v3, .int v4, .int v5] [] (mput M 100 ((((Int32.ofInt 8) * v3) + v5).toNatClampNeg) (M 86 v5.toNatClampNeg)) L Q from ⟨⟨rfl, a_13⟩, ?_⟩)
      refine wp_seg (pc' := 77) [.iinc 5 1, .goto 0] (by decide +kernel) (?_ : Wp E (d + 4) 132 77 [.ref 74, .int v1, .int v2, .int v3, .int v4, .int (v5 + Int32.ofInt 1)] [] (mput M 100 ((((Int32.ofInt 8) * v3) + v5).toNatClampNeg) (M 86 v5.toNatClampNeg)) L Q)
      exact ih v1 v2 v3 v4 (v5 + Int32.ofInt 1) (mput M 100 ((((Int32.ofInt 8) * v3) + v5).toNatClampNeg) (M 86 v5.toNatClampNeg)) L hP
def PL_X10_findWays_4 (K : Int32 → Mem → LMem → Prop)  : Nat → Int32 → Int32 → Int32 → Mem → LMem → Prop
  | 0, _, _, _, _, _ => False
  | n_ + 1, v1, v2, v3, M, L => (((M 74 12) ≤ v3 → ((v2 = 0 ∨ v2 = 1) ∧ K v2 M L)) ∧ (¬ ((M 74 12) ≤ v3) → (vp_in v3 5 ∧ P_X10_layWay (M 80 v3.toNatClampNeg) (M 81 v3.toNatClampNeg) (Int32.ofInt 0) M L (fun v_6 M_4 L_5 => ((v2 = 0 → P_X10_wayBits M_4 L_5 (fun v_10 M_8 L_9 => PL_X10_findWays_77 K (PL_X10_findWays_4 K n_) 100000 v1 (Int32.ofInt 0) v3 v_6 (Int32.ofInt 0) (mput (mput M_8 99 v3.toNatClampNeg v_10) 101 v3.toNatClampNeg (M_8 74 20)) L_9)) ∧ (¬ (v2 = 0) → ((v_6 = 0 → ((((v1 >>> (v3 &&& 31)) &&& (Int32.ofInt 1)) = 0 → P_X10_wayBits M_4 L_5 (fun v_24 M_22 L_23 => PL_X10_findWays_77 K (PL_X10_findWays_4 K n_) 100000 v1 (Int32.ofInt 1) v3 v_6 (Int32.ofInt 0) (mput (mput M_22 99 v3.toNatClampNeg v_24) 101 v3.toNatClampNeg (M_22 74 20)) L_23)) ∧ (¬ (((v1 >>> (v3 &&& 31)) &&& (Int32.ofInt 1)) = 0) → P_X10_wayBits M_4 L_5 (fun v_21 M_19 L_20 => PL_X10_findWays_77 K (PL_X10_findWays_4 K n_) 100000 v1 (Int32.ofInt 0) v3 v_6 (Int32.ofInt 0) (mput (mput M_19 99 v3.toNatClampNeg v_21) 101 v3.toNatClampNeg (M_19 74 20)) L_20)))) ∧ (¬ (v_6 = 0) → P_X10_wayBits M_4 L_5 (fun v_17 M_15 L_16 => PL_X10_findWays_77 K (PL_X10_findWays_4 K n_) 100000 v1 (Int32.ofInt 1) v3 v_6 (Int32.ofInt 0) (mput (mput M_15 99 v3.toNatClampNeg v_17) 101 v3.toNatClampNeg (M_15 74 20)) L_16)))))))))
theorem tl_X10_findWays_4 {E : VE} {d : Nat} {Q : QQ} {K : Int32 → Mem → LMem → Prop}  (hK : ∀ (v : Int32) (M : Mem) (L : LMem), K v M L → Q (some (.int v)) M L)  : ∀ (n_ : Nat) (v1 : Int32) (v2 : Int32) (v3 : Int32) (M : Mem) (L : LMem), PL_X10_findWays_4 K n_ v1 v2 v3 M L → Wp E (d + 4) 132 4 [.ref 74, .int v1, .int v2, .int v3, .null, .null] [] M L Q := by
  intro n_
  induction n_ with
  | zero => intro v1 v2 v3 M L hP; exact False.elim hP
  | succ n_ ih =>
    intro v1 v2 v3 M L hP
    unfold PL_X10_findWays_4 at hP
    refine wp_seg (pc' := 9) [.iload 3, .aload 0, .getfield 652] (by decide +kernel) (?_ : Wp E (d + 4) 132 9 [.ref 74, .int v1, .int v2, .int v3, .null, .null] [.int (M 74 12), .int v3] M L Q)
    refine wp_icmpge (off := 108) 117 (by decide +kernel) (by decide) (fun c_1 => ?_) (fun c_1 => ?_)
    · have hP := hP.1 c_1
      refine wp_seg (pc' := 118) [.iload 2] (by decide +kernel) (?_ : Wp E (d + 4) 132 118 [.ref 74, .int v1, .int v2, .int v3, .null, .null] [.int v2] M L Q)
      obtain ⟨a_2, hP⟩ := hP
      exact wp_zret (by decide +kernel) rfl a_2 (hK _ _ _ hP)
    · have hP := hP.2 c_1
      obtain ⟨a_3, hP⟩ := hP
      refine wp_seg (pc' := 19) [.aload 0, .aload 0, .getfield 648, .iload 3, .iaload] (by decide +kernel) (show aok 80 0 v3 ∧ Wp E (d + 4) 132 19 [.ref 74, .int v1, .int v2, .int v3, .null, .null] [.int (M 80 v3.toNatClampNeg), .ref 74] M L Q from ⟨⟨rfl, a_3⟩, ?_⟩)
      refine wp_seg (pc' := 25) [.aload 0, .getfield 649, .iload 3, .iaload] (by decide +kernel) (show aok 81 0 v3 ∧ Wp E (d + 4) 132 25 [.ref 74, .int v1, .int v2, .int v3, .null, .null] [.int (M 81 v3.toNatClampNeg), .int (M 80 v3.toNatClampNeg), .ref 74] M L Q from ⟨⟨rfl, a_3⟩, ?_⟩)
      refine wp_seg (pc' := 26) [.iconst 0] (by decide +kernel) (?_ : Wp E (d + 4) 132 26 [.ref 74, .int v1, .int v2, .int v3, .null, .null] [.int (Int32.ofInt 0), .int (M 81 v3.toNatClampNeg), .int (M 80 v3.toNatClampNeg), .ref 74] M L Q)
      refine wp_callV 112 74 [.int (M 80 v3.toNatClampNeg), .int (M 81 v3.toNatClampNeg), .int (Int32.ofInt 0)] (i := 202) (by decide +kernel) (by decide +kernel) (by decide +kernel) (by decide +kernel) rfl rfl rfl (rest := []) rfl rfl ?_
      refine t_X10_layWay hP (fun v_6 M_4 L_5 hP => ?_)
      show Wp E (d + 4) 132 29 [.ref 74, .int v1, .int v2, .int v3, .null, .null] [.int v_6] M_4 L_5 Q
      refine wp_seg (pc' := 32) [.istore 4, .iload 2] (by decide +kernel) (?_ : Wp E (d + 4) 132 32 [.ref 74, .int v1, .int v2, .int v3, .int v_6, .null] [.int v2] M_4 L_5 Q)
      refine wp_ifeq (off := 20) 52 (by decide +kernel) (by decide) (fun c_7 => ?_) (fun c_7 => ?_)
      · have hP := hP.1 c_7
        refine wp_seg (pc' := 60) [.iconst 0, .istore 2, .aload 0, .getfield 677, .iload 3, .aload 0] (by decide +kernel) (?_ : Wp E (d + 4) 132 60 [.ref 74, .int v1, .int (Int32.ofInt 0), .int v3, .int v_6, .null] [.ref 74, .int v3, .ref 99] M_4 L_5 Q)
        refine wp_callV 114 74 [] (i := 226) (by decide +kernel) (by decide +kernel) (by decide +kernel) (by decide +kernel) rfl rfl rfl (rest := [.int v3, .ref 99]) rfl rfl ?_
        refine t_X10_wayBits hP (fun v_10 M_8 L_9 hP => ?_)
        show Wp E (d + 4) 132 63 [.ref 74, .int v1, .int (Int32.ofInt 0), .int v3, .int v_6, .null] [.int v_10, .int v3, .ref 99] M_8 L_9 Q
        refine wp_seg (pc' := 64) [.iastore] (by decide +kernel) (show aok 99 0 v3 ∧ Wp E (d + 4) 132 64 [.ref 74, .int v1, .int (Int32.ofInt 0), .int v3, .int v_6, .null] [] (mput M_8 99 v3.toNatClampNeg v_10) L_9 Q from ⟨⟨rfl, a_3⟩, ?_⟩)
        refine wp_seg (pc' := 74) [.aload 0, .getfield 679, .iload 3, .aload 0, .getfield 660, .iastore] (by decide +kernel) (show aok 101 0 v3 ∧ Wp E (d + 4) 132 74 [.ref 74, .int v1, .int (Int32.ofInt 0), .int v3, .int v_6, .null] [] (mput (mput M_8 99 v3.toNatClampNeg v_10) 101 v3.toNatClampNeg (M_8 74 20)) L_9 Q from ⟨⟨rfl, a_3⟩, ?_⟩)
        refine wp_seg (pc' := 77) [.iconst 0, .istore 5] (by decide +kernel) (?_ : Wp E (d + 4) 132 77 [.ref 74, .int v1, .int (Int32.ofInt 0), .int v3, .int v_6, .int (Int32.ofInt 0)] [] (mput (mput M_8 99 v3.toNatClampNeg v_10) 101 v3.toNatClampNeg (M_8 74 20)) L_9 Q)
        exact tl_X10_findWays_77 hK (fun v1 v2 v3 M L hP => ih v1 v2 v3 M L hP) 100000 v1 (Int32.ofInt 0) v3 v_6 (Int32.ofInt 0) (mput (mput M_8 99 v3.toNatClampNeg v_10) 101 v3.toNatClampNeg (M_8 74 20)) L_9 hP
      · have hP := hP.2 c_7
        refine wp_seg (pc' := 37) [.iload 4] (by decide +kernel) (?_ : Wp E (d + 4) 132 37 [.ref 74, .int v1, .int v2, .int v3, .int v_6, .null] [.int v_6] M_4 L_5 Q)
        refine wp_ifne (off := 11) 48 (by decide +kernel) (by decide) (fun c_14 => ?_) (fun c_14 => ?_)
        · have hP := hP.2 c_14
          refine wp_seg (pc' := 60) [.iconst 1, .goto 0, .istore 2, .aload 0, .getfield 677, .iload 3, .aload 0] (by decide +kernel) (?_ : Wp E (d + 4) 132 60 [.ref 74, .int v1, .int (Int32.ofInt 1), .int v3, .int v_6, .null] [.ref 74, .int v3, .ref 99] M_4 L_5 Q)
          refine wp_callV 114 74 [] (i := 226) (by decide +kernel) (by decide +kernel) (by decide +kernel) (by decide +kernel) rfl rfl rfl (rest := [.int v3, .ref 99]) rfl rfl ?_
          refine t_X10_wayBits hP (fun v_17 M_15 L_16 hP => ?_)
          show Wp E (d + 4) 132 63 [.ref 74, .int v1, .int (Int32.ofInt 1), .int v3, .int v_6, .null] [.int v_17, .int v3, .ref 99] M_15 L_16 Q
          refine wp_seg (pc' := 64) [.iastore] (by decide +kernel) (show aok 99 0 v3 ∧ Wp E (d + 4) 132 64 [.ref 74, .int v1, .int (Int32.ofInt 1), .int v3, .int v_6, .null] [] (mput M_15 99 v3.toNatClampNeg v_17) L_16 Q from ⟨⟨rfl, a_3⟩, ?_⟩)
          refine wp_seg (pc' := 74) [.aload 0, .getfield 679, .iload 3, .aload 0, .getfield 660, .iastore] (by decide +kernel) (show aok 101 0 v3 ∧ Wp E (d + 4) 132 74 [.ref 74, .int v1, .int (Int32.ofInt 1), .int v3, .int v_6, .null] [] (mput (mput M_15 99 v3.toNatClampNeg v_17) 101 v3.toNatClampNeg (M_15 74 20)) L_16 Q from ⟨⟨rfl, a_3⟩, ?_⟩)
          refine wp_seg (pc' := 77) [.iconst 0, .istore 5] (by decide +kernel) (?_ : Wp E (d + 4) 132 77 [.ref 74, .int v1, .int (Int32.ofInt 1), .int v3, .int v_6, .int (Int32.ofInt 0)] [] (mput (mput M_15 99 v3.toNatClampNeg v_17) 101 v3.toNatClampNeg (M_15 74 20)) L_16 Q)
          exact tl_X10_findWays_77 hK (fun v1 v2 v3 M L hP => ih v1 v2 v3 M L hP) 100000 v1 (Int32.ofInt 1) v3 v_6 (Int32.ofInt 0) (mput (mput M_15 99 v3.toNatClampNeg v_17) 101 v3.toNatClampNeg (M_15 74 20)) L_16 hP
        · have hP := hP.1 c_14
          refine wp_seg (pc' := 45) [.iload 1, .iload 3, .ishr, .iconst 1, .iand] (by decide +kernel) (?_ : Wp E (d + 4) 132 45 [.ref 74, .int v1, .int v2, .int v3, .int v_6, .null] [.int ((v1 >>> (v3 &&& 31)) &&& (Int32.ofInt 1))] M_4 L_5 Q)
          refine wp_ifne (off := 7) 52 (by decide +kernel) (by decide) (fun c_18 => ?_) (fun c_18 => ?_)
          · have hP := hP.2 c_18
            refine wp_seg (pc' := 60) [.iconst 0, .istore 2, .aload 0, .getfield 677, .iload 3, .aload 0] (by decide +kernel) (?_ : Wp E (d + 4) 132 60 [.ref 74, .int v1, .int (Int32.ofInt 0), .int v3, .int v_6, .null] [.ref 74, .int v3, .ref 99] M_4 L_5 Q)
            refine wp_callV 114 74 [] (i := 226) (by decide +kernel) (by decide +kernel) (by decide +kernel) (by decide +kernel) rfl rfl rfl (rest := [.int v3, .ref 99]) rfl rfl ?_
            refine t_X10_wayBits hP (fun v_21 M_19 L_20 hP => ?_)
            show Wp E (d + 4) 132 63 [.ref 74, .int v1, .int (Int32.ofInt 0), .int v3, .int v_6, .null] [.int v_21, .int v3, .ref 99] M_19 L_20 Q
            refine wp_seg (pc' := 64) [.iastore] (by decide +kernel) (show aok 99 0 v3 ∧ Wp E (d + 4) 132 64 [.ref 74, .int v1, .int (Int32.ofInt 0), .int v3, .int v_6, .null] [] (mput M_19 99 v3.toNatClampNeg v_21) L_20 Q from ⟨⟨rfl, a_3⟩, ?_⟩)
            refine wp_seg (pc' := 74) [.aload 0, .getfield 679, .iload 3, .aload 0, .getfield 660, .iastore] (by decide +kernel) (show aok 101 0 v3 ∧ Wp E (d + 4) 132 74 [.ref 74, .int v1, .int (Int32.ofInt 0), .int v3, .int v_6, .null] [] (mput (mput M_19 99 v3.toNatClampNeg v_21) 101 v3.toNatClampNeg (M_19 74 20)) L_20 Q from ⟨⟨rfl, a_3⟩, ?_⟩)
            refine wp_seg (pc' := 77) [.iconst 0, .istore 5] (by decide +kernel) (?_ : Wp E (d + 4) 132 77 [.ref 74, .int v1, .int (Int32.ofInt 0), .int v3, .int v_6, .int (Int32.ofInt 0)] [] (mput (mput M_19 99 v3.toNatClampNeg v_21) 101 v3.toNatClampNeg (M_19 74 20)) L_20 Q)
            exact tl_X10_findWays_77 hK (fun v1 v2 v3 M L hP => ih v1 v2 v3 M L hP) 100000 v1 (Int32.ofInt 0) v3 v_6 (Int32.ofInt 0) (mput (mput M_19 99 v3.toNatClampNeg v_21) 101 v3.toNatClampNeg (M_19 74 20)) L_20 hP
          · have hP := hP.1 c_18
            refine wp_seg (pc' := 60) [.iconst 1, .goto 0, .istore 2, .aload 0, .getfield 677, .iload 3, .aload 0] (by decide +kernel) (?_ : Wp E (d + 4) 132 60 [.ref 74, .int v1, .int (Int32.ofInt 1), .int v3, .int v_6, .null] [.ref 74, .int v3, .ref 99] M_4 L_5 Q)
            refine wp_callV 114 74 [] (i := 226) (by decide +kernel) (by decide +kernel) (by decide +kernel) (by decide +kernel) rfl rfl rfl (rest := [.int v3, .ref 99]) rfl rfl ?_
            refine t_X10_wayBits hP (fun v_24 M_22 L_23 hP => ?_)
            show Wp E (d + 4) 132 63 [.ref 74, .int v1, .int (Int32.ofInt 1), .int v3, .int v_6, .null] [.int v_24, .int v3, .ref 99] M_22 L_23 Q
            refine wp_seg (pc' := 64) [.iastore] (by decide +kernel) (show aok 99 0 v3 ∧ Wp E (d + 4) 132 64 [.ref 74, .int v1, .int (Int32.ofInt 1), .int v3, .int v_6, .null] [] (mput M_22 99 v3.toNatClampNeg v_24) L_23 Q from ⟨⟨rfl, a_3⟩, ?_⟩)
            refine wp_seg (pc' := 74) [.aload 0, .getfield 679, .iload 3, .aload 0, .getfield 660, .iastore] (by decide +kernel) (show aok 101 0 v3 ∧ Wp E (d + 4) 132 74 [.ref 74, .int v1, .int (Int32.ofInt 1), .int v3, .int v_6, .null] [] (mput (mput M_22 99 v3.toNatClampNeg v_24) 101 v3.toNatClampNeg (M_22 74 20)) L_23 Q from ⟨⟨rfl, a_3⟩, ?_⟩)
            refine wp_seg (pc' := 77) [.iconst 0, .istore 5] (by decide +kernel) (?_ : Wp E (d + 4) 132 77 [.ref 74, .int v1, .int (Int32.ofInt 1), .int v3, .int v_6, .int (Int32.ofInt 0)] [] (mput (mput M_22 99 v3.toNatClampNeg v_24) 101 v3.toNatClampNeg (M_22 74 20)) L_23 Q)
            exact tl_X10_findWays_77 hK (fun v1 v2 v3 M L hP => ih v1 v2 v3 M L hP) 100000 v1 (Int32.ofInt 1) v3 v_6 (Int32.ofInt 0) (mput (mput M_22 99 v3.toNatClampNeg v_24) 101 v3.toNatClampNeg (M_22 74 20)) L_23 hP
def P_X10_findWays (x1 : Int32) (M : Mem) (L : LMem) (K : Int32 → Mem → LMem → Prop) : Prop := PL_X10_findWays_4 K 100000 x1 (Int32.ofInt 1) (Int32.ofInt 0) M L
theorem t_X10_findWays {E : VE} {d : Nat} {Q : QQ} {K : Int32 → Mem → LMem → Prop} {x1 : Int32} {M : Mem} {L : LMem} (hP : P_X10_findWays x1 M L K) (hK : ∀ (v : Int32) (M : Mem) (L : LMem), K v M L → Q (some (.int v)) M L) : Wp E (d + 4) 132 0 [.ref 74, .int x1, .null, .null, .null, .null] [] M L Q := by
  unfold P_X10_findWays at hP
  refine wp_seg (pc' := 4) [.iconst 1, .istore 2, .iconst 0, .istore 3] (by decide +kernel) (?_ : Wp E (d + 4) 132 4 [.ref 74, .int x1, .int (Int32.ofInt 1), .int (Int32.ofInt 0), .null, .null] [] M L Q)
  exact tl_X10_findWays_4 hK 100000 x1 (Int32.ofInt 1) (Int32.ofInt 0) M L hP

def PL_X10_layOrder_12 (K : Int32 → Mem → LMem → Prop)  : Nat → Int32 → Int32 → Int32 → Int32 → Mem → LMem → Prop
  | 0, _, _, _, _, _, _ => False
  | n_ + 1, v1, v2, v3, v4, M, L => ((v4 < 0 → ((v3 = (((Int32.ofInt 1) <<< ((M 74 12) &&& 31)) - (Int32.ofInt 1)) → K (Int32.ofInt 1) M L) ∧ (¬ (v3 = (((Int32.ofInt 1) <<< ((M 74 12) &&& 31)) - (Int32.ofInt 1))) → K (Int32.ofInt 0) M L))) ∧ (¬ (v4 < 0) → (¬ (M 74 12) = 0 ∧ (vp_in v4 5 ∧ PL_X10_layOrder_12 K n_ v1 (v2 / (M 74 12)) (v3 ||| ((Int32.ofInt 1) <<< (((mput M 102 v4.toNatClampNeg (v2 - v2 / (M 74 12) * (M 74 12))) 102 v4.toNatClampNeg) &&& 31))) (v4 + Int32.ofInt (-1)) (mput M 102 v4.toNatClampNeg (v2 - v2 / (M 74 12) * (M 74 12))) L))))
theorem tl_X10_layOrder_12 {E : VE} {d : Nat} {Q : QQ} {K : Int32 → Mem → LMem → Prop}  (hK : ∀ (v : Int32) (M : Mem) (L : LMem), K v M L → Q (some (.int v)) M L)  : ∀ (n_ : Nat) (v1 : Int32) (v2 : Int32) (v3 : Int32) (v4 : Int32) (M : Mem) (L : LMem), PL_X10_layOrder_12 K n_ v1 v2 v3 v4 M L → Wp E d 133 12 [.ref 74, .int v1, .int v2, .int v3, .int v4] [] M L Q := by
  intro n_
  induction n_ with
  | zero => intro v1 v2 v3 v4 M L hP; exact False.elim hP
  | succ n_ ih =>
    intro v1 v2 v3 v4 M L hP
    unfold PL_X10_layOrder_12 at hP
    refine wp_seg (pc' := 14) [.iload 4] (by decide +kernel) (?_ : Wp E d 133 14 [.ref 74, .int v1, .int v2, .int v3, .int v4] [.int v4] M L Q)
    refine wp_iflt (off := 41) 55 (by decide +kernel) (by decide) (fun c_1 => ?_) (fun c_1 => ?_)
    · have hP := hP.1 c_1
      refine wp_seg (pc' := 64) [.iload 3, .iconst 1, .aload 0, .getfield 652, .ishl, .iconst 1, .isub] (by decide +kernel) (?_ : Wp E d 133 64 [.ref 74, .int v1, .int v2, .int v3, .int v4] [.int (((Int32.ofInt 1) <<< ((M 74 12) &&& 31)) - (Int32.ofInt 1)), .int v3] M L Q)
      refine wp_icmpne (off := 7) 71 (by decide +kernel) (by decide) (fun c_2 => ?_) (fun c_2 => ?_)
      · have hP := hP.2 c_2
        refine wp_seg (pc' := 72) [.iconst 0] (by decide +kernel) (?_ : Wp E d 133 72 [.ref 74, .int v1, .int v2, .int v3, .int v4] [.int (Int32.ofInt 0)] M L Q)
        exact wp_zret (by decide +kernel) rfl (by decide) (hK _ _ _ hP)
      · have hP := hP.1 c_2
        refine wp_seg (pc' := 72) [.iconst 1, .goto 0] (by decide +kernel) (?_ : Wp E d 133 72 [.ref 74, .int v1, .int v2, .int v3, .int v4] [.int (Int32.ofInt 1)] M L Q)
        exact wp_zret (by decide +kernel) rfl (by decide) (hK _ _ _ hP)
    · have hP := hP.2 c_1
      obtain ⟨a_3, hP⟩ := hP
      refine wp_seg (pc' := 29) [.aload 0, .getfield 680, .iload 4, .iload 2, .aload 0, .getfield 652, .irem] (by decide +kernel) (show ¬ (M 74 12) = 0 ∧ Wp E d 133 29 [.ref 74, .int v1, .int v2, .int v3, .int v4] [.int (v2 - v2 / (M 74 12) * (M 74 12)), .int v4, .ref 102] M L Q from ⟨a_3, ?_⟩)
      obtain ⟨a_4, hP⟩ := hP
      refine wp_seg (pc' := 30) [.iastore] (by decide +kernel) (show aok 102 0 v4 ∧ Wp E d 133 30 [.ref 74, .int v1, .int v2, .int v3, .int v4] [] (mput M 102 v4.toNatClampNeg (v2 - v2 / (M 74 12) * (M 74 12))) L Q from ⟨⟨rfl, a_4⟩, ?_⟩)
      refine wp_seg (pc' := 39) [.iload 3, .iconst 1, .aload 0, .getfield 680, .iload 4, .iaload] (by decide +kernel) (show aok 102 0 v4 ∧ Wp E d 133 39 [.ref 74, .int v1, .int v2, .int v3, .int v4] [.int ((mput M 102 v4.toNatClampNeg (v2 - v2 / (M 74 12) * (M 74 12))) 102 v4.toNatClampNeg), .int (Int32.ofInt 1), .int v3] (mput M 102 v4.toNatClampNeg (v2 - v2 / (M 74 12) * (M 74 12))) L Q from ⟨⟨rfl, a_4⟩, ?_⟩)
      refine wp_seg (pc' := 48) [.ishl, .ior, .istore 3, .iload 2, .aload 0, .getfield 652, .idiv] (by decide +kernel) (show ¬ (M 74 12) = 0 ∧ Wp E d 133 48 [.ref 74, .int v1, .int v2, .int (v3 ||| ((Int32.ofInt 1) <<< (((mput M 102 v4.toNatClampNeg (v2 - v2 / (M 74 12) * (M 74 12))) 102 v4.toNatClampNeg) &&& 31))), .int v4] [.int (v2 / (M 74 12))] (mput M 102 v4.toNatClampNeg (v2 - v2 / (M 74 12) * (M 74 12))) L Q from ⟨a_3, ?_⟩)
      refine wp_seg (pc' := 12) [.istore 2, .iinc 4 (-1), .goto 0] (by decide +kernel) (?_ : Wp E d 133 12 [.ref 74, .int v1, .int (v2 / (M 74 12)), .int (v3 ||| ((Int32.ofInt 1) <<< (((mput M 102 v4.toNatClampNeg (v2 - v2 / (M 74 12) * (M 74 12))) 102 v4.toNatClampNeg) &&& 31))), .int (v4 + Int32.ofInt (-1))] [] (mput M 102 v4.toNatClampNeg (v2 - v2 / (M 74 12) * (M 74 12))) L Q)
      exact ih v1 (v2 / (M 74 12)) (v3 ||| ((Int32.ofInt 1) <<< (((mput M 102 v4.toNatClampNeg (v2 - v2 / (M 74 12) * (M 74 12))) 102 v4.toNatClampNeg) &&& 31))) (v4 + Int32.ofInt (-1)) (mput M 102 v4.toNatClampNeg (v2 - v2 / (M 74 12) * (M 74 12))) L hP
def P_X10_layOrder (x1 : Int32) (M : Mem) (L : LMem) (K : Int32 → Mem → LMem → Prop) : Prop := PL_X10_layOrder_12 K 100000 x1 x1 (Int32.ofInt 0) ((M 74 12) - (Int32.ofInt 1)) M L
theorem t_X10_layOrder {E : VE} {d : Nat} {Q : QQ} {K : Int32 → Mem → LMem → Prop} {x1 : Int32} {M : Mem} {L : LMem} (hP : P_X10_layOrder x1 M L K) (hK : ∀ (v : Int32) (M : Mem) (L : LMem), K v M L → Q (some (.int v)) M L) : Wp E d 133 0 [.ref 74, .int x1, .null, .null, .null] [] M L Q := by
  unfold P_X10_layOrder at hP
  refine wp_seg (pc' := 12) [.iload 1, .istore 2, .iconst 0, .istore 3, .aload 0, .getfield 652, .iconst 1, .isub, .istore 4] (by decide +kernel) (?_ : Wp E d 133 12 [.ref 74, .int x1, .int x1, .int (Int32.ofInt 0), .int ((M 74 12) - (Int32.ofInt 1))] [] M L Q)
  exact tl_X10_layOrder_12 hK 100000 x1 x1 (Int32.ofInt 0) ((M 74 12) - (Int32.ofInt 1)) M L hP

def PL_X10_isFreeAt_124 (K : Int32 → Mem → LMem → Prop)  : Nat → Int32 → Int32 → Int32 → Int32 → Int32 → Int32 → Int32 → Mem → LMem → Prop
  | 0, _, _, _, _, _, _, _, _, _ => False
  | n_ + 1, v1, v2, v3, v4, v5, v6, v7, M, L => (((M 74 4) ≤ v7 → (vp_in v3 5 ∧ ((((v4 >>> ((M 80 v3.toNatClampNeg) &&& 31)) &&& (Int32.ofInt 1)) = 0 → ((((v4 >>> ((M 81 v3.toNatClampNeg) &&& 31)) &&& (Int32.ofInt 1)) = 0 → (((v6 &&& (M 99 v3.toNatClampNeg)) = 0 → K (Int32.ofInt 1) M L) ∧ (¬ ((v6 &&& (M 99 v3.toNatClampNeg)) = 0) → K (Int32.ofInt 0) M L))) ∧ (¬ (((v4 >>> ((M 81 v3.toNatClampNeg) &&& 31)) &&& (Int32.ofInt 1)) = 0) → K (Int32.ofInt 0) M L))) ∧ (¬ (((v4 >>> ((M 80 v3.toNatClampNeg) &&& 31)) &&& (Int32.ofInt 1)) = 0) → K (Int32.ofInt 0) M L)))) ∧ (¬ ((M 74 4) ≤ v7) → (vp_in v7 13 ∧ (((M 77 v7.toNatClampNeg) = (Int32.ofInt 61) → PL_X10_isFreeAt_124 K n_ v1 v2 v3 v4 v5 (v6 ||| (Int32.ofInt 0)) (v7 + Int32.ofInt 1) M L) ∧ (¬ ((M 77 v7.toNatClampNeg) = (Int32.ofInt 61)) → PL_X10_isFreeAt_124 K n_ v1 v2 v3 v4 v5 (v6 ||| (v5 &&& ((Int32.ofInt 1) <<< (v7 &&& 31)))) (v7 + Int32.ofInt 1) M L)))))
theorem tl_X10_isFreeAt_124 {E : VE} {d : Nat} {Q : QQ} {K : Int32 → Mem → LMem → Prop}  (hK : ∀ (v : Int32) (M : Mem) (L : LMem), K v M L → Q (some (.int v)) M L)  : ∀ (n_ : Nat) (v1 : Int32) (v2 : Int32) (v3 : Int32) (v4 : Int32) (v5 : Int32) (v6 : Int32) (v7 : Int32) (M : Mem) (L : LMem), PL_X10_isFreeAt_124 K n_ v1 v2 v3 v4 v5 v6 v7 M L → Wp E d 134 124 [.ref 74, .int v1, .int v2, .int v3, .int v4, .int v5, .int v6, .int v7, .null] [] M L Q := by
  intro n_
  induction n_ with
  | zero => intro v1 v2 v3 v4 v5 v6 v7 M L hP; exact False.elim hP
  | succ n_ ih =>
    intro v1 v2 v3 v4 v5 v6 v7 M L hP
    unfold PL_X10_isFreeAt_124 at hP
    refine wp_seg (pc' := 130) [.iload 7, .aload 0, .getfield 644] (by decide +kernel) (?_ : Wp E d 134 130 [.ref 74, .int v1, .int v2, .int v3, .int v4, .int v5, .int v6, .int v7, .null] [.int (M 74 4), .int v7] M L Q)
    refine wp_icmpge (off := 37) 167 (by decide +kernel) (by decide) (fun c_3 => ?_) (fun c_3 => ?_)
    · have hP := hP.1 c_3
      obtain ⟨a_4, hP⟩ := hP
      refine wp_seg (pc' := 175) [.iload 4, .aload 0, .getfield 648, .iload 3, .iaload] (by decide +kernel) (show aok 80 0 v3 ∧ Wp E d 134 175 [.ref 74, .int v1, .int v2, .int v3, .int v4, .int v5, .int v6, .int v7, .null] [.int (M 80 v3.toNatClampNeg), .int v4] M L Q from ⟨⟨rfl, a_4⟩, ?_⟩)
      refine wp_seg (pc' := 178) [.ishr, .iconst 1, .iand] (by decide +kernel) (?_ : Wp E d 134 178 [.ref 74, .int v1, .int v2, .int v3, .int v4, .int v5, .int v6, .int v7, .null] [.int ((v4 >>> ((M 80 v3.toNatClampNeg) &&& 31)) &&& (Int32.ofInt 1))] M L Q)
      refine wp_ifne (off := 33) 211 (by decide +kernel) (by decide) (fun c_5 => ?_) (fun c_5 => ?_)
      · have hP := hP.2 c_5
        refine wp_seg (pc' := 212) [.iconst 0] (by decide +kernel) (?_ : Wp E d 134 212 [.ref 74, .int v1, .int v2, .int v3, .int v4, .int v5, .int v6, .int v7, .null] [.int (Int32.ofInt 0)] M L Q)
        exact wp_zret (by decide +kernel) rfl (by decide) (hK _ _ _ hP)
      · have hP := hP.1 c_5
        refine wp_seg (pc' := 189) [.iload 4, .aload 0, .getfield 649, .iload 3, .iaload] (by decide +kernel) (show aok 81 0 v3 ∧ Wp E d 134 189 [.ref 74, .int v1, .int v2, .int v3, .int v4, .int v5, .int v6, .int v7, .null] [.int (M 81 v3.toNatClampNeg), .int v4] M L Q from ⟨⟨rfl, a_4⟩, ?_⟩)
        refine wp_seg (pc' := 192) [.ishr, .iconst 1, .iand] (by decide +kernel) (?_ : Wp E d 134 192 [.ref 74, .int v1, .int v2, .int v3, .int v4, .int v5, .int v6, .int v7, .null] [.int ((v4 >>> ((M 81 v3.toNatClampNeg) &&& 31)) &&& (Int32.ofInt 1))] M L Q)
        refine wp_ifne (off := 19) 211 (by decide +kernel) (by decide) (fun c_6 => ?_) (fun c_6 => ?_)
        · have hP := hP.2 c_6
          refine wp_seg (pc' := 212) [.iconst 0] (by decide +kernel) (?_ : Wp E d 134 212 [.ref 74, .int v1, .int v2, .int v3, .int v4, .int v5, .int v6, .int v7, .null] [.int (Int32.ofInt 0)] M L Q)
          exact wp_zret (by decide +kernel) rfl (by decide) (hK _ _ _ hP)
        · have hP := hP.1 c_6
          refine wp_seg (pc' := 203) [.iload 6, .aload 0, .getfield 677, .iload 3, .iaload] (by decide +kernel) (show aok 99 0 v3 ∧ Wp E d 134 203 [.ref 74, .int v1, .int v2, .int v3, .int v4, .int v5, .int v6, .int v7, .null] [.int (M 99 v3.toNatClampNeg), .int v6] M L Q from ⟨⟨rfl, a_4⟩, ?_⟩)
          refine wp_seg (pc' := 204) [.iand] (by decide +kernel) (?_ : Wp E d 134 204 [.ref 74, .int v1, .int v2, .int v3, .int v4, .int v5, .int v6, .int v7, .null] [.int (v6 &&& (M 99 v3.toNatClampNeg))] M L Q)
          refine wp_ifne (off := 7) 211 (by decide +kernel) (by decide) (fun c_7 => ?_) (fun c_7 => ?_)
          · have hP := hP.2 c_7
            refine wp_seg (pc' := 212) [.iconst 0] (by decide +kernel) (?_ : Wp E d 134 212 [.ref 74, .int v1, .int v2, .int v3, .int v4, .int v5, .int v6, .int v7, .null] [.int (Int32.ofInt 0)] M L Q)
            exact wp_zret (by decide +kernel) rfl (by decide) (hK _ _ _ hP)
          · have hP := hP.1 c_7
            refine wp_seg (pc' := 212) [.iconst 1, .goto 0] (by decide +kernel) (?_ : Wp E d 134 212 [.ref 74, .int v1, .int v2, .int v3, .int v4, .int v5, .int v6, .int v7, .null] [.int (Int32.ofInt 1)] M L Q)
            exact wp_zret (by decide +kernel) rfl (by decide) (hK _ _ _ hP)
    · have hP := hP.2 c_3
      obtain ⟨a_8, hP⟩ := hP
      refine wp_seg (pc' := 142) [.iload 6, .aload 0, .getfield 642, .iload 7, .iaload] (by decide +kernel) (show aok 77 0 v7 ∧ Wp E d 134 142 [.ref 74, .int v1, .int v2, .int v3, .int v4, .int v5, .int v6, .int v7, .null] [.int (M 77 v7.toNatClampNeg), .int v6] M L Q from ⟨⟨rfl, a_8⟩, ?_⟩)
      refine wp_seg (pc' := 144) [.iconst 61] (by decide +kernel) (?_ : Wp E d 134 144 [.ref 74, .int v1, .int v2, .int v3, .int v4, .int v5, .int v6, .int v7, .null] [.int (Int32.ofInt 61), .int (M 77 v7.toNatClampNeg), .int v6] M L Q)
      refine wp_icmpeq (off := 13) 157 (by decide +kernel) (by decide) (fun c_9 => ?_) (fun c_9 => ?_)
      · have hP := hP.1 c_9
        refine wp_seg (pc' := 124) [.iconst 0, .ior, .istore 6, .iinc 7 1, .goto 0] (by decide +kernel) (?_ : Wp E d 134 124 [.ref 74, .int v1, .int v2, .int v3, .int v4, .int v5, .int (v6 ||| (Int32.ofInt 0)), .int (v7 + Int32.ofInt 1), .null] [] M L Q)
        exact ih v1 v2 v3 v4 v5 (v6 ||| (Int32.ofInt 0)) (v7 + Int32.ofInt 1) M L hP
      · have hP := hP.2 c_9
        refine wp_seg (pc' := 124) [.iload 5, .iconst 1, .iload 7, .ishl, .iand, .goto 0, .ior, .istore 6, .iinc 7 1, .goto 0] (by decide +kernel) (?_ : Wp E d 134 124 [.ref 74, .int v1, .int v2, .int v3, .int v4, .int v5, .int (v6 ||| (v5 &&& ((Int32.ofInt 1) <<< (v7 &&& 31)))), .int (v7 + Int32.ofInt 1), .null] [] M L Q)
        exact ih v1 v2 v3 v4 v5 (v6 ||| (v5 &&& ((Int32.ofInt 1) <<< (v7 &&& 31)))) (v7 + Int32.ofInt 1) M L hP
def PL_X10_isFreeAt_19 (K : Int32 → Mem → LMem → Prop)  : Nat → Int32 → Int32 → Int32 → Int32 → Int32 → Int32 → Int32 → Mem → LMem → Prop
  | 0, _, _, _, _, _, _, _, _, _ => False
  | n_ + 1, v1, v2, v3, v4, v5, v6, v7, M, L => ((v1 ≤ v7 → PL_X10_isFreeAt_124 K 100000 v1 v2 v3 v4 v5 v6 (Int32.ofInt 0) M L) ∧ (¬ (v1 ≤ v7) → (vp_in v7 5 ∧ (vp_in (M 102 v7.toNatClampNeg) 5 ∧ ((v2 < (M 103 ((M 102 v7.toNatClampNeg).toNatClampNeg)) → PL_X10_isFreeAt_19 K n_ v1 v2 v3 v4 v5 v6 (v7 + Int32.ofInt 1) M L) ∧ (¬ (v2 < (M 103 ((M 102 v7.toNatClampNeg).toNatClampNeg))) → ((((M 103 ((M 102 v7.toNatClampNeg).toNatClampNeg)) + (M 82 ((M 102 v7.toNatClampNeg).toNatClampNeg))) ≤ v2 → PL_X10_isFreeAt_19 K n_ v1 v2 v3 v4 v5 v6 (v7 + Int32.ofInt 1) M L) ∧ (¬ (((M 103 ((M 102 v7.toNatClampNeg).toNatClampNeg)) + (M 82 ((M 102 v7.toNatClampNeg).toNatClampNeg))) ≤ v2) → PL_X10_isFreeAt_19 K n_ v1 v2 v3 (v4 ||| (((Int32.ofInt 1) <<< ((M 80 ((M 102 v7.toNatClampNeg).toNatClampNeg)) &&& 31)) ||| ((Int32.ofInt 1) <<< ((M 81 ((M 102 v7.toNatClampNeg).toNatClampNeg)) &&& 31)))) (v5 ||| (M 99 ((M 102 v7.toNatClampNeg).toNatClampNeg))) (v6 ||| (v5 &&& (M 99 ((M 102 v7.toNatClampNeg).toNatClampNeg)))) (v7 + Int32.ofInt 1) M L))))))))
theorem tl_X10_isFreeAt_19 {E : VE} {d : Nat} {Q : QQ} {K : Int32 → Mem → LMem → Prop}  (hK : ∀ (v : Int32) (M : Mem) (L : LMem), K v M L → Q (some (.int v)) M L)  : ∀ (n_ : Nat) (v1 : Int32) (v2 : Int32) (v3 : Int32) (v4 : Int32) (v5 : Int32) (v6 : Int32) (v7 : Int32) (M : Mem) (L : LMem), PL_X10_isFreeAt_19 K n_ v1 v2 v3 v4 v5 v6 v7 M L → Wp E d 134 19 [.ref 74, .int v1, .int v2, .int v3, .int v4, .int v5, .int v6, .int v7, .null] [] M L Q := by
  intro n_
  induction n_ with
  | zero => intro v1 v2 v3 v4 v5 v6 v7 M L hP; exact False.elim hP
  | succ n_ ih =>
    intro v1 v2 v3 v4 v5 v6 v7 M L hP
    unfold PL_X10_isFreeAt_19 at hP
    refine wp_seg (pc' := 22) [.iload 7, .iload 1] (by decide +kernel) (?_ : Wp E d 134 22 [.ref 74, .int v1, .int v2, .int v3, .int v4, .int v5, .int v6, .int v7, .null] [.int v1, .int v7] M L Q)
    refine wp_icmpge (off := 99) 121 (by decide +kernel) (by decide) (fun c_2 => ?_) (fun c_2 => ?_)
    · have hP := hP.1 c_2
      refine wp_seg (pc' := 124) [.iconst 0, .istore 7] (by decide +kernel) (?_ : Wp E d 134 124 [.ref 74, .int v1, .int v2, .int v3, .int v4, .int v5, .int v6, .int (Int32.ofInt 0), .null] [] M L Q)
      exact tl_X10_isFreeAt_124 hK 100000 v1 v2 v3 v4 v5 v6 (Int32.ofInt 0) M L hP
    · have hP := hP.2 c_2
      obtain ⟨a_10, hP⟩ := hP
      refine wp_seg (pc' := 32) [.aload 0, .getfield 680, .iload 7, .iaload] (by decide +kernel) (show aok 102 0 v7 ∧ Wp E d 134 32 [.ref 74, .int v1, .int v2, .int v3, .int v4, .int v5, .int v6, .int v7, .null] [.int (M 102 v7.toNatClampNeg)] M L Q from ⟨⟨rfl, a_10⟩, ?_⟩)
      obtain ⟨a_11, hP⟩ := hP
      refine wp_seg (pc' := 42) [.istore 8, .iload 2, .aload 0, .getfield 681, .iload 8, .iaload] (by decide +kernel) (show aok 103 0 (M 102 v7.toNatClampNeg) ∧ Wp E d 134 42 [.ref 74, .int v1, .int v2, .int v3, .int v4, .int v5, .int v6, .int v7, .int (M 102 v7.toNatClampNeg)] [.int (M 103 ((M 102 v7.toNatClampNeg).toNatClampNeg)), .int v2] M L Q from ⟨⟨rfl, a_11⟩, ?_⟩)
      refine wp_icmplt (off := 73) 115 (by decide +kernel) (by decide) (fun c_12 => ?_) (fun c_12 => ?_)
      · have hP := hP.1 c_12
        refine wp_seg (pc' := 19) [.iinc 7 1, .goto 0] (by decide +kernel) (?_ : Wp E d 134 19 [.ref 74, .int v1, .int v2, .int v3, .int v4, .int v5, .int v6, .int (v7 + Int32.ofInt 1), .int (M 102 v7.toNatClampNeg)] [] M L Q)
        refine wp_drop (lo := [.ref 74, .int v1, .int v2, .int v3, .int v4, .int v5, .int v6, .int (v7 + Int32.ofInt 1), .null]) ⟨Or.inr rfl, Or.inr rfl, Or.inr rfl, Or.inr rfl, Or.inr rfl, Or.inr rfl, Or.inr rfl, Or.inr rfl, Or.inl rfl, trivial⟩ ?_
        exact ih v1 v2 v3 v4 v5 v6 (v7 + Int32.ofInt 1) M L hP
      · have hP := hP.2 c_12
        refine wp_seg (pc' := 53) [.iload 2, .aload 0, .getfield 681, .iload 8, .iaload] (by decide +kernel) (show aok 103 0 (M 102 v7.toNatClampNeg) ∧ Wp E d 134 53 [.ref 74, .int v1, .int v2, .int v3, .int v4, .int v5, .int v6, .int v7, .int (M 102 v7.toNatClampNeg)] [.int (M 103 ((M 102 v7.toNatClampNeg).toNatClampNeg)), .int v2] M L Q from ⟨⟨rfl, a_11⟩, ?_⟩)
        refine wp_seg (pc' := 60) [.aload 0, .getfield 650, .iload 8, .iaload] (by decide +kernel) (show aok 82 0 (M 102 v7.toNatClampNeg) ∧ Wp E d 134 60 [.ref 74, .int v1, .int v2, .int v3, .int v4, .int v5, .int v6, .int v7, .int (M 102 v7.toNatClampNeg)] [.int (M 82 ((M 102 v7.toNatClampNeg).toNatClampNeg)), .int (M 103 ((M 102 v7.toNatClampNeg).toNatClampNeg)), .int v2] M L Q from ⟨⟨rfl, a_11⟩, ?_⟩)
        refine wp_seg (pc' := 61) [.iadd] (by decide +kernel) (?_ : Wp E d 134 61 [.ref 74, .int v1, .int v2, .int v3, .int v4, .int v5, .int v6, .int v7, .int (M 102 v7.toNatClampNeg)] [.int ((M 103 ((M 102 v7.toNatClampNeg).toNatClampNeg)) + (M 82 ((M 102 v7.toNatClampNeg).toNatClampNeg))), .int v2] M L Q)
        refine wp_icmpge (off := 54) 115 (by decide +kernel) (by decide) (fun c_13 => ?_) (fun c_13 => ?_)
        · have hP := hP.1 c_13
          refine wp_seg (pc' := 19) [.iinc 7 1, .goto 0] (by decide +kernel) (?_ : Wp E d 134 19 [.ref 74, .int v1, .int v2, .int v3, .int v4, .int v5, .int v6, .int (v7 + Int32.ofInt 1), .int (M 102 v7.toNatClampNeg)] [] M L Q)
          refine wp_drop (lo := [.ref 74, .int v1, .int v2, .int v3, .int v4, .int v5, .int v6, .int (v7 + Int32.ofInt 1), .null]) ⟨Or.inr rfl, Or.inr rfl, Or.inr rfl, Or.inr rfl, Or.inr rfl, Or.inr rfl, Or.inr rfl, Or.inr rfl, Or.inl rfl, trivial⟩ ?_
          exact ih v1 v2 v3 v4 v5 v6 (v7 + Int32.ofInt 1) M L hP
        · have hP := hP.2 c_13
          refine wp_seg (pc' := 74) [.iload 4, .iconst 1, .aload 0, .getfield 648, .iload 8, .iaload] (by decide +kernel) (show aok 80 0 (M 102 v7.toNatClampNeg) ∧ Wp E d 134 74 [.ref 74, .int v1, .int v2, .int v3, .int v4, .int v5, .int v6, .int v7, .int (M 102 v7.toNatClampNeg)] [.int (M 80 ((M 102 v7.toNatClampNeg).toNatClampNeg)), .int (Int32.ofInt 1), .int v4] M L Q from ⟨⟨rfl, a_11⟩, ?_⟩)
          refine wp_seg (pc' := 83) [.ishl, .iconst 1, .aload 0, .getfield 649, .iload 8, .iaload] (by decide +kernel) (show aok 81 0 (M 102 v7.toNatClampNeg) ∧ Wp E d 134 83 [.ref 74, .int v1, .int v2, .int v3, .int v4, .int v5, .int v6, .int v7, .int (M 102 v7.toNatClampNeg)] [.int (M 81 ((M 102 v7.toNatClampNeg).toNatClampNeg)), .int (Int32.ofInt 1), .int ((Int32.ofInt 1) <<< ((M 80 ((M 102 v7.toNatClampNeg).toNatClampNeg)) &&& 31)), .int v4] M L Q from ⟨⟨rfl, a_11⟩, ?_⟩)
          refine wp_seg (pc' := 99) [.ishl, .ior, .ior, .istore 4, .iload 6, .iload 5, .aload 0, .getfield 677, .iload 8, .iaload] (by decide +kernel) (show aok 99 0 (M 102 v7.toNatClampNeg) ∧ Wp E d 134 99 [.ref 74, .int v1, .int v2, .int v3, .int (v4 ||| (((Int32.ofInt 1) <<< ((M 80 ((M 102 v7.toNatClampNeg).toNatClampNeg)) &&& 31)) ||| ((Int32.ofInt 1) <<< ((M 81 ((M 102 v7.toNatClampNeg).toNatClampNeg)) &&& 31)))), .int v5, .int v6, .int v7, .int (M 102 v7.toNatClampNeg)] [.int (M 99 ((M 102 v7.toNatClampNeg).toNatClampNeg)), .int v5, .int v6] M L Q from ⟨⟨rfl, a_11⟩, ?_⟩)
          refine wp_seg (pc' := 112) [.iand, .ior, .istore 6, .iload 5, .aload 0, .getfield 677, .iload 8, .iaload] (by decide +kernel) (show aok 99 0 (M 102 v7.toNatClampNeg) ∧ Wp E d 134 112 [.ref 74, .int v1, .int v2, .int v3, .int (v4 ||| (((Int32.ofInt 1) <<< ((M 80 ((M 102 v7.toNatClampNeg).toNatClampNeg)) &&& 31)) ||| ((Int32.ofInt 1) <<< ((M 81 ((M 102 v7.toNatClampNeg).toNatClampNeg)) &&& 31)))), .int v5, .int (v6 ||| (v5 &&& (M 99 ((M 102 v7.toNatClampNeg).toNatClampNeg)))), .int v7, .int (M 102 v7.toNatClampNeg)] [.int (M 99 ((M 102 v7.toNatClampNeg).toNatClampNeg)), .int v5] M L Q from ⟨⟨rfl, a_11⟩, ?_⟩)
          refine wp_seg (pc' := 19) [.ior, .istore 5, .iinc 7 1, .goto 0] (by decide +kernel) (?_ : Wp E d 134 19 [.ref 74, .int v1, .int v2, .int v3, .int (v4 ||| (((Int32.ofInt 1) <<< ((M 80 ((M 102 v7.toNatClampNeg).toNatClampNeg)) &&& 31)) ||| ((Int32.ofInt 1) <<< ((M 81 ((M 102 v7.toNatClampNeg).toNatClampNeg)) &&& 31)))), .int (v5 ||| (M 99 ((M 102 v7.toNatClampNeg).toNatClampNeg))), .int (v6 ||| (v5 &&& (M 99 ((M 102 v7.toNatClampNeg).toNatClampNeg)))), .int (v7 + Int32.ofInt 1), .int (M 102 v7.toNatClampNeg)] [] M L Q)
          refine wp_drop (lo := [.ref 74, .int v1, .int v2, .int v3, .int (v4 ||| (((Int32.ofInt 1) <<< ((M 80 ((M 102 v7.toNatClampNeg).toNatClampNeg)) &&& 31)) ||| ((Int32.ofInt 1) <<< ((M 81 ((M 102 v7.toNatClampNeg).toNatClampNeg)) &&& 31)))), .int (v5 ||| (M 99 ((M 102 v7.toNatClampNeg).toNatClampNeg))), .int (v6 ||| (v5 &&& (M 99 ((M 102 v7.toNatClampNeg).toNatClampNeg)))), .int (v7 + Int32.ofInt 1), .null]) ⟨Or.inr rfl, Or.inr rfl, Or.inr rfl, Or.inr rfl, Or.inr rfl, Or.inr rfl, Or.inr rfl, Or.inr rfl, Or.inl rfl, trivial⟩ ?_
          exact ih v1 v2 v3 (v4 ||| (((Int32.ofInt 1) <<< ((M 80 ((M 102 v7.toNatClampNeg).toNatClampNeg)) &&& 31)) ||| ((Int32.ofInt 1) <<< ((M 81 ((M 102 v7.toNatClampNeg).toNatClampNeg)) &&& 31)))) (v5 ||| (M 99 ((M 102 v7.toNatClampNeg).toNatClampNeg))) (v6 ||| (v5 &&& (M 99 ((M 102 v7.toNatClampNeg).toNatClampNeg)))) (v7 + Int32.ofInt 1) M L hP
def P_X10_isFreeAt (x1 : Int32) (x2 : Int32) (M : Mem) (L : LMem) (K : Int32 → Mem → LMem → Prop) : Prop := (vp_in x1 5 ∧ PL_X10_isFreeAt_19 K 100000 x1 x2 (M 102 x1.toNatClampNeg) (Int32.ofInt 0) (Int32.ofInt 0) (Int32.ofInt 0) (Int32.ofInt 0) M L)
theorem t_X10_isFreeAt {E : VE} {d : Nat} {Q : QQ} {K : Int32 → Mem → LMem → Prop} {x1 : Int32} {x2 : Int32} {M : Mem} {L : LMem} (hP : P_X10_isFreeAt x1 x2 M L K) (hK : ∀ (v : Int32) (M : Mem) (L : LMem), K v M L → Q (some (.int v)) M L) : Wp E d 134 0 [.ref 74, .int x1, .int x2, .null, .null, .null, .null, .null, .null] [] M L Q := by
  unfold P_X10_isFreeAt at hP
  obtain ⟨a_1, hP⟩ := hP
  refine wp_seg (pc' := 6) [.aload 0, .getfield 680, .iload 1, .iaload] (by decide +kernel) (show aok 102 0 x1 ∧ Wp E d 134 6 [.ref 74, .int x1, .int x2, .null, .null, .null, .null, .null, .null] [.int (M 102 x1.toNatClampNeg)] M L Q from ⟨⟨rfl, a_1⟩, ?_⟩)
  refine wp_seg (pc' := 19) [.istore 3, .iconst 0, .istore 4, .iconst 0, .istore 5, .iconst 0, .istore 6, .iconst 0, .istore 7] (by decide +kernel) (?_ : Wp E d 134 19 [.ref 74, .int x1, .int x2, .int (M 102 x1.toNatClampNeg), .int (Int32.ofInt 0), .int (Int32.ofInt 0), .int (Int32.ofInt 0), .int (Int32.ofInt 0), .null] [] M L Q)
  exact tl_X10_isFreeAt_19 hK 100000 x1 x2 (M 102 x1.toNatClampNeg) (Int32.ofInt 0) (Int32.ofInt 0) (Int32.ofInt 0) (Int32.ofInt 0) M L hP

def PL_X10_goOrder_25 (K : Int32 → Mem → LMem → Prop) (C_4 : Int32 → Int32 → Mem → LMem → Prop) : Nat → Int32 → Int32 → Int32 → Int32 → Int32 → Mem → LMem → Prop
  | 0, _, _, _, _, _, _, _ => False
  | n_ + 1, v1, v2, v3, v4, v5, M, L => (vp_in v3 5 ∧ (((M 82 v3.toNatClampNeg) ≤ v4 → ((v5 ≤ v1 → C_4 v1 (v2 + Int32.ofInt 1) (mput M 103 v3.toNatClampNeg (v5 - (M 82 v3.toNatClampNeg))) L) ∧ (¬ (v5 ≤ v1) → C_4 v5 (v2 + Int32.ofInt 1) (mput M 103 v3.toNatClampNeg (v5 - (M 82 v3.toNatClampNeg))) L))) ∧ (¬ ((M 82 v3.toNatClampNeg) ≤ v4) → P_X10_isFreeAt v2 v5 M L (fun v_8 M_6 L_7 => ((v_8 = 0 → PL_X10_goOrder_25 K C_4 n_ v1 v2 v3 (Int32.ofInt 0) (v5 + Int32.ofInt 1) M_6 L_7) ∧ (¬ (v_8 = 0) → PL_X10_goOrder_25 K C_4 n_ v1 v2 v3 (v4 + (Int32.ofInt 1)) (v5 + Int32.ofInt 1) M_6 L_7))))))
theorem tl_X10_goOrder_25 {E : VE} {d : Nat} {Q : QQ} {K : Int32 → Mem → LMem → Prop} {C_4 : Int32 → Int32 → Mem → LMem → Prop} (hK : ∀ (v : Int32) (M : Mem) (L : LMem), K v M L → Q (some (.int v)) M L) (hC_4 : ∀ (v1 : Int32) (v2 : Int32) (M : Mem) (L : LMem), C_4 v1 v2 M L → Wp E (d + 1) 135 4 [.ref 74, .int v1, .int v2, .null, .null, .null] [] M L Q) : ∀ (n_ : Nat) (v1 : Int32) (v2 : Int32) (v3 : Int32) (v4 : Int32) (v5 : Int32) (M : Mem) (L : LMem), PL_X10_goOrder_25 K C_4 n_ v1 v2 v3 v4 v5 M L → Wp E (d + 1) 135 25 [.ref 74, .int v1, .int v2, .int v3, .int v4, .int v5] [] M L Q := by
  intro n_
  induction n_ with
  | zero => intro v1 v2 v3 v4 v5 M L hP; exact False.elim hP
  | succ n_ ih =>
    intro v1 v2 v3 v4 v5 M L hP
    unfold PL_X10_goOrder_25 at hP
    obtain ⟨a_3, hP⟩ := hP
    refine wp_seg (pc' := 33) [.iload 4, .aload 0, .getfield 650, .iload 3, .iaload] (by decide +kernel) (show aok 82 0 v3 ∧ Wp E (d + 1) 135 33 [.ref 74, .int v1, .int v2, .int v3, .int v4, .int v5] [.int (M 82 v3.toNatClampNeg), .int v4] M L Q from ⟨⟨rfl, a_3⟩, ?_⟩)
    refine wp_icmpge (off := 29) 62 (by decide +kernel) (by decide) (fun c_4 => ?_) (fun c_4 => ?_)
    · have hP := hP.1 c_4
      refine wp_seg (pc' := 75) [.aload 0, .getfield 681, .iload 3, .iload 5, .aload 0, .getfield 650, .iload 3, .iaload] (by decide +kernel) (show aok 82 0 v3 ∧ Wp E (d + 1) 135 75 [.ref 74, .int v1, .int v2, .int v3, .int v4, .int v5] [.int (M 82 v3.toNatClampNeg), .int v5, .int v3, .ref 103] M L Q from ⟨⟨rfl, a_3⟩, ?_⟩)
      refine wp_seg (pc' := 77) [.isub, .iastore] (by decide +kernel) (show aok 103 0 v3 ∧ Wp E (d + 1) 135 77 [.ref 74, .int v1, .int v2, .int v3, .int v4, .int v5] [] (mput M 103 v3.toNatClampNeg (v5 - (M 82 v3.toNatClampNeg))) L Q from ⟨⟨rfl, a_3⟩, ?_⟩)
      refine wp_seg (pc' := 80) [.iload 5, .iload 1] (by decide +kernel) (?_ : Wp E (d + 1) 135 80 [.ref 74, .int v1, .int v2, .int v3, .int v4, .int v5] [.int v1, .int v5] (mput M 103 v3.toNatClampNeg (v5 - (M 82 v3.toNatClampNeg))) L Q)
      refine wp_icmple (off := 8) 88 (by decide +kernel) (by decide) (fun c_5 => ?_) (fun c_5 => ?_)
      · have hP := hP.1 c_5
        refine wp_seg (pc' := 4) [.iload 1, .istore 1, .iinc 2 1, .goto 0] (by decide +kernel) (?_ : Wp E (d + 1) 135 4 [.ref 74, .int v1, .int (v2 + Int32.ofInt 1), .int v3, .int v4, .int v5] [] (mput M 103 v3.toNatClampNeg (v5 - (M 82 v3.toNatClampNeg))) L Q)
        refine wp_drop (lo := [.ref 74, .int v1, .int (v2 + Int32.ofInt 1), .null, .null, .null]) ⟨Or.inr rfl, Or.inr rfl, Or.inr rfl, Or.inl rfl, Or.inl rfl, Or.inl rfl, trivial⟩ ?_
        exact hC_4 v1 (v2 + Int32.ofInt 1) (mput M 103 v3.toNatClampNeg (v5 - (M 82 v3.toNatClampNeg))) L hP
      · have hP := hP.2 c_5
        refine wp_seg (pc' := 4) [.iload 5, .goto 0, .istore 1, .iinc 2 1, .goto 0] (by decide +kernel) (?_ : Wp E (d + 1) 135 4 [.ref 74, .int v5, .int (v2 + Int32.ofInt 1), .int v3, .int v4, .int v5] [] (mput M 103 v3.toNatClampNeg (v5 - (M 82 v3.toNatClampNeg))) L Q)
        refine wp_drop (lo := [.ref 74, .int v5, .int (v2 + Int32.ofInt 1), .null, .null, .null]) ⟨Or.inr rfl, Or.inr rfl, Or.inr rfl, Or.inl rfl, Or.inl rfl, Or.inl rfl, trivial⟩ ?_
        exact hC_4 v5 (v2 + Int32.ofInt 1) (mput M 103 v3.toNatClampNeg (v5 - (M 82 v3.toNatClampNeg))) L hP
    · have hP := hP.2 c_4
      refine wp_seg (pc' := 40) [.aload 0, .iload 2, .iload 5] (by decide +kernel) (?_ : Wp E (d + 1) 135 40 [.ref 74, .int v1, .int v2, .int v3, .int v4, .int v5] [.int v5, .int v2, .ref 74] M L Q)
      refine wp_callV 134 74 [.int v2, .int v5] (i := 258) (by decide +kernel) (by decide +kernel) (by decide +kernel) (by decide +kernel) rfl rfl rfl (rest := []) rfl rfl ?_
      refine t_X10_isFreeAt hP (fun v_8 M_6 L_7 hP => ?_)
      show Wp E (d + 1) 135 43 [.ref 74, .int v1, .int v2, .int v3, .int v4, .int v5] [.int v_8] M_6 L_7 Q
      refine wp_ifeq (off := 10) 53 (by decide +kernel) (by decide) (fun c_9 => ?_) (fun c_9 => ?_)
      · have hP := hP.1 c_9
        refine wp_seg (pc' := 25) [.iconst 0, .istore 4, .iinc 5 1, .goto 0] (by decide +kernel) (?_ : Wp E (d + 1) 135 25 [.ref 74, .int v1, .int v2, .int v3, .int (Int32.ofInt 0), .int (v5 + Int32.ofInt 1)] [] M_6 L_7 Q)
        exact ih v1 v2 v3 (Int32.ofInt 0) (v5 + Int32.ofInt 1) M_6 L_7 hP
      · have hP := hP.2 c_9
        refine wp_seg (pc' := 25) [.iload 4, .iconst 1, .iadd, .goto 0, .istore 4, .iinc 5 1, .goto 0] (by decide +kernel) (?_ : Wp E (d + 1) 135 25 [.ref 74, .int v1, .int v2, .int v3, .int (v4 + (Int32.ofInt 1)), .int (v5 + Int32.ofInt 1)] [] M_6 L_7 Q)
        exact ih v1 v2 v3 (v4 + (Int32.ofInt 1)) (v5 + Int32.ofInt 1) M_6 L_7 hP
def PL_X10_goOrder_4 (K : Int32 → Mem → LMem → Prop)  : Nat → Int32 → Int32 → Mem → LMem → Prop
  | 0, _, _, _, _ => False
  | n_ + 1, v1, v2, M, L => (((M 74 12) ≤ v2 → K v1 M L) ∧ (¬ ((M 74 12) ≤ v2) → (vp_in v2 5 ∧ PL_X10_goOrder_25 K (PL_X10_goOrder_4 K n_) 100000 v1 v2 (M 102 v2.toNatClampNeg) (Int32.ofInt 0) (Int32.ofInt 0) M L)))
theorem tl_X10_goOrder_4 {E : VE} {d : Nat} {Q : QQ} {K : Int32 → Mem → LMem → Prop}  (hK : ∀ (v : Int32) (M : Mem) (L : LMem), K v M L → Q (some (.int v)) M L)  : ∀ (n_ : Nat) (v1 : Int32) (v2 : Int32) (M : Mem) (L : LMem), PL_X10_goOrder_4 K n_ v1 v2 M L → Wp E (d + 1) 135 4 [.ref 74, .int v1, .int v2, .null, .null, .null] [] M L Q := by
  intro n_
  induction n_ with
  | zero => intro v1 v2 M L hP; exact False.elim hP
  | succ n_ ih =>
    intro v1 v2 M L hP
    unfold PL_X10_goOrder_4 at hP
    refine wp_seg (pc' := 9) [.iload 2, .aload 0, .getfield 652] (by decide +kernel) (?_ : Wp E (d + 1) 135 9 [.ref 74, .int v1, .int v2, .null, .null, .null] [.int (M 74 12), .int v2] M L Q)
    refine wp_icmpge (off := 87) 96 (by decide +kernel) (by decide) (fun c_1 => ?_) (fun c_1 => ?_)
    · have hP := hP.1 c_1
      refine wp_seg (pc' := 97) [.iload 1] (by decide +kernel) (?_ : Wp E (d + 1) 135 97 [.ref 74, .int v1, .int v2, .null, .null, .null] [.int v1] M L Q)
      exact wp_iret (by decide +kernel) rfl (hK _ _ _ hP)
    · have hP := hP.2 c_1
      obtain ⟨a_2, hP⟩ := hP
      refine wp_seg (pc' := 18) [.aload 0, .getfield 680, .iload 2, .iaload] (by decide +kernel) (show aok 102 0 v2 ∧ Wp E (d + 1) 135 18 [.ref 74, .int v1, .int v2, .null, .null, .null] [.int (M 102 v2.toNatClampNeg)] M L Q from ⟨⟨rfl, a_2⟩, ?_⟩)
      refine wp_seg (pc' := 25) [.istore 3, .iconst 0, .istore 4, .iconst 0, .istore 5] (by decide +kernel) (?_ : Wp E (d + 1) 135 25 [.ref 74, .int v1, .int v2, .int (M 102 v2.toNatClampNeg), .int (Int32.ofInt 0), .int (Int32.ofInt 0)] [] M L Q)
      exact tl_X10_goOrder_25 hK (fun v1 v2 M L hP => ih v1 v2 M L hP) 100000 v1 v2 (M 102 v2.toNatClampNeg) (Int32.ofInt 0) (Int32.ofInt 0) M L hP
def P_X10_goOrder (M : Mem) (L : LMem) (K : Int32 → Mem → LMem → Prop) : Prop := PL_X10_goOrder_4 K 100000 (Int32.ofInt 0) (Int32.ofInt 0) M L
theorem t_X10_goOrder {E : VE} {d : Nat} {Q : QQ} {K : Int32 → Mem → LMem → Prop} {M : Mem} {L : LMem} (hP : P_X10_goOrder M L K) (hK : ∀ (v : Int32) (M : Mem) (L : LMem), K v M L → Q (some (.int v)) M L) : Wp E (d + 1) 135 0 [.ref 74, .null, .null, .null, .null, .null] [] M L Q := by
  unfold P_X10_goOrder at hP
  refine wp_seg (pc' := 4) [.iconst 0, .istore 1, .iconst 0, .istore 2] (by decide +kernel) (?_ : Wp E (d + 1) 135 4 [.ref 74, .int (Int32.ofInt 0), .int (Int32.ofInt 0), .null, .null, .null] [] M L Q)
  exact tl_X10_goOrder_4 hK 100000 (Int32.ofInt 0) (Int32.ofInt 0) M L hP

def PL_X10_orders_4 (K : Int32 → Mem → LMem → Prop)  : Nat → Int32 → Int32 → Mem → LMem → Prop
  | 0, _, _, _, _ => False
  | n_ + 1, v1, v2, M, L => (((M 74 12) ≤ v2 → K v1 M L) ∧ (¬ ((M 74 12) ≤ v2) → PL_X10_orders_4 K n_ (v1 * (M 74 12)) (v2 + Int32.ofInt 1) M L))
theorem tl_X10_orders_4 {E : VE} {d : Nat} {Q : QQ} {K : Int32 → Mem → LMem → Prop}  (hK : ∀ (v : Int32) (M : Mem) (L : LMem), K v M L → Q (some (.int v)) M L)  : ∀ (n_ : Nat) (v1 : Int32) (v2 : Int32) (M : Mem) (L : LMem), PL_X10_orders_4 K n_ v1 v2 M L → Wp E d 136 4 [.ref 74, .int v1, .int v2] [] M L Q := by
  intro n_
  induction n_ with
  | zero => intro v1 v2 M L hP; exact False.elim hP
  | succ n_ ih =>
    intro v1 v2 M L hP
    unfold PL_X10_orders_4 at hP
    refine wp_seg (pc' := 9) [.iload 2, .aload 0, .getfield 652] (by decide +kernel) (?_ : Wp E d 136 9 [.ref 74, .int v1, .int v2] [.int (M 74 12), .int v2] M L Q)
    refine wp_icmpge (off := 16) 25 (by decide +kernel) (by decide) (fun c_1 => ?_) (fun c_1 => ?_)
    · have hP := hP.1 c_1
      refine wp_seg (pc' := 26) [.iload 1] (by decide +kernel) (?_ : Wp E d 136 26 [.ref 74, .int v1, .int v2] [.int v1] M L Q)
      exact wp_iret (by decide +kernel) rfl (hK _ _ _ hP)
    · have hP := hP.2 c_1
      refine wp_seg (pc' := 4) [.iload 1, .aload 0, .getfield 652, .imul, .istore 1, .iinc 2 1, .goto 0] (by decide +kernel) (?_ : Wp E d 136 4 [.ref 74, .int (v1 * (M 74 12)), .int (v2 + Int32.ofInt 1)] [] M L Q)
      exact ih (v1 * (M 74 12)) (v2 + Int32.ofInt 1) M L hP
def P_X10_orders (M : Mem) (L : LMem) (K : Int32 → Mem → LMem → Prop) : Prop := PL_X10_orders_4 K 100000 (Int32.ofInt 1) (Int32.ofInt 0) M L
theorem t_X10_orders {E : VE} {d : Nat} {Q : QQ} {K : Int32 → Mem → LMem → Prop} {M : Mem} {L : LMem} (hP : P_X10_orders M L K) (hK : ∀ (v : Int32) (M : Mem) (L : LMem), K v M L → Q (some (.int v)) M L) : Wp E d 136 0 [.ref 74, .null, .null] [] M L Q := by
  unfold P_X10_orders at hP
  refine wp_seg (pc' := 4) [.iconst 1, .istore 1, .iconst 0, .istore 2] (by decide +kernel) (?_ : Wp E d 136 4 [.ref 74, .int (Int32.ofInt 1), .int (Int32.ofInt 0)] [] M L Q)
  exact tl_X10_orders_4 hK 100000 (Int32.ofInt 1) (Int32.ofInt 0) M L hP

def PL_X10_isByDue_4 (K : Int32 → Mem → LMem → Prop)  : Nat → Int32 → Int32 → Mem → LMem → Prop
  | 0, _, _, _, _ => False
  | n_ + 1, v1, v2, M, L => (((M 74 12) ≤ v2 → ((v1 = 0 ∨ v1 = 1) ∧ K v1 M L)) ∧ (¬ ((M 74 12) ≤ v2) → ((v1 = 0 → PL_X10_isByDue_4 K n_ (Int32.ofInt 0) (v2 + Int32.ofInt 1) M L) ∧ (¬ (v1 = 0) → (vp_in v2 5 ∧ (((M 83 v2.toNatClampNeg) < ((M 103 v2.toNatClampNeg) + (M 82 v2.toNatClampNeg)) → PL_X10_isByDue_4 K n_ (Int32.ofInt 0) (v2 + Int32.ofInt 1) M L) ∧ (¬ ((M 83 v2.toNatClampNeg) < ((M 103 v2.toNatClampNeg) + (M 82 v2.toNatClampNeg))) → PL_X10_isByDue_4 K n_ (Int32.ofInt 1) (v2 + Int32.ofInt 1) M L)))))))
theorem tl_X10_isByDue_4 {E : VE} {d : Nat} {Q : QQ} {K : Int32 → Mem → LMem → Prop}  (hK : ∀ (v : Int32) (M : Mem) (L : LMem), K v M L → Q (some (.int v)) M L)  : ∀ (n_ : Nat) (v1 : Int32) (v2 : Int32) (M : Mem) (L : LMem), PL_X10_isByDue_4 K n_ v1 v2 M L → Wp E d 137 4 [.ref 74, .int v1, .int v2] [] M L Q := by
  intro n_
  induction n_ with
  | zero => intro v1 v2 M L hP; exact False.elim hP
  | succ n_ ih =>
    intro v1 v2 M L hP
    unfold PL_X10_isByDue_4 at hP
    refine wp_seg (pc' := 9) [.iload 2, .aload 0, .getfield 652] (by decide +kernel) (?_ : Wp E d 137 9 [.ref 74, .int v1, .int v2] [.int (M 74 12), .int v2] M L Q)
    refine wp_icmpge (off := 41) 50 (by decide +kernel) (by decide) (fun c_1 => ?_) (fun c_1 => ?_)
    · have hP := hP.1 c_1
      refine wp_seg (pc' := 51) [.iload 1] (by decide +kernel) (?_ : Wp E d 137 51 [.ref 74, .int v1, .int v2] [.int v1] M L Q)
      obtain ⟨a_2, hP⟩ := hP
      exact wp_zret (by decide +kernel) rfl a_2 (hK _ _ _ hP)
    · have hP := hP.2 c_1
      refine wp_seg (pc' := 13) [.iload 1] (by decide +kernel) (?_ : Wp E d 137 13 [.ref 74, .int v1, .int v2] [.int v1] M L Q)
      refine wp_ifeq (off := 29) 42 (by decide +kernel) (by decide) (fun c_3 => ?_) (fun c_3 => ?_)
      · have hP := hP.1 c_3
        refine wp_seg (pc' := 4) [.iconst 0, .istore 1, .iinc 2 1, .goto 0] (by decide +kernel) (?_ : Wp E d 137 4 [.ref 74, .int (Int32.ofInt 0), .int (v2 + Int32.ofInt 1)] [] M L Q)
        exact ih (Int32.ofInt 0) (v2 + Int32.ofInt 1) M L hP
      · have hP := hP.2 c_3
        obtain ⟨a_4, hP⟩ := hP
        refine wp_seg (pc' := 22) [.aload 0, .getfield 681, .iload 2, .iaload] (by decide +kernel) (show aok 103 0 v2 ∧ Wp E d 137 22 [.ref 74, .int v1, .int v2] [.int (M 103 v2.toNatClampNeg)] M L Q from ⟨⟨rfl, a_4⟩, ?_⟩)
        refine wp_seg (pc' := 28) [.aload 0, .getfield 650, .iload 2, .iaload] (by decide +kernel) (show aok 82 0 v2 ∧ Wp E d 137 28 [.ref 74, .int v1, .int v2] [.int (M 82 v2.toNatClampNeg), .int (M 103 v2.toNatClampNeg)] M L Q from ⟨⟨rfl, a_4⟩, ?_⟩)
        refine wp_seg (pc' := 35) [.iadd, .aload 0, .getfield 651, .iload 2, .iaload] (by decide +kernel) (show aok 83 0 v2 ∧ Wp E d 137 35 [.ref 74, .int v1, .int v2] [.int (M 83 v2.toNatClampNeg), .int ((M 103 v2.toNatClampNeg) + (M 82 v2.toNatClampNeg))] M L Q from ⟨⟨rfl, a_4⟩, ?_⟩)
        refine wp_icmpgt (off := 7) 42 (by decide +kernel) (by decide) (fun c_5 => ?_) (fun c_5 => ?_)
        · have hP := hP.1 c_5
          refine wp_seg (pc' := 4) [.iconst 0, .istore 1, .iinc 2 1, .goto 0] (by decide +kernel) (?_ : Wp E d 137 4 [.ref 74, .int (Int32.ofInt 0), .int (v2 + Int32.ofInt 1)] [] M L Q)
          exact ih (Int32.ofInt 0) (v2 + Int32.ofInt 1) M L hP
        · have hP := hP.2 c_5
          refine wp_seg (pc' := 4) [.iconst 1, .goto 0, .istore 1, .iinc 2 1, .goto 0] (by decide +kernel) (?_ : Wp E d 137 4 [.ref 74, .int (Int32.ofInt 1), .int (v2 + Int32.ofInt 1)] [] M L Q)
          exact ih (Int32.ofInt 1) (v2 + Int32.ofInt 1) M L hP
def P_X10_isByDue (M : Mem) (L : LMem) (K : Int32 → Mem → LMem → Prop) : Prop := PL_X10_isByDue_4 K 100000 (Int32.ofInt 1) (Int32.ofInt 0) M L
theorem t_X10_isByDue {E : VE} {d : Nat} {Q : QQ} {K : Int32 → Mem → LMem → Prop} {M : Mem} {L : LMem} (hP : P_X10_isByDue M L K) (hK : ∀ (v : Int32) (M : Mem) (L : LMem), K v M L → Q (some (.int v)) M L) : Wp E d 137 0 [.ref 74, .null, .null] [] M L Q := by
  unfold P_X10_isByDue at hP
  refine wp_seg (pc' := 4) [.iconst 1, .istore 1, .iconst 0, .istore 2] (by decide +kernel) (?_ : Wp E d 137 4 [.ref 74, .int (Int32.ofInt 1), .int (Int32.ofInt 0)] [] M L Q)
  exact tl_X10_isByDue_4 hK 100000 (Int32.ofInt 1) (Int32.ofInt 0) M L hP

def PL_X10_soonest_26 (K : Int32 → Mem → LMem → Prop)  : Nat → Int32 → Int32 → Int32 → Int32 → Int32 → Mem → LMem → Prop
  | 0, _, _, _, _, _, _, _ => False
  | n_ + 1, v1, v2, v3, v4, v5, M, L => ((v4 ≤ v5 → P_X10_layOrder v3 M L (fun v_11 M_9 L_10 => ((v1 = (Int32.ofInt (-1)) → K v2 M_9 L_10) ∧ (¬ (v1 = (Int32.ofInt (-1))) → (((f_X10_in M_9 v1.toInt64 (Int64.ofNat 0) (((M_9 74 12) - (Int32.ofInt 1)).toInt64)) = 0 → K (Int32.ofInt (-6)) M_9 L_10) ∧ (¬ ((f_X10_in M_9 v1.toInt64 (Int64.ofNat 0) (((M_9 74 12) - (Int32.ofInt 1)).toInt64)) = 0) → (vp_in v1 5 ∧ K (M_9 102 v1.toNatClampNeg) M_9 L_10))))))) ∧ (¬ (v4 ≤ v5) → P_X10_layOrder v5 M L (fun v_17 M_15 L_16 => ((v_17 = 0 → PL_X10_soonest_26 K n_ v1 v2 v3 v4 (v5 + Int32.ofInt 1) M_15 L_16) ∧ (¬ (v_17 = 0) → P_X10_goOrder M_15 L_16 (fun v_21 M_19 L_20 => ((v2 < 0 → PL_X10_soonest_26 K n_ v1 v_21 v5 v4 (v5 + Int32.ofInt 1) M_19 L_20) ∧ (¬ (v2 < 0) → ((v2 ≤ v_21 → PL_X10_soonest_26 K n_ v1 v2 v3 v4 (v5 + Int32.ofInt 1) M_19 L_20) ∧ (¬ (v2 ≤ v_21) → PL_X10_soonest_26 K n_ v1 v_21 v5 v4 (v5 + Int32.ofInt 1) M_19 L_20))))))))))
theorem tl_X10_soonest_26 {E : VE} {d : Nat} {Q : QQ} {K : Int32 → Mem → LMem → Prop}  (hK : ∀ (v : Int32) (M : Mem) (L : LMem), K v M L → Q (some (.int v)) M L)  : ∀ (n_ : Nat) (v1 : Int32) (v2 : Int32) (v3 : Int32) (v4 : Int32) (v5 : Int32) (M : Mem) (L : LMem), PL_X10_soonest_26 K n_ v1 v2 v3 v4 v5 M L → Wp E (d + 5) 138 26 [.ref 74, .int v1, .int v2, .int v3, .int v4, .int v5, .null] [] M L Q := by
  intro n_
  induction n_ with
  | zero => intro v1 v2 v3 v4 v5 M L hP; exact False.elim hP
  | succ n_ ih =>
    intro v1 v2 v3 v4 v5 M L hP
    unfold PL_X10_soonest_26 at hP
    refine wp_seg (pc' := 30) [.iload 5, .iload 4] (by decide +kernel) (?_ : Wp E (d + 5) 138 30 [.ref 74, .int v1, .int v2, .int v3, .int v4, .int v5, .null] [.int v4, .int v5] M L Q)
    refine wp_icmpge (off := 40) 70 (by decide +kernel) (by decide) (fun c_8 => ?_) (fun c_8 => ?_)
    · have hP := hP.1 c_8
      refine wp_seg (pc' := 72) [.aload 0, .iload 3] (by decide +kernel) (?_ : Wp E (d + 5) 138 72 [.ref 74, .int v1, .int v2, .int v3, .int v4, .int v5, .null] [.int v3, .ref 74] M L Q)
      refine wp_callV 133 74 [.int v3] (i := 267) (by decide +kernel) (by decide +kernel) (by decide +kernel) (by decide +kernel) rfl rfl rfl (rest := []) rfl rfl ?_
      refine t_X10_layOrder hP (fun v_11 M_9 L_10 hP => ?_)
      show Wp E (d + 5) 138 75 [.ref 74, .int v1, .int v2, .int v3, .int v4, .int v5, .null] [.int v_11] M_9 L_10 Q
      refine wp_seg (pc' := 78) [.pop, .iload 1, .iconst (-1)] (by decide +kernel) (?_ : Wp E (d + 5) 138 78 [.ref 74, .int v1, .int v2, .int v3, .int v4, .int v5, .null] [.int (Int32.ofInt (-1)), .int v1] M_9 L_10 Q)
      refine wp_icmpne (off := 7) 85 (by decide +kernel) (by decide) (fun c_12 => ?_) (fun c_12 => ?_)
      · have hP := hP.2 c_12
        refine wp_seg (pc' := 95) [.iload 1, .i2l, .ldc2_w 0, .aload 0, .getfield 652, .iconst 1, .isub, .i2l] (by decide +kernel) (?_ : Wp E (d + 5) 138 95 [.ref 74, .int v1, .int v2, .int v3, .int v4, .int v5, .null] [.long (((M_9 74 12) - (Int32.ofInt 1)).toInt64), .long (Int64.ofNat 0), .long v1.toInt64] M_9 L_10 Q)
        refine wp_callS 94 [.long v1.toInt64, .long (Int64.ofNat 0), .long (((M_9 74 12) - (Int32.ofInt 1)).toInt64)] (i := 129) (by decide +kernel) (by decide +kernel) (by decide +kernel) rfl rfl rfl (rest := []) rfl rfl ?_
        refine s_X10_in M_9 v1.toInt64 (Int64.ofNat 0) (((M_9 74 12) - (Int32.ofInt 1)).toInt64)  ?_
        show Wp E (d + 5) 138 98 [.ref 74, .int v1, .int v2, .int v3, .int v4, .int v5, .null] [.int (f_X10_in M_9 v1.toInt64 (Int64.ofNat 0) (((M_9 74 12) - (Int32.ofInt 1)).toInt64))] M_9 L_10 Q
        refine wp_ifeq (off := 12) 110 (by decide +kernel) (by decide) (fun c_13 => ?_) (fun c_13 => ?_)
        · have hP := hP.1 c_13
          refine wp_seg (pc' := 112) [.iconst (-6)] (by decide +kernel) (?_ : Wp E (d + 5) 138 112 [.ref 74, .int v1, .int v2, .int v3, .int v4, .int v5, .null] [.int (Int32.ofInt (-6))] M_9 L_10 Q)
          exact wp_iret (by decide +kernel) rfl (hK _ _ _ hP)
        · have hP := hP.2 c_13
          obtain ⟨a_14, hP⟩ := hP
          refine wp_seg (pc' := 107) [.aload 0, .getfield 680, .iload 1, .iaload] (by decide +kernel) (show aok 102 0 v1 ∧ Wp E (d + 5) 138 107 [.ref 74, .int v1, .int v2, .int v3, .int v4, .int v5, .null] [.int (M_9 102 v1.toNatClampNeg)] M_9 L_10 Q from ⟨⟨rfl, a_14⟩, ?_⟩)
          refine wp_seg (pc' := 112) [.goto 0] (by decide +kernel) (?_ : Wp E (d + 5) 138 112 [.ref 74, .int v1, .int v2, .int v3, .int v4, .int v5, .null] [.int (M_9 102 v1.toNatClampNeg)] M_9 L_10 Q)
          exact wp_iret (by decide +kernel) rfl (hK _ _ _ hP)
      · have hP := hP.1 c_12
        refine wp_seg (pc' := 112) [.iload 2, .goto 0] (by decide +kernel) (?_ : Wp E (d + 5) 138 112 [.ref 74, .int v1, .int v2, .int v3, .int v4, .int v5, .null] [.int v2] M_9 L_10 Q)
        exact wp_iret (by decide +kernel) rfl (hK _ _ _ hP)
    · have hP := hP.2 c_8
      refine wp_seg (pc' := 36) [.aload 0, .iload 5] (by decide +kernel) (?_ : Wp E (d + 5) 138 36 [.ref 74, .int v1, .int v2, .int v3, .int v4, .int v5, .null] [.int v5, .ref 74] M L Q)
      refine wp_callV 133 74 [.int v5] (i := 267) (by decide +kernel) (by decide +kernel) (by decide +kernel) (by decide +kernel) rfl rfl rfl (rest := []) rfl rfl ?_
      refine t_X10_layOrder hP (fun v_17 M_15 L_16 hP => ?_)
      show Wp E (d + 5) 138 39 [.ref 74, .int v1, .int v2, .int v3, .int v4, .int v5, .null] [.int v_17] M_15 L_16 Q
      refine wp_ifeq (off := 25) 64 (by decide +kernel) (by decide) (fun c_18 => ?_) (fun c_18 => ?_)
      · have hP := hP.1 c_18
        refine wp_seg (pc' := 26) [.iinc 5 1, .goto 0] (by decide +kernel) (?_ : Wp E (d + 5) 138 26 [.ref 74, .int v1, .int v2, .int v3, .int v4, .int (v5 + Int32.ofInt 1), .null] [] M_15 L_16 Q)
        exact ih v1 v2 v3 v4 (v5 + Int32.ofInt 1) M_15 L_16 hP
      · have hP := hP.2 c_18
        refine wp_seg (pc' := 43) [.aload 0] (by decide +kernel) (?_ : Wp E (d + 5) 138 43 [.ref 74, .int v1, .int v2, .int v3, .int v4, .int v5, .null] [.ref 74] M_15 L_16 Q)
        refine wp_callV 135 74 [] (i := 270) (by decide +kernel) (by decide +kernel) (by decide +kernel) (by decide +kernel) rfl rfl rfl (rest := []) rfl rfl ?_
        refine t_X10_goOrder hP (fun v_21 M_19 L_20 hP => ?_)
        show Wp E (d + 5) 138 46 [.ref 74, .int v1, .int v2, .int v3, .int v4, .int v5, .null] [.int v_21] M_19 L_20 Q
        refine wp_seg (pc' := 49) [.istore 6, .iload 2] (by decide +kernel) (?_ : Wp E (d + 5) 138 49 [.ref 74, .int v1, .int v2, .int v3, .int v4, .int v5, .int v_21] [.int v2] M_19 L_20 Q)
        refine wp_iflt (off := 9) 58 (by decide +kernel) (by decide) (fun c_22 => ?_) (fun c_22 => ?_)
        · have hP := hP.1 c_22
          refine wp_seg (pc' := 26) [.iload 6, .istore 2, .iload 5, .istore 3, .iinc 5 1, .goto 0] (by decide +kernel) (?_ : Wp E (d + 5) 138 26 [.ref 74, .int v1, .int v_21, .int v5, .int v4, .int (v5 + Int32.ofInt 1), .int v_21] [] M_19 L_20 Q)
          refine wp_drop (lo := [.ref 74, .int v1, .int v_21, .int v5, .int v4, .int (v5 + Int32.ofInt 1), .null]) ⟨Or.inr rfl, Or.inr rfl, Or.inr rfl, Or.inr rfl, Or.inr rfl, Or.inr rfl, Or.inl rfl, trivial⟩ ?_
          exact ih v1 v_21 v5 v4 (v5 + Int32.ofInt 1) M_19 L_20 hP
        · have hP := hP.2 c_22
          refine wp_seg (pc' := 55) [.iload 6, .iload 2] (by decide +kernel) (?_ : Wp E (d + 5) 138 55 [.ref 74, .int v1, .int v2, .int v3, .int v4, .int v5, .int v_21] [.int v2, .int v_21] M_19 L_20 Q)
          refine wp_icmpge (off := 9) 64 (by decide +kernel) (by decide) (fun c_23 => ?_) (fun c_23 => ?_)
          · have hP := hP.1 c_23
            refine wp_seg (pc' := 26) [.iinc 5 1, .goto 0] (by decide +kernel) (?_ : Wp E (d + 5) 138 26 [.ref 74, .int v1, .int v2, .int v3, .int v4, .int (v5 + Int32.ofInt 1), .int v_21] [] M_19 L_20 Q)
            refine wp_drop (lo := [.ref 74, .int v1, .int v2, .int v3, .int v4, .int (v5 + Int32.ofInt 1), .null]) ⟨Or.inr rfl, Or.inr rfl, Or.inr rfl, Or.inr rfl, Or.inr rfl, Or.inr rfl, Or.inl rfl, trivial⟩ ?_
            exact ih v1 v2 v3 v4 (v5 + Int32.ofInt 1) M_19 L_20 hP
          · have hP := hP.2 c_23
            refine wp_seg (pc' := 26) [.iload 6, .istore 2, .iload 5, .istore 3, .iinc 5 1, .goto 0] (by decide +kernel) (?_ : Wp E (d + 5) 138 26 [.ref 74, .int v1, .int v_21, .int v5, .int v4, .int (v5 + Int32.ofInt 1), .int v_21] [] M_19 L_20 Q)
            refine wp_drop (lo := [.ref 74, .int v1, .int v_21, .int v5, .int v4, .int (v5 + Int32.ofInt 1), .null]) ⟨Or.inr rfl, Or.inr rfl, Or.inr rfl, Or.inr rfl, Or.inr rfl, Or.inr rfl, Or.inl rfl, trivial⟩ ?_
            exact ih v1 v_21 v5 v4 (v5 + Int32.ofInt 1) M_19 L_20 hP
def P_X10_soonest (x1 : Int32) (M : Mem) (L : LMem) (K : Int32 → Mem → LMem → Prop) : Prop := P_X10_findWays (Int32.ofInt 31) M L (fun v_3 M_1 L_2 => ((v_3 = 0 → K (Int32.ofInt (-6)) M_1 L_2) ∧ (¬ (v_3 = 0) → P_X10_orders M_1 L_2 (fun v_7 M_5 L_6 => PL_X10_soonest_26 K 100000 x1 (Int32.ofInt (-6)) (Int32.ofInt 0) v_7 (Int32.ofInt 0) M_5 L_6))))
theorem t_X10_soonest {E : VE} {d : Nat} {Q : QQ} {K : Int32 → Mem → LMem → Prop} {x1 : Int32} {M : Mem} {L : LMem} (hP : P_X10_soonest x1 M L K) (hK : ∀ (v : Int32) (M : Mem) (L : LMem), K v M L → Q (some (.int v)) M L) : Wp E (d + 5) 138 0 [.ref 74, .int x1, .null, .null, .null, .null, .null] [] M L Q := by
  unfold P_X10_soonest at hP
  refine wp_seg (pc' := 3) [.aload 0, .iconst 31] (by decide +kernel) (?_ : Wp E (d + 5) 138 3 [.ref 74, .int x1, .null, .null, .null, .null, .null] [.int (Int32.ofInt 31), .ref 74] M L Q)
  refine wp_callV 132 74 [.int (Int32.ofInt 31)] (i := 261) (by decide +kernel) (by decide +kernel) (by decide +kernel) (by decide +kernel) rfl rfl rfl (rest := []) rfl rfl ?_
  refine t_X10_findWays hP (fun v_3 M_1 L_2 hP => ?_)
  show Wp E (d + 5) 138 6 [.ref 74, .int x1, .null, .null, .null, .null, .null] [.int v_3] M_1 L_2 Q
  refine wp_ifne (off := 6) 12 (by decide +kernel) (by decide) (fun c_4 => ?_) (fun c_4 => ?_)
  · have hP := hP.2 c_4
    refine wp_seg (pc' := 18) [.iconst (-6), .istore 2, .iconst 0, .istore 3, .aload 0] (by decide +kernel) (?_ : Wp E (d + 5) 138 18 [.ref 74, .int x1, .int (Int32.ofInt (-6)), .int (Int32.ofInt 0), .null, .null, .null] [.ref 74] M_1 L_2 Q)
    refine wp_callV 136 74 [] (i := 264) (by decide +kernel) (by decide +kernel) (by decide +kernel) (by decide +kernel) rfl rfl rfl (rest := []) rfl rfl ?_
    refine t_X10_orders hP (fun v_7 M_5 L_6 hP => ?_)
    show Wp E (d + 5) 138 21 [.ref 74, .int x1, .int (Int32.ofInt (-6)), .int (Int32.ofInt 0), .null, .null, .null] [.int v_7] M_5 L_6 Q
    refine wp_seg (pc' := 26) [.istore 4, .iconst 0, .istore 5] (by decide +kernel) (?_ : Wp E (d + 5) 138 26 [.ref 74, .int x1, .int (Int32.ofInt (-6)), .int (Int32.ofInt 0), .int v_7, .int (Int32.ofInt 0), .null] [] M_5 L_6 Q)
    exact tl_X10_soonest_26 hK 100000 x1 (Int32.ofInt (-6)) (Int32.ofInt 0) v_7 (Int32.ofInt 0) M_5 L_6 hP
  · have hP := hP.1 c_4
    refine wp_seg (pc' := 11) [.iconst (-6)] (by decide +kernel) (?_ : Wp E (d + 5) 138 11 [.ref 74, .int x1, .null, .null, .null, .null, .null] [.int (Int32.ofInt (-6))] M_1 L_2 Q)
    exact wp_iret (by decide +kernel) rfl (hK _ _ _ hP)

def PL_X10_byDue_19 (K : Int32 → Mem → LMem → Prop)  : Nat → Int32 → Int32 → Int32 → Mem → LMem → Prop
  | 0, _, _, _, _, _ => False
  | n_ + 1, v1, v2, v3, M, L => ((v2 ≤ v3 → K (Int32.ofInt (-6)) M L) ∧ (¬ (v2 ≤ v3) → P_X10_layOrder v3 M L (fun v_11 M_9 L_10 => ((v_11 = 0 → PL_X10_byDue_19 K n_ v1 v2 (v3 + Int32.ofInt 1) M_9 L_10) ∧ (¬ (v_11 = 0) → P_X10_goOrder M_9 L_10 (fun v_15 M_13 L_14 => P_X10_isByDue M_13 L_14 (fun v_18 M_16 L_17 => ((v_18 = 0 → PL_X10_byDue_19 K n_ v1 v2 (v3 + Int32.ofInt 1) M_16 L_17) ∧ (¬ (v_18 = 0) → ((v1 = (Int32.ofInt (-1)) → K (Int32.ofInt 1) M_16 L_17) ∧ (¬ (v1 = (Int32.ofInt (-1))) → (((f_X10_in M_16 v1.toInt64 (Int64.ofNat 0) (((M_16 74 12) - (Int32.ofInt 1)).toInt64)) = 0 → K (Int32.ofInt (-6)) M_16 L_17) ∧ (¬ ((f_X10_in M_16 v1.toInt64 (Int64.ofNat 0) (((M_16 74 12) - (Int32.ofInt 1)).toInt64)) = 0) → (vp_in v1 5 ∧ K (M_16 102 v1.toNatClampNeg) M_16 L_17))))))))))))))
theorem tl_X10_byDue_19 {E : VE} {d : Nat} {Q : QQ} {K : Int32 → Mem → LMem → Prop}  (hK : ∀ (v : Int32) (M : Mem) (L : LMem), K v M L → Q (some (.int v)) M L)  : ∀ (n_ : Nat) (v1 : Int32) (v2 : Int32) (v3 : Int32) (M : Mem) (L : LMem), PL_X10_byDue_19 K n_ v1 v2 v3 M L → Wp E (d + 5) 139 19 [.ref 74, .int v1, .int v2, .int v3] [] M L Q := by
  intro n_
  induction n_ with
  | zero => intro v1 v2 v3 M L hP; exact False.elim hP
  | succ n_ ih =>
    intro v1 v2 v3 M L hP
    unfold PL_X10_byDue_19 at hP
    refine wp_seg (pc' := 21) [.iload 3, .iload 2] (by decide +kernel) (?_ : Wp E (d + 5) 139 21 [.ref 74, .int v1, .int v2, .int v3] [.int v2, .int v3] M L Q)
    refine wp_icmpge (off := 66) 87 (by decide +kernel) (by decide) (fun c_8 => ?_) (fun c_8 => ?_)
    · have hP := hP.1 c_8
      refine wp_seg (pc' := 89) [.iconst (-6)] (by decide +kernel) (?_ : Wp E (d + 5) 139 89 [.ref 74, .int v1, .int v2, .int v3] [.int (Int32.ofInt (-6))] M L Q)
      exact wp_iret (by decide +kernel) rfl (hK _ _ _ hP)
    · have hP := hP.2 c_8
      refine wp_seg (pc' := 26) [.aload 0, .iload 3] (by decide +kernel) (?_ : Wp E (d + 5) 139 26 [.ref 74, .int v1, .int v2, .int v3] [.int v3, .ref 74] M L Q)
      refine wp_callV 133 74 [.int v3] (i := 267) (by decide +kernel) (by decide +kernel) (by decide +kernel) (by decide +kernel) rfl rfl rfl (rest := []) rfl rfl ?_
      refine t_X10_layOrder hP (fun v_11 M_9 L_10 hP => ?_)
      show Wp E (d + 5) 139 29 [.ref 74, .int v1, .int v2, .int v3] [.int v_11] M_9 L_10 Q
      refine wp_ifeq (off := 52) 81 (by decide +kernel) (by decide) (fun c_12 => ?_) (fun c_12 => ?_)
      · have hP := hP.1 c_12
        refine wp_seg (pc' := 19) [.iinc 3 1, .goto 0] (by decide +kernel) (?_ : Wp E (d + 5) 139 19 [.ref 74, .int v1, .int v2, .int (v3 + Int32.ofInt 1)] [] M_9 L_10 Q)
        exact ih v1 v2 (v3 + Int32.ofInt 1) M_9 L_10 hP
      · have hP := hP.2 c_12
        refine wp_seg (pc' := 33) [.aload 0] (by decide +kernel) (?_ : Wp E (d + 5) 139 33 [.ref 74, .int v1, .int v2, .int v3] [.ref 74] M_9 L_10 Q)
        refine wp_callV 135 74 [] (i := 270) (by decide +kernel) (by decide +kernel) (by decide +kernel) (by decide +kernel) rfl rfl rfl (rest := []) rfl rfl ?_
        refine t_X10_goOrder hP (fun v_15 M_13 L_14 hP => ?_)
        show Wp E (d + 5) 139 36 [.ref 74, .int v1, .int v2, .int v3] [.int v_15] M_13 L_14 Q
        refine wp_seg (pc' := 38) [.pop, .aload 0] (by decide +kernel) (?_ : Wp E (d + 5) 139 38 [.ref 74, .int v1, .int v2, .int v3] [.ref 74] M_13 L_14 Q)
        refine wp_callV 137 74 [] (i := 273) (by decide +kernel) (by decide +kernel) (by decide +kernel) (by decide +kernel) rfl rfl rfl (rest := []) rfl rfl ?_
        refine t_X10_isByDue hP (fun v_18 M_16 L_17 hP => ?_)
        show Wp E (d + 5) 139 41 [.ref 74, .int v1, .int v2, .int v3] [.int v_18] M_16 L_17 Q
        refine wp_ifeq (off := 40) 81 (by decide +kernel) (by decide) (fun c_19 => ?_) (fun c_19 => ?_)
        · have hP := hP.1 c_19
          refine wp_seg (pc' := 19) [.iinc 3 1, .goto 0] (by decide +kernel) (?_ : Wp E (d + 5) 139 19 [.ref 74, .int v1, .int v2, .int (v3 + Int32.ofInt 1)] [] M_16 L_17 Q)
          exact ih v1 v2 (v3 + Int32.ofInt 1) M_16 L_17 hP
        · have hP := hP.2 c_19
          refine wp_seg (pc' := 46) [.iload 1, .iconst (-1)] (by decide +kernel) (?_ : Wp E (d + 5) 139 46 [.ref 74, .int v1, .int v2, .int v3] [.int (Int32.ofInt (-1)), .int v1] M_16 L_17 Q)
          refine wp_icmpne (off := 7) 53 (by decide +kernel) (by decide) (fun c_20 => ?_) (fun c_20 => ?_)
          · have hP := hP.2 c_20
            refine wp_seg (pc' := 63) [.iload 1, .i2l, .ldc2_w 0, .aload 0, .getfield 652, .iconst 1, .isub, .i2l] (by decide +kernel) (?_ : Wp E (d + 5) 139 63 [.ref 74, .int v1, .int v2, .int v3] [.long (((M_16 74 12) - (Int32.ofInt 1)).toInt64), .long (Int64.ofNat 0), .long v1.toInt64] M_16 L_17 Q)
            refine wp_callS 94 [.long v1.toInt64, .long (Int64.ofNat 0), .long (((M_16 74 12) - (Int32.ofInt 1)).toInt64)] (i := 129) (by decide +kernel) (by decide +kernel) (by decide +kernel) rfl rfl rfl (rest := []) rfl rfl ?_
            refine s_X10_in M_16 v1.toInt64 (Int64.ofNat 0) (((M_16 74 12) - (Int32.ofInt 1)).toInt64)  ?_
            show Wp E (d + 5) 139 66 [.ref 74, .int v1, .int v2, .int v3] [.int (f_X10_in M_16 v1.toInt64 (Int64.ofNat 0) (((M_16 74 12) - (Int32.ofInt 1)).toInt64))] M_16 L_17 Q
            refine wp_ifeq (off := 12) 78 (by decide +kernel) (by decide) (fun c_21 => ?_) (fun c_21 => ?_)
            · have hP := hP.1 c_21
              refine wp_seg (pc' := 80) [.iconst (-6)] (by decide +kernel) (?_ : Wp E (d + 5) 139 80 [.ref 74, .int v1, .int v2, .int v3] [.int (Int32.ofInt (-6))] M_16 L_17 Q)
              exact wp_iret (by decide +kernel) rfl (hK _ _ _ hP)
            · have hP := hP.2 c_21
              obtain ⟨a_22, hP⟩ := hP
              refine wp_seg (pc' := 75) [.aload 0, .getfield 680, .iload 1, .iaload] (by decide +kernel) (show aok 102 0 v1 ∧ Wp E (d + 5) 139 75 [.ref 74, .int v1, .int v2, .int v3] [.int (M_16 102 v1.toNatClampNeg)] M_16 L_17 Q from ⟨⟨rfl, a_22⟩, ?_⟩)
              refine wp_seg (pc' := 80) [.goto 0] (by decide +kernel) (?_ : Wp E (d + 5) 139 80 [.ref 74, .int v1, .int v2, .int v3] [.int (M_16 102 v1.toNatClampNeg)] M_16 L_17 Q)
              exact wp_iret (by decide +kernel) rfl (hK _ _ _ hP)
          · have hP := hP.1 c_20
            refine wp_seg (pc' := 80) [.iconst 1, .goto 0] (by decide +kernel) (?_ : Wp E (d + 5) 139 80 [.ref 74, .int v1, .int v2, .int v3] [.int (Int32.ofInt 1)] M_16 L_17 Q)
            exact wp_iret (by decide +kernel) rfl (hK _ _ _ hP)
def P_X10_byDue (x1 : Int32) (M : Mem) (L : LMem) (K : Int32 → Mem → LMem → Prop) : Prop := P_X10_findWays (Int32.ofInt 31) M L (fun v_3 M_1 L_2 => ((v_3 = 0 → K (Int32.ofInt (-6)) M_1 L_2) ∧ (¬ (v_3 = 0) → P_X10_orders M_1 L_2 (fun v_7 M_5 L_6 => PL_X10_byDue_19 K 100000 x1 v_7 (Int32.ofInt 0) M_5 L_6))))
theorem t_X10_byDue {E : VE} {d : Nat} {Q : QQ} {K : Int32 → Mem → LMem → Prop} {x1 : Int32} {M : Mem} {L : LMem} (hP : P_X10_byDue x1 M L K) (hK : ∀ (v : Int32) (M : Mem) (L : LMem), K v M L → Q (some (.int v)) M L) : Wp E (d + 5) 139 0 [.ref 74, .int x1, .null, .null] [] M L Q := by
  unfold P_X10_byDue at hP
  refine wp_seg (pc' := 3) [.aload 0, .iconst 31] (by decide +kernel) (?_ : Wp E (d + 5) 139 3 [.ref 74, .int x1, .null, .null] [.int (Int32.ofInt 31), .ref 74] M L Q)
  refine wp_callV 132 74 [.int (Int32.ofInt 31)] (i := 261) (by decide +kernel) (by decide +kernel) (by decide +kernel) (by decide +kernel) rfl rfl rfl (rest := []) rfl rfl ?_
  refine t_X10_findWays hP (fun v_3 M_1 L_2 hP => ?_)
  show Wp E (d + 5) 139 6 [.ref 74, .int x1, .null, .null] [.int v_3] M_1 L_2 Q
  refine wp_ifne (off := 6) 12 (by decide +kernel) (by decide) (fun c_4 => ?_) (fun c_4 => ?_)
  · have hP := hP.2 c_4
    refine wp_seg (pc' := 13) [.aload 0] (by decide +kernel) (?_ : Wp E (d + 5) 139 13 [.ref 74, .int x1, .null, .null] [.ref 74] M_1 L_2 Q)
    refine wp_callV 136 74 [] (i := 264) (by decide +kernel) (by decide +kernel) (by decide +kernel) (by decide +kernel) rfl rfl rfl (rest := []) rfl rfl ?_
    refine t_X10_orders hP (fun v_7 M_5 L_6 hP => ?_)
    show Wp E (d + 5) 139 16 [.ref 74, .int x1, .null, .null] [.int v_7] M_5 L_6 Q
    refine wp_seg (pc' := 19) [.istore 2, .iconst 0, .istore 3] (by decide +kernel) (?_ : Wp E (d + 5) 139 19 [.ref 74, .int x1, .int v_7, .int (Int32.ofInt 0)] [] M_5 L_6 Q)
    exact tl_X10_byDue_19 hK 100000 x1 v_7 (Int32.ofInt 0) M_5 L_6 hP
  · have hP := hP.1 c_4
    refine wp_seg (pc' := 11) [.iconst (-6)] (by decide +kernel) (?_ : Wp E (d + 5) 139 11 [.ref 74, .int x1, .null, .null] [.int (Int32.ofInt (-6))] M_1 L_2 Q)
    exact wp_iret (by decide +kernel) rfl (hK _ _ _ hP)

def PL_X10_sortWays_39 (K : Mem → LMem → Prop) (C_2 : Int32 → Mem → LMem → Prop) (C_12 : Int32 → Int32 → Mem → LMem → Prop) : Nat → Int32 → Int32 → Int32 → Int32 → Mem → LMem → Prop
  | 0, _, _, _, _, _, _ => False
  | n_ + 1, v1, v2, v3, v4, M, L => ((v4 < 0 → (vp_in ((((Int32.ofInt 8) * v1) + v4) + (Int32.ofInt 1)) 40 ∧ C_12 v1 (v2 + Int32.ofInt 1) (mput M 100 (((((Int32.ofInt 8) * v1) + v4) + (Int32.ofInt 1)).toNatClampNeg) v3) L)) ∧ (¬ (v4 < 0) → (vp_in (((Int32.ofInt 8) * v1) + v4) 40 ∧ (((M 100 ((((Int32.ofInt 8) * v1) + v4).toNatClampNeg)) ≤ v3 → (vp_in ((((Int32.ofInt 8) * v1) + v4) + (Int32.ofInt 1)) 40 ∧ C_12 v1 (v2 + Int32.ofInt 1) (mput M 100 (((((Int32.ofInt 8) * v1) + v4) + (Int32.ofInt 1)).toNatClampNeg) v3) L)) ∧ (¬ ((M 100 ((((Int32.ofInt 8) * v1) + v4).toNatClampNeg)) ≤ v3) → (vp_in ((((Int32.ofInt 8) * v1) + v4) + (Int32.ofInt 1)) 40 ∧ PL_X10_sortWays_39 K C_2 C_12 n_ v1 v2 v3 (v4 + Int32.ofInt (-1)) (mput M 100 (((((Int32.ofInt 8) * v1) + v4) + (Int32.ofInt 1)).toNatClampNeg) (M 100 ((((Int32.ofInt 8) * v1) + v4).toNatClampNeg))) L))))))
theorem tl_X10_sortWays_39 {E : VE} {d : Nat} {Q : QQ} {K : Mem → LMem → Prop} {C_2 : Int32 → Mem → LMem → Prop} {C_12 : Int32 → Int32 → Mem → LMem → Prop} (hK : ∀ (M : Mem) (L : LMem), K M L → Q none M L) (hC_2 : ∀ (v1 : Int32) (M : Mem) (L : LMem), C_2 v1 M L → Wp E d 140 2 [.ref 74, .int v1, .null, .null, .null] [] M L Q) (hC_12 : ∀ (v1 : Int32) (v2 : Int32) (M : Mem) (L : LMem), C_12 v1 v2 M L → Wp E d 140 12 [.ref 74, .int v1, .int v2, .null, .null] [] M L Q) : ∀ (n_ : Nat) (v1 : Int32) (v2 : Int32) (v3 : Int32) (v4 : Int32) (M : Mem) (L : LMem), PL_X10_sortWays_39 K C_2 C_12 n_ v1 v2 v3 v4 M L → Wp E d 140 39 [.ref 74, .int v1, .int v2, .int v3, .int v4] [] M L Q := by
  intro n_
  induction n_ with
  | zero => intro v1 v2 v3 v4 M L hP; exact False.elim hP
  | succ n_ ih =>
    intro v1 v2 v3 v4 M L hP
    unfold PL_X10_sortWays_39 at hP
    refine wp_seg (pc' := 41) [.iload 4] (by decide +kernel) (?_ : Wp E d 140 41 [.ref 74, .int v1, .int v2, .int v3, .int v4] [.int v4] M L Q)
    refine wp_iflt (off := 51) 92 (by decide +kernel) (by decide) (fun c_5 => ?_) (fun c_5 => ?_)
    · have hP := hP.1 c_5
      obtain ⟨a_6, hP⟩ := hP
      refine wp_seg (pc' := 107) [.aload 0, .getfield 678, .iconst 8, .iload 1, .imul, .iload 4, .iadd, .iconst 1, .iadd, .iload 3, .iastore] (by decide +kernel) (show aok 100 0 ((((Int32.ofInt 8) * v1) + v4) + (Int32.ofInt 1)) ∧ Wp E d 140 107 [.ref 74, .int v1, .int v2, .int v3, .int v4] [] (mput M 100 (((((Int32.ofInt 8) * v1) + v4) + (Int32.ofInt 1)).toNatClampNeg) v3) L Q from ⟨⟨rfl, a_6⟩, ?_⟩)
      refine wp_seg (pc' := 12) [.iinc 2 1, .goto 0] (by decide +kernel) (?_ : Wp E d 140 12 [.ref 74, .int v1, .int (v2 + Int32.ofInt 1), .int v3, .int v4] [] (mput M 100 (((((Int32.ofInt 8) * v1) + v4) + (Int32.ofInt 1)).toNatClampNeg) v3) L Q)
      refine wp_drop (lo := [.ref 74, .int v1, .int (v2 + Int32.ofInt 1), .null, .null]) ⟨Or.inr rfl, Or.inr rfl, Or.inr rfl, Or.inl rfl, Or.inl rfl, trivial⟩ ?_
      exact hC_12 v1 (v2 + Int32.ofInt 1) (mput M 100 (((((Int32.ofInt 8) * v1) + v4) + (Int32.ofInt 1)).toNatClampNeg) v3) L hP
    · have hP := hP.2 c_5
      obtain ⟨a_7, hP⟩ := hP
      refine wp_seg (pc' := 56) [.aload 0, .getfield 678, .iconst 8, .iload 1, .imul, .iload 4, .iadd, .iaload] (by decide +kernel) (show aok 100 0 (((Int32.ofInt 8) * v1) + v4) ∧ Wp E d 140 56 [.ref 74, .int v1, .int v2, .int v3, .int v4] [.int (M 100 ((((Int32.ofInt 8) * v1) + v4).toNatClampNeg))] M L Q from ⟨⟨rfl, a_7⟩, ?_⟩)
      refine wp_seg (pc' := 57) [.iload 3] (by decide +kernel) (?_ : Wp E d 140 57 [.ref 74, .int v1, .int v2, .int v3, .int v4] [.int v3, .int (M 100 ((((Int32.ofInt 8) * v1) + v4).toNatClampNeg))] M L Q)
      refine wp_icmple (off := 35) 92 (by decide +kernel) (by decide) (fun c_8 => ?_) (fun c_8 => ?_)
      · have hP := hP.1 c_8
        obtain ⟨a_9, hP⟩ := hP
        refine wp_seg (pc' := 107) [.aload 0, .getfield 678, .iconst 8, .iload 1, .imul, .iload 4, .iadd, .iconst 1, .iadd, .iload 3, .iastore] (by decide +kernel) (show aok 100 0 ((((Int32.ofInt 8) * v1) + v4) + (Int32.ofInt 1)) ∧ Wp E d 140 107 [.ref 74, .int v1, .int v2, .int v3, .int v4] [] (mput M 100 (((((Int32.ofInt 8) * v1) + v4) + (Int32.ofInt 1)).toNatClampNeg) v3) L Q from ⟨⟨rfl, a_9⟩, ?_⟩)
        refine wp_seg (pc' := 12) [.iinc 2 1, .goto 0] (by decide +kernel) (?_ : Wp E d 140 12 [.ref 74, .int v1, .int (v2 + Int32.ofInt 1), .int v3, .int v4] [] (mput M 100 (((((Int32.ofInt 8) * v1) + v4) + (Int32.ofInt 1)).toNatClampNeg) v3) L Q)
        refine wp_drop (lo := [.ref 74, .int v1, .int (v2 + Int32.ofInt 1), .null, .null]) ⟨Or.inr rfl, Or.inr rfl, Or.inr rfl, Or.inl rfl, Or.inl rfl, trivial⟩ ?_
        exact hC_12 v1 (v2 + Int32.ofInt 1) (mput M 100 (((((Int32.ofInt 8) * v1) + v4) + (Int32.ofInt 1)).toNatClampNeg) v3) L hP
      · have hP := hP.2 c_8
        refine wp_seg (pc' := 85) [.aload 0, .getfield 678, .iconst 8, .iload 1, .imul, .iload 4, .iadd, .iconst 1, .iadd, .aload 0, .getfield 678, .iconst 8, .iload 1, .imul, .iload 4, .iadd, .iaload] (by decide +kernel) (show aok 100 0 (((Int32.ofInt 8) * v1) + v4) ∧ Wp E d 140 85 [.ref 74, .int v1, .int v2, .int v3, .int v4] [.int (M 100 ((((Int32.ofInt 8) * v1) + v4).toNatClampNeg)), .int ((((Int32.ofInt 8) * v1) + v4) + (Int32.ofInt 1)), .ref 100] M L Q from ⟨⟨rfl, a_7⟩, ?_⟩)
        obtain ⟨a_10, hP⟩ := hP
        refine wp_seg (pc' := 86) [.iastore] (by decide +kernel) (show aok 100 0 ((((Int32.ofInt 8) * v1) + v4) + (Int32.ofInt 1)) ∧ Wp E d 140 86 [.ref 74, .int v1, .int v2, .int v3, .int v4] [] (mput M 100 (((((Int32.ofInt 8) * v1) + v4) + (Int32.ofInt 1)).toNatClampNeg) (M 100 ((((Int32.ofInt 8) * v1) + v4).toNatClampNeg))) L Q from ⟨⟨rfl, a_10⟩, ?_⟩)
        refine wp_seg (pc' := 39) [.iinc 4 (-1), .goto 0] (by decide +kernel) (?_ : Wp E d 140 39 [.ref 74, .int v1, .int v2, .int v3, .int (v4 + Int32.ofInt (-1))] [] (mput M 100 (((((Int32.ofInt 8) * v1) + v4) + (Int32.ofInt 1)).toNatClampNeg) (M 100 ((((Int32.ofInt 8) * v1) + v4).toNatClampNeg))) L Q)
        exact ih v1 v2 v3 (v4 + Int32.ofInt (-1)) (mput M 100 (((((Int32.ofInt 8) * v1) + v4) + (Int32.ofInt 1)).toNatClampNeg) (M 100 ((((Int32.ofInt 8) * v1) + v4).toNatClampNeg))) L hP
def PL_X10_sortWays_12 (K : Mem → LMem → Prop) (C_2 : Int32 → Mem → LMem → Prop) : Nat → Int32 → Int32 → Mem → LMem → Prop
  | 0, _, _, _, _ => False
  | n_ + 1, v1, v2, M, L => (vp_in v1 5 ∧ (((M 101 v1.toNatClampNeg) ≤ v2 → C_2 (v1 + Int32.ofInt 1) M L) ∧ (¬ ((M 101 v1.toNatClampNeg) ≤ v2) → (vp_in (((Int32.ofInt 8) * v1) + v2) 40 ∧ PL_X10_sortWays_39 K C_2 (PL_X10_sortWays_12 K C_2 n_) 100000 v1 v2 (M 100 ((((Int32.ofInt 8) * v1) + v2).toNatClampNeg)) (v2 - (Int32.ofInt 1)) M L))))
theorem tl_X10_sortWays_12 {E : VE} {d : Nat} {Q : QQ} {K : Mem → LMem → Prop} {C_2 : Int32 → Mem → LMem → Prop} (hK : ∀ (M : Mem) (L : LMem), K M L → Q none M L) (hC_2 : ∀ (v1 : Int32) (M : Mem) (L : LMem), C_2 v1 M L → Wp E d 140 2 [.ref 74, .int v1, .null, .null, .null] [] M L Q) : ∀ (n_ : Nat) (v1 : Int32) (v2 : Int32) (M : Mem) (L : LMem), PL_X10_sortWays_12 K C_2 n_ v1 v2 M L → Wp E d 140 12 [.ref 74, .int v1, .int v2, .null, .null] [] M L Q := by
  intro n_
  induction n_ with
  | zero => intro v1 v2 M L hP; exact False.elim hP
  | succ n_ ih =>
    intro v1 v2 M L hP
    unfold PL_X10_sortWays_12 at hP
    obtain ⟨a_2, hP⟩ := hP
    refine wp_seg (pc' := 19) [.iload 2, .aload 0, .getfield 679, .iload 1, .iaload] (by decide +kernel) (show aok 101 0 v1 ∧ Wp E d 140 19 [.ref 74, .int v1, .int v2, .null, .null] [.int (M 101 v1.toNatClampNeg), .int v2] M L Q from ⟨⟨rfl, a_2⟩, ?_⟩)
    refine wp_icmpge (off := 94) 113 (by decide +kernel) (by decide) (fun c_3 => ?_) (fun c_3 => ?_)
    · have hP := hP.1 c_3
      refine wp_seg (pc' := 2) [.iinc 1 1, .goto 0] (by decide +kernel) (?_ : Wp E d 140 2 [.ref 74, .int (v1 + Int32.ofInt 1), .int v2, .null, .null] [] M L Q)
      refine wp_drop (lo := [.ref 74, .int (v1 + Int32.ofInt 1), .null, .null, .null]) ⟨Or.inr rfl, Or.inr rfl, Or.inl rfl, Or.inl rfl, Or.inl rfl, trivial⟩ ?_
      exact hC_2 (v1 + Int32.ofInt 1) M L hP
    · have hP := hP.2 c_3
      obtain ⟨a_4, hP⟩ := hP
      refine wp_seg (pc' := 33) [.aload 0, .getfield 678, .iconst 8, .iload 1, .imul, .iload 2, .iadd, .iaload] (by decide +kernel) (show aok 100 0 (((Int32.ofInt 8) * v1) + v2) ∧ Wp E d 140 33 [.ref 74, .int v1, .int v2, .null, .null] [.int (M 100 ((((Int32.ofInt 8) * v1) + v2).toNatClampNeg))] M L Q from ⟨⟨rfl, a_4⟩, ?_⟩)
      refine wp_seg (pc' := 39) [.istore 3, .iload 2, .iconst 1, .isub, .istore 4] (by decide +kernel) (?_ : Wp E d 140 39 [.ref 74, .int v1, .int v2, .int (M 100 ((((Int32.ofInt 8) * v1) + v2).toNatClampNeg)), .int (v2 - (Int32.ofInt 1))] [] M L Q)
      exact tl_X10_sortWays_39 hK hC_2 (fun v1 v2 M L hP => ih v1 v2 M L hP) 100000 v1 v2 (M 100 ((((Int32.ofInt 8) * v1) + v2).toNatClampNeg)) (v2 - (Int32.ofInt 1)) M L hP
def PL_X10_sortWays_2 (K : Mem → LMem → Prop)  : Nat → Int32 → Mem → LMem → Prop
  | 0, _, _, _ => False
  | n_ + 1, v1, M, L => (((M 74 12) ≤ v1 → K M L) ∧ (¬ ((M 74 12) ≤ v1) → PL_X10_sortWays_12 K (PL_X10_sortWays_2 K n_) 100000 v1 (Int32.ofInt 1) M L))
theorem tl_X10_sortWays_2 {E : VE} {d : Nat} {Q : QQ} {K : Mem → LMem → Prop}  (hK : ∀ (M : Mem) (L : LMem), K M L → Q none M L)  : ∀ (n_ : Nat) (v1 : Int32) (M : Mem) (L : LMem), PL_X10_sortWays_2 K n_ v1 M L → Wp E d 140 2 [.ref 74, .int v1, .null, .null, .null] [] M L Q := by
  intro n_
  induction n_ with
  | zero => intro v1 M L hP; exact False.elim hP
  | succ n_ ih =>
    intro v1 M L hP
    unfold PL_X10_sortWays_2 at hP
    refine wp_seg (pc' := 7) [.iload 1, .aload 0, .getfield 652] (by decide +kernel) (?_ : Wp E d 140 7 [.ref 74, .int v1, .null, .null, .null] [.int (M 74 12), .int v1] M L Q)
    refine wp_icmpge (off := 112) 119 (by decide +kernel) (by decide) (fun c_1 => ?_) (fun c_1 => ?_)
    · have hP := hP.1 c_1
      exact wp_vret (by decide +kernel) rfl (hK _ _ hP)
    · have hP := hP.2 c_1
      refine wp_seg (pc' := 12) [.iconst 1, .istore 2] (by decide +kernel) (?_ : Wp E d 140 12 [.ref 74, .int v1, .int (Int32.ofInt 1), .null, .null] [] M L Q)
      exact tl_X10_sortWays_12 hK (fun v1 M L hP => ih v1 M L hP) 100000 v1 (Int32.ofInt 1) M L hP
def P_X10_sortWays (M : Mem) (L : LMem) (K : Mem → LMem → Prop) : Prop := PL_X10_sortWays_2 K 100000 (Int32.ofInt 0) M L
theorem t_X10_sortWays {E : VE} {d : Nat} {Q : QQ} {K : Mem → LMem → Prop} {M : Mem} {L : LMem} (hP : P_X10_sortWays M L K) (hK : ∀ (M : Mem) (L : LMem), K M L → Q none M L) : Wp E d 140 0 [.ref 74, .null, .null, .null, .null] [] M L Q := by
  unfold P_X10_sortWays at hP
  refine wp_seg (pc' := 2) [.iconst 0, .istore 1] (by decide +kernel) (?_ : Wp E d 140 2 [.ref 74, .int (Int32.ofInt 0), .null, .null, .null] [] M L Q)
  exact tl_X10_sortWays_2 hK 100000 (Int32.ofInt 0) M L hP

def PL_X10_layHolds_2 (K : Mem → LMem → Prop)  : Nat → Int32 → Int32 → Mem → LMem → Prop
  | 0, _, _, _, _ => False
  | n_ + 1, v1, v2, M, L => (((Int32.ofInt 5) ≤ v2 → K M L) ∧ (¬ ((Int32.ofInt 5) ≤ v2) → (vp_in v2 5 ∧ PL_X10_layHolds_2 K n_ v1 (v2 + Int32.ofInt 1) (mput M 105 v2.toNatClampNeg ((v1 >>> (((Int32.ofInt 3) * v2) &&& 31)) &&& (Int32.ofInt 7))) L)))
theorem tl_X10_layHolds_2 {E : VE} {d : Nat} {Q : QQ} {K : Mem → LMem → Prop}  (hK : ∀ (M : Mem) (L : LMem), K M L → Q none M L)  : ∀ (n_ : Nat) (v1 : Int32) (v2 : Int32) (M : Mem) (L : LMem), PL_X10_layHolds_2 K n_ v1 v2 M L → Wp E d 142 2 [.ref 74, .int v1, .int v2] [] M L Q := by
  intro n_
  induction n_ with
  | zero => intro v1 v2 M L hP; exact False.elim hP
  | succ n_ ih =>
    intro v1 v2 M L hP
    unfold PL_X10_layHolds_2 at hP
    refine wp_seg (pc' := 4) [.iload 2, .iconst 5] (by decide +kernel) (?_ : Wp E d 142 4 [.ref 74, .int v1, .int v2] [.int (Int32.ofInt 5), .int v2] M L Q)
    refine wp_icmpge (off := 23) 27 (by decide +kernel) (by decide) (fun c_1 => ?_) (fun c_1 => ?_)
    · have hP := hP.1 c_1
      exact wp_vret (by decide +kernel) rfl (hK _ _ hP)
    · have hP := hP.2 c_1
      obtain ⟨a_2, hP⟩ := hP
      refine wp_seg (pc' := 21) [.aload 0, .getfield 683, .iload 2, .iload 1, .iconst 3, .iload 2, .imul, .ishr, .iconst 7, .iand, .iastore] (by decide +kernel) (show aok 105 0 v2 ∧ Wp E d 142 21 [.ref 74, .int v1, .int v2] [] (mput M 105 v2.toNatClampNeg ((v1 >>> (((Int32.ofInt 3) * v2) &&& 31)) &&& (Int32.ofInt 7))) L Q from ⟨⟨rfl, a_2⟩, ?_⟩)
      refine wp_seg (pc' := 2) [.iinc 2 1, .goto 0] (by decide +kernel) (?_ : Wp E d 142 2 [.ref 74, .int v1, .int (v2 + Int32.ofInt 1)] [] (mput M 105 v2.toNatClampNeg ((v1 >>> (((Int32.ofInt 3) * v2) &&& 31)) &&& (Int32.ofInt 7))) L Q)
      exact ih v1 (v2 + Int32.ofInt 1) (mput M 105 v2.toNatClampNeg ((v1 >>> (((Int32.ofInt 3) * v2) &&& 31)) &&& (Int32.ofInt 7))) L hP
def P_X10_layHolds (x1 : Int32) (M : Mem) (L : LMem) (K : Mem → LMem → Prop) : Prop := PL_X10_layHolds_2 K 100000 x1 (Int32.ofInt 0) M L
theorem t_X10_layHolds {E : VE} {d : Nat} {Q : QQ} {K : Mem → LMem → Prop} {x1 : Int32} {M : Mem} {L : LMem} (hP : P_X10_layHolds x1 M L K) (hK : ∀ (M : Mem) (L : LMem), K M L → Q none M L) : Wp E d 142 0 [.ref 74, .int x1, .null] [] M L Q := by
  unfold P_X10_layHolds at hP
  refine wp_seg (pc' := 2) [.iconst 0, .istore 2] (by decide +kernel) (?_ : Wp E d 142 2 [.ref 74, .int x1, .int (Int32.ofInt 0)] [] M L Q)
  exact tl_X10_layHolds_2 hK 100000 x1 (Int32.ofInt 0) M L hP

def PL_X10_canTake_60 (K : Int32 → Mem → LMem → Prop) (C_23 : Int32 → Int32 → Int32 → Int32 → Int32 → Mem → LMem → Prop) : Nat → Int32 → Int32 → Int32 → Int32 → Int32 → Int32 → Mem → LMem → Prop
  | 0, _, _, _, _, _, _, _, _ => False
  | n_ + 1, v1, v2, v3, v4, v5, v6, M, L => (vp_in v5 5 ∧ (((M 105 v5.toNatClampNeg) ≤ v6 → C_23 v1 v2 v3 v4 (v5 + Int32.ofInt 1) M L) ∧ (¬ ((M 105 v5.toNatClampNeg) ≤ v6) → (vp_in (((Int32.ofInt 8) * v5) + v6) 40 ∧ (((M 100 ((((Int32.ofInt 8) * v5) + v6).toNatClampNeg)) = v3 → PL_X10_canTake_60 K C_23 n_ v1 v2 v3 (v4 + (Int32.ofInt 1)) v5 (v6 + Int32.ofInt 1) M L) ∧ (¬ ((M 100 ((((Int32.ofInt 8) * v5) + v6).toNatClampNeg)) = v3) → PL_X10_canTake_60 K C_23 n_ v1 v2 v3 (v4 + (Int32.ofInt 0)) v5 (v6 + Int32.ofInt 1) M L))))))
theorem tl_X10_canTake_60 {E : VE} {d : Nat} {Q : QQ} {K : Int32 → Mem → LMem → Prop} {C_23 : Int32 → Int32 → Int32 → Int32 → Int32 → Mem → LMem → Prop} (hK : ∀ (v : Int32) (M : Mem) (L : LMem), K v M L → Q (some (.int v)) M L) (hC_23 : ∀ (v1 : Int32) (v2 : Int32) (v3 : Int32) (v4 : Int32) (v5 : Int32) (M : Mem) (L : LMem), C_23 v1 v2 v3 v4 v5 M L → Wp E (d + 1) 144 23 [.ref 74, .int v1, .int v2, .int v3, .int v4, .int v5, .null] [] M L Q) : ∀ (n_ : Nat) (v1 : Int32) (v2 : Int32) (v3 : Int32) (v4 : Int32) (v5 : Int32) (v6 : Int32) (M : Mem) (L : LMem), PL_X10_canTake_60 K C_23 n_ v1 v2 v3 v4 v5 v6 M L → Wp E (d + 1) 144 60 [.ref 74, .int v1, .int v2, .int v3, .int v4, .int v5, .int v6] [] M L Q := by
  intro n_
  induction n_ with
  | zero => intro v1 v2 v3 v4 v5 v6 M L hP; exact False.elim hP
  | succ n_ ih =>
    intro v1 v2 v3 v4 v5 v6 M L hP
    unfold PL_X10_canTake_60 at hP
    obtain ⟨a_12, hP⟩ := hP
    refine wp_seg (pc' := 69) [.iload 6, .aload 0, .getfield 683, .iload 5, .iaload] (by decide +kernel) (show aok 105 0 v5 ∧ Wp E (d + 1) 144 69 [.ref 74, .int v1, .int v2, .int v3, .int v4, .int v5, .int v6] [.int (M 105 v5.toNatClampNeg), .int v6] M L Q from ⟨⟨rfl, a_12⟩, ?_⟩)
    refine wp_icmpge (off := 36) 105 (by decide +kernel) (by decide) (fun c_13 => ?_) (fun c_13 => ?_)
    · have hP := hP.1 c_13
      refine wp_seg (pc' := 23) [.iinc 5 1, .goto 0] (by decide +kernel) (?_ : Wp E (d + 1) 144 23 [.ref 74, .int v1, .int v2, .int v3, .int v4, .int (v5 + Int32.ofInt 1), .int v6] [] M L Q)
      refine wp_drop (lo := [.ref 74, .int v1, .int v2, .int v3, .int v4, .int (v5 + Int32.ofInt 1), .null]) ⟨Or.inr rfl, Or.inr rfl, Or.inr rfl, Or.inr rfl, Or.inr rfl, Or.inr rfl, Or.inl rfl, trivial⟩ ?_
      exact hC_23 v1 v2 v3 v4 (v5 + Int32.ofInt 1) M L hP
    · have hP := hP.2 c_13
      obtain ⟨a_14, hP⟩ := hP
      refine wp_seg (pc' := 87) [.iload 4, .aload 0, .getfield 678, .iconst 8, .iload 5, .imul, .iload 6, .iadd, .iaload] (by decide +kernel) (show aok 100 0 (((Int32.ofInt 8) * v5) + v6) ∧ Wp E (d + 1) 144 87 [.ref 74, .int v1, .int v2, .int v3, .int v4, .int v5, .int v6] [.int (M 100 ((((Int32.ofInt 8) * v5) + v6).toNatClampNeg)), .int v4] M L Q from ⟨⟨rfl, a_14⟩, ?_⟩)
      refine wp_seg (pc' := 88) [.iload 3] (by decide +kernel) (?_ : Wp E (d + 1) 144 88 [.ref 74, .int v1, .int v2, .int v3, .int v4, .int v5, .int v6] [.int v3, .int (M 100 ((((Int32.ofInt 8) * v5) + v6).toNatClampNeg)), .int v4] M L Q)
      refine wp_icmpne (off := 7) 95 (by decide +kernel) (by decide) (fun c_15 => ?_) (fun c_15 => ?_)
      · have hP := hP.2 c_15
        refine wp_seg (pc' := 60) [.iconst 0, .iadd, .istore 4, .iinc 6 1, .goto 0] (by decide +kernel) (?_ : Wp E (d + 1) 144 60 [.ref 74, .int v1, .int v2, .int v3, .int (v4 + (Int32.ofInt 0)), .int v5, .int (v6 + Int32.ofInt 1)] [] M L Q)
        exact ih v1 v2 v3 (v4 + (Int32.ofInt 0)) v5 (v6 + Int32.ofInt 1) M L hP
      · have hP := hP.1 c_15
        refine wp_seg (pc' := 60) [.iconst 1, .goto 0, .iadd, .istore 4, .iinc 6 1, .goto 0] (by decide +kernel) (?_ : Wp E (d + 1) 144 60 [.ref 74, .int v1, .int v2, .int v3, .int (v4 + (Int32.ofInt 1)), .int v5, .int (v6 + Int32.ofInt 1)] [] M L Q)
        exact ih v1 v2 v3 (v4 + (Int32.ofInt 1)) v5 (v6 + Int32.ofInt 1) M L hP
def PL_X10_canTake_23 (K : Int32 → Mem → LMem → Prop)  : Nat → Int32 → Int32 → Int32 → Int32 → Int32 → Mem → LMem → Prop
  | 0, _, _, _, _, _, _, _ => False
  | n_ + 1, v1, v2, v3, v4, v5, M, L => (((M 74 12) ≤ v5 → (vp_in v3 13 ∧ (((M 77 v3.toNatClampNeg) = (Int32.ofInt 61) → (((Int32.ofInt 2) ≤ v4 → K (Int32.ofInt 0) M L) ∧ (¬ ((Int32.ofInt 2) ≤ v4) → K (Int32.ofInt 1) M L))) ∧ (¬ ((M 77 v3.toNatClampNeg) = (Int32.ofInt 61)) → (((Int32.ofInt 1) ≤ v4 → K (Int32.ofInt 0) M L) ∧ (¬ ((Int32.ofInt 1) ≤ v4) → K (Int32.ofInt 1) M L)))))) ∧ (¬ ((M 74 12) ≤ v5) → ((v5 = v1 → PL_X10_canTake_23 K n_ v1 v2 v3 v4 (v5 + Int32.ofInt 1) M L) ∧ (¬ (v5 = v1) → ((((v2 >>> (v5 &&& 31)) &&& (Int32.ofInt 1)) = (Int32.ofInt 1) → ((vp_in v5 5) ∧ (((f_X10_hasDone M v5) = 0 → PL_X10_canTake_60 K (PL_X10_canTake_23 K n_) 100000 v1 v2 v3 v4 v5 (Int32.ofInt 0) M L) ∧ (¬ ((f_X10_hasDone M v5) = 0) → PL_X10_canTake_23 K n_ v1 v2 v3 v4 (v5 + Int32.ofInt 1) M L)))) ∧ (¬ (((v2 >>> (v5 &&& 31)) &&& (Int32.ofInt 1)) = (Int32.ofInt 1)) → PL_X10_canTake_23 K n_ v1 v2 v3 v4 (v5 + Int32.ofInt 1) M L))))))
theorem tl_X10_canTake_23 {E : VE} {d : Nat} {Q : QQ} {K : Int32 → Mem → LMem → Prop}  (hK : ∀ (v : Int32) (M : Mem) (L : LMem), K v M L → Q (some (.int v)) M L)  : ∀ (n_ : Nat) (v1 : Int32) (v2 : Int32) (v3 : Int32) (v4 : Int32) (v5 : Int32) (M : Mem) (L : LMem), PL_X10_canTake_23 K n_ v1 v2 v3 v4 v5 M L → Wp E (d + 1) 144 23 [.ref 74, .int v1, .int v2, .int v3, .int v4, .int v5, .null] [] M L Q := by
  intro n_
  induction n_ with
  | zero => intro v1 v2 v3 v4 v5 M L hP; exact False.elim hP
  | succ n_ ih =>
    intro v1 v2 v3 v4 v5 M L hP
    unfold PL_X10_canTake_23 at hP
    refine wp_seg (pc' := 29) [.iload 5, .aload 0, .getfield 652] (by decide +kernel) (?_ : Wp E (d + 1) 144 29 [.ref 74, .int v1, .int v2, .int v3, .int v4, .int v5, .null] [.int (M 74 12), .int v5] M L Q)
    refine wp_icmpge (off := 82) 111 (by decide +kernel) (by decide) (fun c_3 => ?_) (fun c_3 => ?_)
    · have hP := hP.1 c_3
      obtain ⟨a_4, hP⟩ := hP
      refine wp_seg (pc' := 119) [.iload 4, .aload 0, .getfield 642, .iload 3, .iaload] (by decide +kernel) (show aok 77 0 v3 ∧ Wp E (d + 1) 144 119 [.ref 74, .int v1, .int v2, .int v3, .int v4, .int v5, .null] [.int (M 77 v3.toNatClampNeg), .int v4] M L Q from ⟨⟨rfl, a_4⟩, ?_⟩)
      refine wp_seg (pc' := 121) [.iconst 61] (by decide +kernel) (?_ : Wp E (d + 1) 144 121 [.ref 74, .int v1, .int v2, .int v3, .int v4, .int v5, .null] [.int (Int32.ofInt 61), .int (M 77 v3.toNatClampNeg), .int v4] M L Q)
      refine wp_icmpne (off := 7) 128 (by decide +kernel) (by decide) (fun c_5 => ?_) (fun c_5 => ?_)
      · have hP := hP.2 c_5
        refine wp_seg (pc' := 129) [.iconst 1] (by decide +kernel) (?_ : Wp E (d + 1) 144 129 [.ref 74, .int v1, .int v2, .int v3, .int v4, .int v5, .null] [.int (Int32.ofInt 1), .int v4] M L Q)
        refine wp_icmpge (off := 7) 136 (by decide +kernel) (by decide) (fun c_6 => ?_) (fun c_6 => ?_)
        · have hP := hP.1 c_6
          refine wp_seg (pc' := 137) [.iconst 0] (by decide +kernel) (?_ : Wp E (d + 1) 144 137 [.ref 74, .int v1, .int v2, .int v3, .int v4, .int v5, .null] [.int (Int32.ofInt 0)] M L Q)
          exact wp_zret (by decide +kernel) rfl (by decide) (hK _ _ _ hP)
        · have hP := hP.2 c_6
          refine wp_seg (pc' := 137) [.iconst 1, .goto 0] (by decide +kernel) (?_ : Wp E (d + 1) 144 137 [.ref 74, .int v1, .int v2, .int v3, .int v4, .int v5, .null] [.int (Int32.ofInt 1)] M L Q)
          exact wp_zret (by decide +kernel) rfl (by decide) (hK _ _ _ hP)
      · have hP := hP.1 c_5
        refine wp_seg (pc' := 129) [.iconst 2, .goto 0] (by decide +kernel) (?_ : Wp E (d + 1) 144 129 [.ref 74, .int v1, .int v2, .int v3, .int v4, .int v5, .null] [.int (Int32.ofInt 2), .int v4] M L Q)
        refine wp_icmpge (off := 7) 136 (by decide +kernel) (by decide) (fun c_7 => ?_) (fun c_7 => ?_)
        · have hP := hP.1 c_7
          refine wp_seg (pc' := 137) [.iconst 0] (by decide +kernel) (?_ : Wp E (d + 1) 144 137 [.ref 74, .int v1, .int v2, .int v3, .int v4, .int v5, .null] [.int (Int32.ofInt 0)] M L Q)
          exact wp_zret (by decide +kernel) rfl (by decide) (hK _ _ _ hP)
        · have hP := hP.2 c_7
          refine wp_seg (pc' := 137) [.iconst 1, .goto 0] (by decide +kernel) (?_ : Wp E (d + 1) 144 137 [.ref 74, .int v1, .int v2, .int v3, .int v4, .int v5, .null] [.int (Int32.ofInt 1)] M L Q)
          exact wp_zret (by decide +kernel) rfl (by decide) (hK _ _ _ hP)
    · have hP := hP.2 c_3
      refine wp_seg (pc' := 35) [.iload 5, .iload 1] (by decide +kernel) (?_ : Wp E (d + 1) 144 35 [.ref 74, .int v1, .int v2, .int v3, .int v4, .int v5, .null] [.int v1, .int v5] M L Q)
      refine wp_icmpeq (off := 70) 105 (by decide +kernel) (by decide) (fun c_8 => ?_) (fun c_8 => ?_)
      · have hP := hP.1 c_8
        refine wp_seg (pc' := 23) [.iinc 5 1, .goto 0] (by decide +kernel) (?_ : Wp E (d + 1) 144 23 [.ref 74, .int v1, .int v2, .int v3, .int v4, .int (v5 + Int32.ofInt 1), .null] [] M L Q)
        exact ih v1 v2 v3 v4 (v5 + Int32.ofInt 1) M L hP
      · have hP := hP.2 c_8
        refine wp_seg (pc' := 45) [.iload 2, .iload 5, .ishr, .iconst 1, .iand, .iconst 1] (by decide +kernel) (?_ : Wp E (d + 1) 144 45 [.ref 74, .int v1, .int v2, .int v3, .int v4, .int v5, .null] [.int (Int32.ofInt 1), .int ((v2 >>> (v5 &&& 31)) &&& (Int32.ofInt 1))] M L Q)
        refine wp_icmpne (off := 60) 105 (by decide +kernel) (by decide) (fun c_9 => ?_) (fun c_9 => ?_)
        · have hP := hP.2 c_9
          refine wp_seg (pc' := 23) [.iinc 5 1, .goto 0] (by decide +kernel) (?_ : Wp E (d + 1) 144 23 [.ref 74, .int v1, .int v2, .int v3, .int v4, .int (v5 + Int32.ofInt 1), .null] [] M L Q)
          exact ih v1 v2 v3 v4 (v5 + Int32.ofInt 1) M L hP
        · have hP := hP.1 c_9
          refine wp_seg (pc' := 51) [.aload 0, .iload 5] (by decide +kernel) (?_ : Wp E (d + 1) 144 51 [.ref 74, .int v1, .int v2, .int v3, .int v4, .int v5, .null] [.int v5, .ref 74] M L Q)
          refine wp_callV 143 74 [.int v5] (i := 276) (by decide +kernel) (by decide +kernel) (by decide +kernel) (by decide +kernel) rfl rfl rfl (rest := []) rfl rfl ?_
          obtain ⟨a_10, hP⟩ := hP
          refine s_X10_hasDone M v5 a_10 ?_
          show Wp E (d + 1) 144 54 [.ref 74, .int v1, .int v2, .int v3, .int v4, .int v5, .null] [.int (f_X10_hasDone M v5)] M L Q
          refine wp_ifne (off := 51) 105 (by decide +kernel) (by decide) (fun c_11 => ?_) (fun c_11 => ?_)
          · have hP := hP.2 c_11
            refine wp_seg (pc' := 23) [.iinc 5 1, .goto 0] (by decide +kernel) (?_ : Wp E (d + 1) 144 23 [.ref 74, .int v1, .int v2, .int v3, .int v4, .int (v5 + Int32.ofInt 1), .null] [] M L Q)
            exact ih v1 v2 v3 v4 (v5 + Int32.ofInt 1) M L hP
          · have hP := hP.1 c_11
            refine wp_seg (pc' := 60) [.iconst 0, .istore 6] (by decide +kernel) (?_ : Wp E (d + 1) 144 60 [.ref 74, .int v1, .int v2, .int v3, .int v4, .int v5, .int (Int32.ofInt 0)] [] M L Q)
            exact tl_X10_canTake_60 hK (fun v1 v2 v3 v4 v5 M L hP => ih v1 v2 v3 v4 v5 M L hP) 100000 v1 v2 v3 v4 v5 (Int32.ofInt 0) M L hP
def P_X10_canTake (x1 : Int32) (x2 : Int32) (M : Mem) (L : LMem) (K : Int32 → Mem → LMem → Prop) : Prop := (vp_in x1 5 ∧ (vp_in (((Int32.ofInt 8) * x1) + (M 105 x1.toNatClampNeg)) 40 ∧ PL_X10_canTake_23 K 100000 x1 x2 (M 100 ((((Int32.ofInt 8) * x1) + (M 105 x1.toNatClampNeg)).toNatClampNeg)) (Int32.ofInt 0) (Int32.ofInt 0) M L))
theorem t_X10_canTake {E : VE} {d : Nat} {Q : QQ} {K : Int32 → Mem → LMem → Prop} {x1 : Int32} {x2 : Int32} {M : Mem} {L : LMem} (hP : P_X10_canTake x1 x2 M L K) (hK : ∀ (v : Int32) (M : Mem) (L : LMem), K v M L → Q (some (.int v)) M L) : Wp E (d + 1) 144 0 [.ref 74, .int x1, .int x2, .null, .null, .null, .null] [] M L Q := by
  unfold P_X10_canTake at hP
  obtain ⟨a_1, hP⟩ := hP
  refine wp_seg (pc' := 14) [.aload 0, .getfield 678, .iconst 8, .iload 1, .imul, .aload 0, .getfield 683, .iload 1, .iaload] (by decide +kernel) (show aok 105 0 x1 ∧ Wp E (d + 1) 144 14 [.ref 74, .int x1, .int x2, .null, .null, .null, .null] [.int (M 105 x1.toNatClampNeg), .int ((Int32.ofInt 8) * x1), .ref 100] M L Q from ⟨⟨rfl, a_1⟩, ?_⟩)
  obtain ⟨a_2, hP⟩ := hP
  refine wp_seg (pc' := 16) [.iadd, .iaload] (by decide +kernel) (show aok 100 0 (((Int32.ofInt 8) * x1) + (M 105 x1.toNatClampNeg)) ∧ Wp E (d + 1) 144 16 [.ref 74, .int x1, .int x2, .null, .null, .null, .null] [.int (M 100 ((((Int32.ofInt 8) * x1) + (M 105 x1.toNatClampNeg)).toNatClampNeg))] M L Q from ⟨⟨rfl, a_2⟩, ?_⟩)
  refine wp_seg (pc' := 23) [.istore 3, .iconst 0, .istore 4, .iconst 0, .istore 5] (by decide +kernel) (?_ : Wp E (d + 1) 144 23 [.ref 74, .int x1, .int x2, .int (M 100 ((((Int32.ofInt 8) * x1) + (M 105 x1.toNatClampNeg)).toNatClampNeg)), .int (Int32.ofInt 0), .int (Int32.ofInt 0), .null] [] M L Q)
  exact tl_X10_canTake_23 hK 100000 x1 x2 (M 100 ((((Int32.ofInt 8) * x1) + (M 105 x1.toNatClampNeg)).toNatClampNeg)) (Int32.ofInt 0) (Int32.ofInt 0) M L hP

def PL_X10_locked_121 (K : Int32 → Mem → LMem → Prop) (C_86 : Int32 → Int32 → Int32 → Int32 → Mem → LMem → Prop) : Nat → Int32 → Int32 → Int32 → Int32 → Int32 → Int32 → Int32 → Int32 → Mem → LMem → Prop
  | 0, _, _, _, _, _, _, _, _, _, _ => False
  | n_ + 1, v1, v2, v3, v4, v5, v6, v7, v8, M, L => (((Int32.ofInt 5) ≤ v8 → ((v5 = 0 → C_86 v1 v2 v3 (v4 + Int32.ofInt 1) M L) ∧ (¬ (v5 = 0) → ((v6 = 0 → ((v3 < 0 → C_86 v1 v2 v7 (v4 + Int32.ofInt 1) M L) ∧ (¬ (v3 < 0) → ((v3 ≤ v7 → C_86 v1 v2 v3 (v4 + Int32.ofInt 1) M L) ∧ (¬ (v3 ≤ v7) → C_86 v1 v2 v7 (v4 + Int32.ofInt 1) M L))))) ∧ (¬ (v6 = 0) → C_86 v1 v2 v3 (v4 + Int32.ofInt 1) M L))))) ∧ (¬ ((Int32.ofInt 5) ≤ v8) → (((M 74 12) ≤ v8 → ((v5 = 0 → PL_X10_locked_121 K C_86 n_ v1 v2 v3 v4 (Int32.ofInt 0) v6 (((Int32.ofInt 10) * v7) + (Int32.ofInt 0)) (v8 + Int32.ofInt 1) M L) ∧ (¬ (v5 = 0) → PL_X10_locked_121 K C_86 n_ v1 v2 v3 v4 (Int32.ofInt 1) v6 (((Int32.ofInt 10) * v7) + (Int32.ofInt 0)) (v8 + Int32.ofInt 1) M L))) ∧ (¬ ((M 74 12) ≤ v8) → ((((v1 >>> (v8 &&& 31)) &&& (Int32.ofInt 1)) = (Int32.ofInt 1) → ((vp_in v8 5) ∧ (((f_X10_hasDone M v8) = 0 → (vp_in v8 5 ∧ ((v5 = 0 → P_X10_canTake v8 v1 M L (fun v_52 M_50 L_51 => ((v_52 = 0 → PL_X10_locked_121 K C_86 n_ v1 v2 v3 v4 (Int32.ofInt 1) v6 (((Int32.ofInt 10) * v7) + (M 105 v8.toNatClampNeg)) (v8 + Int32.ofInt 1) M_50 L_51) ∧ (¬ (v_52 = 0) → (vp_in (v4 + (f_X10_powerOf M_50 v8)) 32768 ∧ PL_X10_locked_121 K C_86 n_ v1 v2 v3 v4 (Int32.ofInt 1) (Int32.ofInt 1) (((Int32.ofInt 10) * v7) + (M 105 v8.toNatClampNeg)) (v8 + Int32.ofInt 1) (mput M_50 104 ((v4 + (f_X10_powerOf M_50 v8)).toNatClampNeg) (vp_nar .boolean (Int32.ofInt 1))) L_51))))) ∧ (¬ (v5 = 0) → P_X10_canTake v8 v1 M L (fun v_45 M_43 L_44 => ((v_45 = 0 → PL_X10_locked_121 K C_86 n_ v1 v2 v3 v4 (Int32.ofInt 1) v6 (((Int32.ofInt 10) * v7) + (M 105 v8.toNatClampNeg)) (v8 + Int32.ofInt 1) M_43 L_44) ∧ (¬ (v_45 = 0) → (vp_in (v4 + (f_X10_powerOf M_43 v8)) 32768 ∧ PL_X10_locked_121 K C_86 n_ v1 v2 v3 v4 (Int32.ofInt 1) (Int32.ofInt 1) (((Int32.ofInt 10) * v7) + (M 105 v8.toNatClampNeg)) (v8 + Int32.ofInt 1) (mput M_43 104 ((v4 + (f_X10_powerOf M_43 v8)).toNatClampNeg) (vp_nar .boolean (Int32.ofInt 1))) L_44)))))))) ∧ (¬ ((f_X10_hasDone M v8) = 0) → ((v5 = 0 → PL_X10_locked_121 K C_86 n_ v1 v2 v3 v4 (Int32.ofInt 0) v6 (((Int32.ofInt 10) * v7) + (Int32.ofInt 0)) (v8 + Int32.ofInt 1) M L) ∧ (¬ (v5 = 0) → PL_X10_locked_121 K C_86 n_ v1 v2 v3 v4 (Int32.ofInt 1) v6 (((Int32.ofInt 10) * v7) + (Int32.ofInt 0)) (v8 + Int32.ofInt 1) M L)))))) ∧ (¬ (((v1 >>> (v8 &&& 31)) &&& (Int32.ofInt 1)) = (Int32.ofInt 1)) → ((v5 = 0 → PL_X10_locked_121 K C_86 n_ v1 v2 v3 v4 (Int32.ofInt 0) v6 (((Int32.ofInt 10) * v7) + (Int32.ofInt 0)) (v8 + Int32.ofInt 1) M L) ∧ (¬ (v5 = 0) → PL_X10_locked_121 K C_86 n_ v1 v2 v3 v4 (Int32.ofInt 1) v6 (((Int32.ofInt 10) * v7) + (Int32.ofInt 0)) (v8 + Int32.ofInt 1) M L))))))))
theorem tl_X10_locked_121 {E : VE} {d : Nat} {Q : QQ} {K : Int32 → Mem → LMem → Prop} {C_86 : Int32 → Int32 → Int32 → Int32 → Mem → LMem → Prop} (hK : ∀ (v : Int32) (M : Mem) (L : LMem), K v M L → Q (some (.int v)) M L) (hC_86 : ∀ (v1 : Int32) (v2 : Int32) (v3 : Int32) (v4 : Int32) (M : Mem) (L : LMem), C_86 v1 v2 v3 v4 M L → Wp E (d + 5) 145 86 [.ref 74, .int v1, .int v2, .int v3, .int v4, .null, .null, .null, .null, .null] [] M L Q) : ∀ (n_ : Nat) (v1 : Int32) (v2 : Int32) (v3 : Int32) (v4 : Int32) (v5 : Int32) (v6 : Int32) (v7 : Int32) (v8 : Int32) (M : Mem) (L : LMem), PL_X10_locked_121 K C_86 n_ v1 v2 v3 v4 v5 v6 v7 v8 M L → Wp E (d + 5) 145 121 [.ref 74, .int v1, .int v2, .int v3, .int v4, .int v5, .int v6, .int v7, .int v8, .null] [] M L Q := by
  intro n_
  induction n_ with
  | zero => intro v1 v2 v3 v4 v5 v6 v7 v8 M L hP; exact False.elim hP
  | succ n_ ih =>
    intro v1 v2 v3 v4 v5 v6 v7 v8 M L hP
    unfold PL_X10_locked_121 at hP
    refine wp_seg (pc' := 124) [.iload 8, .iconst 5] (by decide +kernel) (?_ : Wp E (d + 5) 145 124 [.ref 74, .int v1, .int v2, .int v3, .int v4, .int v5, .int v6, .int v7, .int v8, .null] [.int (Int32.ofInt 5), .int v8] M L Q)
    refine wp_icmpge (off := 117) 241 (by decide +kernel) (by decide) (fun c_15 => ?_) (fun c_15 => ?_)
    · have hP := hP.1 c_15
      refine wp_seg (pc' := 243) [.iload 5] (by decide +kernel) (?_ : Wp E (d + 5) 145 243 [.ref 74, .int v1, .int v2, .int v3, .int v4, .int v5, .int v6, .int v7, .int v8, .null] [.int v5] M L Q)
      refine wp_ifeq (off := 23) 266 (by decide +kernel) (by decide) (fun c_16 => ?_) (fun c_16 => ?_)
      · have hP := hP.1 c_16
        refine wp_seg (pc' := 86) [.iload 3, .istore 3, .iinc 4 1, .goto 0] (by decide +kernel) (?_ : Wp E (d + 5) 145 86 [.ref 74, .int v1, .int v2, .int v3, .int (v4 + Int32.ofInt 1), .int v5, .int v6, .int v7, .int v8, .null] [] M L Q)
        refine wp_drop (lo := [.ref 74, .int v1, .int v2, .int v3, .int (v4 + Int32.ofInt 1), .null, .null, .null, .null, .null]) ⟨Or.inr rfl, Or.inr rfl, Or.inr rfl, Or.inr rfl, Or.inr rfl, Or.inl rfl, Or.inl rfl, Or.inl rfl, Or.inl rfl, Or.inl rfl, trivial⟩ ?_
        exact hC_86 v1 v2 v3 (v4 + Int32.ofInt 1) M L hP
      · have hP := hP.2 c_16
        refine wp_seg (pc' := 248) [.iload 6] (by decide +kernel) (?_ : Wp E (d + 5) 145 248 [.ref 74, .int v1, .int v2, .int v3, .int v4, .int v5, .int v6, .int v7, .int v8, .null] [.int v6] M L Q)
        refine wp_ifne (off := 18) 266 (by decide +kernel) (by decide) (fun c_17 => ?_) (fun c_17 => ?_)
        · have hP := hP.2 c_17
          refine wp_seg (pc' := 86) [.iload 3, .istore 3, .iinc 4 1, .goto 0] (by decide +kernel) (?_ : Wp E (d + 5) 145 86 [.ref 74, .int v1, .int v2, .int v3, .int (v4 + Int32.ofInt 1), .int v5, .int v6, .int v7, .int v8, .null] [] M L Q)
          refine wp_drop (lo := [.ref 74, .int v1, .int v2, .int v3, .int (v4 + Int32.ofInt 1), .null, .null, .null, .null, .null]) ⟨Or.inr rfl, Or.inr rfl, Or.inr rfl, Or.inr rfl, Or.inr rfl, Or.inl rfl, Or.inl rfl, Or.inl rfl, Or.inl rfl, Or.inl rfl, trivial⟩ ?_
          exact hC_86 v1 v2 v3 (v4 + Int32.ofInt 1) M L hP
        · have hP := hP.1 c_17
          refine wp_seg (pc' := 252) [.iload 3] (by decide +kernel) (?_ : Wp E (d + 5) 145 252 [.ref 74, .int v1, .int v2, .int v3, .int v4, .int v5, .int v6, .int v7, .int v8, .null] [.int v3] M L Q)
          refine wp_iflt (off := 9) 261 (by decide +kernel) (by decide) (fun c_18 => ?_) (fun c_18 => ?_)
          · have hP := hP.1 c_18
            refine wp_seg (pc' := 86) [.iload 7, .goto 0, .istore 3, .iinc 4 1, .goto 0] (by decide +kernel) (?_ : Wp E (d + 5) 145 86 [.ref 74, .int v1, .int v2, .int v7, .int (v4 + Int32.ofInt 1), .int v5, .int v6, .int v7, .int v8, .null] [] M L Q)
            refine wp_drop (lo := [.ref 74, .int v1, .int v2, .int v7, .int (v4 + Int32.ofInt 1), .null, .null, .null, .null, .null]) ⟨Or.inr rfl, Or.inr rfl, Or.inr rfl, Or.inr rfl, Or.inr rfl, Or.inl rfl, Or.inl rfl, Or.inl rfl, Or.inl rfl, Or.inl rfl, trivial⟩ ?_
            exact hC_86 v1 v2 v7 (v4 + Int32.ofInt 1) M L hP
          · have hP := hP.2 c_18
            refine wp_seg (pc' := 258) [.iload 7, .iload 3] (by decide +kernel) (?_ : Wp E (d + 5) 145 258 [.ref 74, .int v1, .int v2, .int v3, .int v4, .int v5, .int v6, .int v7, .int v8, .null] [.int v3, .int v7] M L Q)
            refine wp_icmpge (off := 8) 266 (by decide +kernel) (by decide) (fun c_19 => ?_) (fun c_19 => ?_)
            · have hP := hP.1 c_19
              refine wp_seg (pc' := 86) [.iload 3, .istore 3, .iinc 4 1, .goto 0] (by decide +kernel) (?_ : Wp E (d + 5) 145 86 [.ref 74, .int v1, .int v2, .int v3, .int (v4 + Int32.ofInt 1), .int v5, .int v6, .int v7, .int v8, .null] [] M L Q)
              refine wp_drop (lo := [.ref 74, .int v1, .int v2, .int v3, .int (v4 + Int32.ofInt 1), .null, .null, .null, .null, .null]) ⟨Or.inr rfl, Or.inr rfl, Or.inr rfl, Or.inr rfl, Or.inr rfl, Or.inl rfl, Or.inl rfl, Or.inl rfl, Or.inl rfl, Or.inl rfl, trivial⟩ ?_
              exact hC_86 v1 v2 v3 (v4 + Int32.ofInt 1) M L hP
            · have hP := hP.2 c_19
              refine wp_seg (pc' := 86) [.iload 7, .goto 0, .istore 3, .iinc 4 1, .goto 0] (by decide +kernel) (?_ : Wp E (d + 5) 145 86 [.ref 74, .int v1, .int v2, .int v7, .int (v4 + Int32.ofInt 1), .int v5, .int v6, .int v7, .int v8, .null] [] M L Q)
              refine wp_drop (lo := [.ref 74, .int v1, .int v2, .int v7, .int (v4 + Int32.ofInt 1), .null, .null, .null, .null, .null]) ⟨Or.inr rfl, Or.inr rfl, Or.inr rfl, Or.inr rfl, Or.inr rfl, Or.inl rfl, Or.inl rfl, Or.inl rfl, Or.inl rfl, Or.inl rfl, trivial⟩ ?_
              exact hC_86 v1 v2 v7 (v4 + Int32.ofInt 1) M L hP
    · have hP := hP.2 c_15
      refine wp_seg (pc' := 133) [.iload 8, .aload 0, .getfield 652] (by decide +kernel) (?_ : Wp E (d + 5) 145 133 [.ref 74, .int v1, .int v2, .int v3, .int v4, .int v5, .int v6, .int v7, .int v8, .null] [.int (M 74 12), .int v8] M L Q)
      refine wp_icmpge (off := 26) 159 (by decide +kernel) (by decide) (fun c_20 => ?_) (fun c_20 => ?_)
      · have hP := hP.1 c_20
        refine wp_seg (pc' := 169) [.iconst 0, .istore 9, .iconst 10, .iload 7, .imul, .iload 9] (by decide +kernel) (?_ : Wp E (d + 5) 145 169 [.ref 74, .int v1, .int v2, .int v3, .int v4, .int v5, .int v6, .int v7, .int v8, .int (Int32.ofInt 0)] [.int (Int32.ofInt 0), .int ((Int32.ofInt 10) * v7)] M L Q)
        refine wp_ifeq (off := 13) 182 (by decide +kernel) (by decide) (fun c_21 => ?_) (fun c_21 => ?_)
        · skip
          refine wp_seg (pc' := 188) [.iconst 0, .iadd, .istore 7, .iload 5] (by decide +kernel) (?_ : Wp E (d + 5) 145 188 [.ref 74, .int v1, .int v2, .int v3, .int v4, .int v5, .int v6, .int (((Int32.ofInt 10) * v7) + (Int32.ofInt 0)), .int v8, .int (Int32.ofInt 0)] [.int v5] M L Q)
          refine wp_ifne (off := 8) 196 (by decide +kernel) (by decide) (fun c_22 => ?_) (fun c_22 => ?_)
          · have hP := hP.2 c_22
            refine wp_seg (pc' := 205) [.iconst 1, .goto 0, .istore 5, .iload 9] (by decide +kernel) (?_ : Wp E (d + 5) 145 205 [.ref 74, .int v1, .int v2, .int v3, .int v4, .int (Int32.ofInt 1), .int v6, .int (((Int32.ofInt 10) * v7) + (Int32.ofInt 0)), .int v8, .int (Int32.ofInt 0)] [.int (Int32.ofInt 0)] M L Q)
            refine wp_ifeq (off := 30) 235 (by decide +kernel) (by decide) (fun c_23 => ?_) (fun c_23 => ?_)
            · skip
              refine wp_seg (pc' := 121) [.iinc 8 1, .goto 0] (by decide +kernel) (?_ : Wp E (d + 5) 145 121 [.ref 74, .int v1, .int v2, .int v3, .int v4, .int (Int32.ofInt 1), .int v6, .int (((Int32.ofInt 10) * v7) + (Int32.ofInt 0)), .int (v8 + Int32.ofInt 1), .int (Int32.ofInt 0)] [] M L Q)
              refine wp_drop (lo := [.ref 74, .int v1, .int v2, .int v3, .int v4, .int (Int32.ofInt 1), .int v6, .int (((Int32.ofInt 10) * v7) + (Int32.ofInt 0)), .int (v8 + Int32.ofInt 1), .null]) ⟨Or.inr rfl, Or.inr rfl, Or.inr rfl, Or.inr rfl, Or.inr rfl, Or.inr rfl, Or.inr rfl, Or.inr rfl, Or.inr rfl, Or.inl rfl, trivial⟩ ?_
              exact ih v1 v2 v3 v4 (Int32.ofInt 1) v6 (((Int32.ofInt 10) * v7) + (Int32.ofInt 0)) (v8 + Int32.ofInt 1) M L hP
            · exact absurd (by decide) c_23
          · have hP := hP.1 c_22
            refine wp_seg (pc' := 193) [.iload 9] (by decide +kernel) (?_ : Wp E (d + 5) 145 193 [.ref 74, .int v1, .int v2, .int v3, .int v4, .int v5, .int v6, .int (((Int32.ofInt 10) * v7) + (Int32.ofInt 0)), .int v8, .int (Int32.ofInt 0)] [.int (Int32.ofInt 0)] M L Q)
            refine wp_ifeq (off := 7) 200 (by decide +kernel) (by decide) (fun c_24 => ?_) (fun c_24 => ?_)
            · skip
              refine wp_seg (pc' := 205) [.iconst 0, .istore 5, .iload 9] (by decide +kernel) (?_ : Wp E (d + 5) 145 205 [.ref 74, .int v1, .int v2, .int v3, .int v4, .int (Int32.ofInt 0), .int v6, .int (((Int32.ofInt 10) * v7) + (Int32.ofInt 0)), .int v8, .int (Int32.ofInt 0)] [.int (Int32.ofInt 0)] M L Q)
              refine wp_ifeq (off := 30) 235 (by decide +kernel) (by decide) (fun c_25 => ?_) (fun c_25 => ?_)
              · skip
                refine wp_seg (pc' := 121) [.iinc 8 1, .goto 0] (by decide +kernel) (?_ : Wp E (d + 5) 145 121 [.ref 74, .int v1, .int v2, .int v3, .int v4, .int (Int32.ofInt 0), .int v6, .int (((Int32.ofInt 10) * v7) + (Int32.ofInt 0)), .int (v8 + Int32.ofInt 1), .int (Int32.ofInt 0)] [] M L Q)
                refine wp_drop (lo := [.ref 74, .int v1, .int v2, .int v3, .int v4, .int (Int32.ofInt 0), .int v6, .int (((Int32.ofInt 10) * v7) + (Int32.ofInt 0)), .int (v8 + Int32.ofInt 1), .null]) ⟨Or.inr rfl, Or.inr rfl, Or.inr rfl, Or.inr rfl, Or.inr rfl, Or.inr rfl, Or.inr rfl, Or.inr rfl, Or.inr rfl, Or.inl rfl, trivial⟩ ?_
                exact ih v1 v2 v3 v4 (Int32.ofInt 0) v6 (((Int32.ofInt 10) * v7) + (Int32.ofInt 0)) (v8 + Int32.ofInt 1) M L hP
              · exact absurd (by decide) c_25
            · exact absurd (by decide) c_24
        · exact absurd (by decide) c_21
      · have hP := hP.2 c_20
        refine wp_seg (pc' := 143) [.iload 1, .iload 8, .ishr, .iconst 1, .iand, .iconst 1] (by decide +kernel) (?_ : Wp E (d + 5) 145 143 [.ref 74, .int v1, .int v2, .int v3, .int v4, .int v5, .int v6, .int v7, .int v8, .null] [.int (Int32.ofInt 1), .int ((v1 >>> (v8 &&& 31)) &&& (Int32.ofInt 1))] M L Q)
        refine wp_icmpne (off := 16) 159 (by decide +kernel) (by decide) (fun c_26 => ?_) (fun c_26 => ?_)
        · have hP := hP.2 c_26
          refine wp_seg (pc' := 169) [.iconst 0, .istore 9, .iconst 10, .iload 7, .imul, .iload 9] (by decide +kernel) (?_ : Wp E (d + 5) 145 169 [.ref 74, .int v1, .int v2, .int v3, .int v4, .int v5, .int v6, .int v7, .int v8, .int (Int32.ofInt 0)] [.int (Int32.ofInt 0), .int ((Int32.ofInt 10) * v7)] M L Q)
          refine wp_ifeq (off := 13) 182 (by decide +kernel) (by decide) (fun c_27 => ?_) (fun c_27 => ?_)
          · skip
            refine wp_seg (pc' := 188) [.iconst 0, .iadd, .istore 7, .iload 5] (by decide +kernel) (?_ : Wp E (d + 5) 145 188 [.ref 74, .int v1, .int v2, .int v3, .int v4, .int v5, .int v6, .int (((Int32.ofInt 10) * v7) + (Int32.ofInt 0)), .int v8, .int (Int32.ofInt 0)] [.int v5] M L Q)
            refine wp_ifne (off := 8) 196 (by decide +kernel) (by decide) (fun c_28 => ?_) (fun c_28 => ?_)
            · have hP := hP.2 c_28
              refine wp_seg (pc' := 205) [.iconst 1, .goto 0, .istore 5, .iload 9] (by decide +kernel) (?_ : Wp E (d + 5) 145 205 [.ref 74, .int v1, .int v2, .int v3, .int v4, .int (Int32.ofInt 1), .int v6, .int (((Int32.ofInt 10) * v7) + (Int32.ofInt 0)), .int v8, .int (Int32.ofInt 0)] [.int (Int32.ofInt 0)] M L Q)
              refine wp_ifeq (off := 30) 235 (by decide +kernel) (by decide) (fun c_29 => ?_) (fun c_29 => ?_)
              · skip
                refine wp_seg (pc' := 121) [.iinc 8 1, .goto 0] (by decide +kernel) (?_ : Wp E (d + 5) 145 121 [.ref 74, .int v1, .int v2, .int v3, .int v4, .int (Int32.ofInt 1), .int v6, .int (((Int32.ofInt 10) * v7) + (Int32.ofInt 0)), .int (v8 + Int32.ofInt 1), .int (Int32.ofInt 0)] [] M L Q)
                refine wp_drop (lo := [.ref 74, .int v1, .int v2, .int v3, .int v4, .int (Int32.ofInt 1), .int v6, .int (((Int32.ofInt 10) * v7) + (Int32.ofInt 0)), .int (v8 + Int32.ofInt 1), .null]) ⟨Or.inr rfl, Or.inr rfl, Or.inr rfl, Or.inr rfl, Or.inr rfl, Or.inr rfl, Or.inr rfl, Or.inr rfl, Or.inr rfl, Or.inl rfl, trivial⟩ ?_
                exact ih v1 v2 v3 v4 (Int32.ofInt 1) v6 (((Int32.ofInt 10) * v7) + (Int32.ofInt 0)) (v8 + Int32.ofInt 1) M L hP
              · exact absurd (by decide) c_29
            · have hP := hP.1 c_28
              refine wp_seg (pc' := 193) [.iload 9] (by decide +kernel) (?_ : Wp E (d + 5) 145 193 [.ref 74, .int v1, .int v2, .int v3, .int v4, .int v5, .int v6, .int (((Int32.ofInt 10) * v7) + (Int32.ofInt 0)), .int v8, .int (Int32.ofInt 0)] [.int (Int32.ofInt 0)] M L Q)
              refine wp_ifeq (off := 7) 200 (by decide +kernel) (by decide) (fun c_30 => ?_) (fun c_30 => ?_)
              · skip
                refine wp_seg (pc' := 205) [.iconst 0, .istore 5, .iload 9] (by decide +kernel) (?_ : Wp E (d + 5) 145 205 [.ref 74, .int v1, .int v2, .int v3, .int v4, .int (Int32.ofInt 0), .int v6, .int (((Int32.ofInt 10) * v7) + (Int32.ofInt 0)), .int v8, .int (Int32.ofInt 0)] [.int (Int32.ofInt 0)] M L Q)
                refine wp_ifeq (off := 30) 235 (by decide +kernel) (by decide) (fun c_31 => ?_) (fun c_31 => ?_)
                · skip
                  refine wp_seg (pc' := 121) [.iinc 8 1, .goto 0] (by decide +kernel) (?_ : Wp E (d + 5) 145 121 [.ref 74, .int v1, .int v2, .int v3, .int v4, .int (Int32.ofInt 0), .int v6, .int (((Int32.ofInt 10) * v7) + (Int32.ofInt 0)), .int (v8 + Int32.ofInt 1), .int (Int32.ofInt 0)] [] M L Q)
                  refine wp_drop (lo := [.ref 74, .int v1, .int v2, .int v3, .int v4, .int (Int32.ofInt 0), .int v6, .int (((Int32.ofInt 10) * v7) + (Int32.ofInt 0)), .int (v8 + Int32.ofInt 1), .null]) ⟨Or.inr rfl, Or.inr rfl, Or.inr rfl, Or.inr rfl, Or.inr rfl, Or.inr rfl, Or.inr rfl, Or.inr rfl, Or.inr rfl, Or.inl rfl, trivial⟩ ?_
                  exact ih v1 v2 v3 v4 (Int32.ofInt 0) v6 (((Int32.ofInt 10) * v7) + (Int32.ofInt 0)) (v8 + Int32.ofInt 1) M L hP
                · exact absurd (by decide) c_31
              · exact absurd (by decide) c_30
          · exact absurd (by decide) c_27
        · have hP := hP.1 c_26
          refine wp_seg (pc' := 149) [.aload 0, .iload 8] (by decide +kernel) (?_ : Wp E (d + 5) 145 149 [.ref 74, .int v1, .int v2, .int v3, .int v4, .int v5, .int v6, .int v7, .int v8, .null] [.int v8, .ref 74] M L Q)
          refine wp_callV 143 74 [.int v8] (i := 276) (by decide +kernel) (by decide +kernel) (by decide +kernel) (by decide +kernel) rfl rfl rfl (rest := []) rfl rfl ?_
          obtain ⟨a_32, hP⟩ := hP
          refine s_X10_hasDone M v8 a_32 ?_
          show Wp E (d + 5) 145 152 [.ref 74, .int v1, .int v2, .int v3, .int v4, .int v5, .int v6, .int v7, .int v8, .null] [.int (f_X10_hasDone M v8)] M L Q
          refine wp_ifne (off := 7) 159 (by decide +kernel) (by decide) (fun c_33 => ?_) (fun c_33 => ?_)
          · have hP := hP.2 c_33
            refine wp_seg (pc' := 169) [.iconst 0, .istore 9, .iconst 10, .iload 7, .imul, .iload 9] (by decide +kernel) (?_ : Wp E (d + 5) 145 169 [.ref 74, .int v1, .int v2, .int v3, .int v4, .int v5, .int v6, .int v7, .int v8, .int (Int32.ofInt 0)] [.int (Int32.ofInt 0), .int ((Int32.ofInt 10) * v7)] M L Q)
            refine wp_ifeq (off := 13) 182 (by decide +kernel) (by decide) (fun c_34 => ?_) (fun c_34 => ?_)
            · skip
              refine wp_seg (pc' := 188) [.iconst 0, .iadd, .istore 7, .iload 5] (by decide +kernel) (?_ : Wp E (d + 5) 145 188 [.ref 74, .int v1, .int v2, .int v3, .int v4, .int v5, .int v6, .int (((Int32.ofInt 10) * v7) + (Int32.ofInt 0)), .int v8, .int (Int32.ofInt 0)] [.int v5] M L Q)
              refine wp_ifne (off := 8) 196 (by decide +kernel) (by decide) (fun c_35 => ?_) (fun c_35 => ?_)
              · have hP := hP.2 c_35
                refine wp_seg (pc' := 205) [.iconst 1, .goto 0, .istore 5, .iload 9] (by decide +kernel) (?_ : Wp E (d + 5) 145 205 [.ref 74, .int v1, .int v2, .int v3, .int v4, .int (Int32.ofInt 1), .int v6, .int (((Int32.ofInt 10) * v7) + (Int32.ofInt 0)), .int v8, .int (Int32.ofInt 0)] [.int (Int32.ofInt 0)] M L Q)
                refine wp_ifeq (off := 30) 235 (by decide +kernel) (by decide) (fun c_36 => ?_) (fun c_36 => ?_)
                · skip
                  refine wp_seg (pc' := 121) [.iinc 8 1, .goto 0] (by decide +kernel) (?_ : Wp E (d + 5) 145 121 [.ref 74, .int v1, .int v2, .int v3, .int v4, .int (Int32.ofInt 1), .int v6, .int (((Int32.ofInt 10) * v7) + (Int32.ofInt 0)), .int (v8 + Int32.ofInt 1), .int (Int32.ofInt 0)] [] M L Q)
                  refine wp_drop (lo := [.ref 74, .int v1, .int v2, .int v3, .int v4, .int (Int32.ofInt 1), .int v6, .int (((Int32.ofInt 10) * v7) + (Int32.ofInt 0)), .int (v8 + Int32.ofInt 1), .null]) ⟨Or.inr rfl, Or.inr rfl, Or.inr rfl, Or.inr rfl, Or.inr rfl, Or.inr rfl, Or.inr rfl, Or.inr rfl, Or.inr rfl, Or.inl rfl, trivial⟩ ?_
                  exact ih v1 v2 v3 v4 (Int32.ofInt 1) v6 (((Int32.ofInt 10) * v7) + (Int32.ofInt 0)) (v8 + Int32.ofInt 1) M L hP
                · exact absurd (by decide) c_36
              · have hP := hP.1 c_35
                refine wp_seg (pc' := 193) [.iload 9] (by decide +kernel) (?_ : Wp E (d + 5) 145 193 [.ref 74, .int v1, .int v2, .int v3, .int v4, .int v5, .int v6, .int (((Int32.ofInt 10) * v7) + (Int32.ofInt 0)), .int v8, .int (Int32.ofInt 0)] [.int (Int32.ofInt 0)] M L Q)
                refine wp_ifeq (off := 7) 200 (by decide +kernel) (by decide) (fun c_37 => ?_) (fun c_37 => ?_)
                · skip
                  refine wp_seg (pc' := 205) [.iconst 0, .istore 5, .iload 9] (by decide +kernel) (?_ : Wp E (d + 5) 145 205 [.ref 74, .int v1, .int v2, .int v3, .int v4, .int (Int32.ofInt 0), .int v6, .int (((Int32.ofInt 10) * v7) + (Int32.ofInt 0)), .int v8, .int (Int32.ofInt 0)] [.int (Int32.ofInt 0)] M L Q)
                  refine wp_ifeq (off := 30) 235 (by decide +kernel) (by decide) (fun c_38 => ?_) (fun c_38 => ?_)
                  · skip
                    refine wp_seg (pc' := 121) [.iinc 8 1, .goto 0] (by decide +kernel) (?_ : Wp E (d + 5) 145 121 [.ref 74, .int v1, .int v2, .int v3, .int v4, .int (Int32.ofInt 0), .int v6, .int (((Int32.ofInt 10) * v7) + (Int32.ofInt 0)), .int (v8 + Int32.ofInt 1), .int (Int32.ofInt 0)] [] M L Q)
                    refine wp_drop (lo := [.ref 74, .int v1, .int v2, .int v3, .int v4, .int (Int32.ofInt 0), .int v6, .int (((Int32.ofInt 10) * v7) + (Int32.ofInt 0)), .int (v8 + Int32.ofInt 1), .null]) ⟨Or.inr rfl, Or.inr rfl, Or.inr rfl, Or.inr rfl, Or.inr rfl, Or.inr rfl, Or.inr rfl, Or.inr rfl, Or.inr rfl, Or.inl rfl, trivial⟩ ?_
                    exact ih v1 v2 v3 v4 (Int32.ofInt 0) v6 (((Int32.ofInt 10) * v7) + (Int32.ofInt 0)) (v8 + Int32.ofInt 1) M L hP
                  · exact absurd (by decide) c_38
                · exact absurd (by decide) c_37
            · exact absurd (by decide) c_34
          · have hP := hP.1 c_33
            refine wp_seg (pc' := 169) [.iconst 1, .goto 0, .istore 9, .iconst 10, .iload 7, .imul, .iload 9] (by decide +kernel) (?_ : Wp E (d + 5) 145 169 [.ref 74, .int v1, .int v2, .int v3, .int v4, .int v5, .int v6, .int v7, .int v8, .int (Int32.ofInt 1)] [.int (Int32.ofInt 1), .int ((Int32.ofInt 10) * v7)] M L Q)
            refine wp_ifeq (off := 13) 182 (by decide +kernel) (by decide) (fun c_39 => ?_) (fun c_39 => ?_)
            · exact absurd c_39 (by decide)
            · skip
              obtain ⟨a_40, hP⟩ := hP
              refine wp_seg (pc' := 179) [.aload 0, .getfield 683, .iload 8, .iaload] (by decide +kernel) (show aok 105 0 v8 ∧ Wp E (d + 5) 145 179 [.ref 74, .int v1, .int v2, .int v3, .int v4, .int v5, .int v6, .int v7, .int v8, .int (Int32.ofInt 1)] [.int (M 105 v8.toNatClampNeg), .int ((Int32.ofInt 10) * v7)] M L Q from ⟨⟨rfl, a_40⟩, ?_⟩)
              refine wp_seg (pc' := 188) [.goto 0, .iadd, .istore 7, .iload 5] (by decide +kernel) (?_ : Wp E (d + 5) 145 188 [.ref 74, .int v1, .int v2, .int v3, .int v4, .int v5, .int v6, .int (((Int32.ofInt 10) * v7) + (M 105 v8.toNatClampNeg)), .int v8, .int (Int32.ofInt 1)] [.int v5] M L Q)
              refine wp_ifne (off := 8) 196 (by decide +kernel) (by decide) (fun c_41 => ?_) (fun c_41 => ?_)
              · have hP := hP.2 c_41
                refine wp_seg (pc' := 205) [.iconst 1, .goto 0, .istore 5, .iload 9] (by decide +kernel) (?_ : Wp E (d + 5) 145 205 [.ref 74, .int v1, .int v2, .int v3, .int v4, .int (Int32.ofInt 1), .int v6, .int (((Int32.ofInt 10) * v7) + (M 105 v8.toNatClampNeg)), .int v8, .int (Int32.ofInt 1)] [.int (Int32.ofInt 1)] M L Q)
                refine wp_ifeq (off := 30) 235 (by decide +kernel) (by decide) (fun c_42 => ?_) (fun c_42 => ?_)
                · exact absurd c_42 (by decide)
                · skip
                  refine wp_seg (pc' := 212) [.aload 0, .iload 8, .iload 1] (by decide +kernel) (?_ : Wp E (d + 5) 145 212 [.ref 74, .int v1, .int v2, .int v3, .int v4, .int (Int32.ofInt 1), .int v6, .int (((Int32.ofInt 10) * v7) + (M 105 v8.toNatClampNeg)), .int v8, .int (Int32.ofInt 1)] [.int v1, .int v8, .ref 74] M L Q)
                  refine wp_callV 144 74 [.int v8, .int v1] (i := 285) (by decide +kernel) (by decide +kernel) (by decide +kernel) (by decide +kernel) rfl rfl rfl (rest := []) rfl rfl ?_
                  refine t_X10_canTake hP (fun v_45 M_43 L_44 hP => ?_)
                  show Wp E (d + 5) 145 215 [.ref 74, .int v1, .int v2, .int v3, .int v4, .int (Int32.ofInt 1), .int v6, .int (((Int32.ofInt 10) * v7) + (M 105 v8.toNatClampNeg)), .int v8, .int (Int32.ofInt 1)] [.int v_45] M_43 L_44 Q
                  refine wp_ifeq (off := 20) 235 (by decide +kernel) (by decide) (fun c_46 => ?_) (fun c_46 => ?_)
                  · have hP := hP.1 c_46
                    refine wp_seg (pc' := 121) [.iinc 8 1, .goto 0] (by decide +kernel) (?_ : Wp E (d + 5) 145 121 [.ref 74, .int v1, .int v2, .int v3, .int v4, .int (Int32.ofInt 1), .int v6, .int (((Int32.ofInt 10) * v7) + (M 105 v8.toNatClampNeg)), .int (v8 + Int32.ofInt 1), .int (Int32.ofInt 1)] [] M_43 L_44 Q)
                    refine wp_drop (lo := [.ref 74, .int v1, .int v2, .int v3, .int v4, .int (Int32.ofInt 1), .int v6, .int (((Int32.ofInt 10) * v7) + (M 105 v8.toNatClampNeg)), .int (v8 + Int32.ofInt 1), .null]) ⟨Or.inr rfl, Or.inr rfl, Or.inr rfl, Or.inr rfl, Or.inr rfl, Or.inr rfl, Or.inr rfl, Or.inr rfl, Or.inr rfl, Or.inl rfl, trivial⟩ ?_
                    exact ih v1 v2 v3 v4 (Int32.ofInt 1) v6 (((Int32.ofInt 10) * v7) + (M 105 v8.toNatClampNeg)) (v8 + Int32.ofInt 1) M_43 L_44 hP
                  · have hP := hP.2 c_46
                    refine wp_seg (pc' := 229) [.iconst 1, .istore 6, .aload 0, .getfield 682, .iload 4, .iload 8] (by decide +kernel) (?_ : Wp E (d + 5) 145 229 [.ref 74, .int v1, .int v2, .int v3, .int v4, .int (Int32.ofInt 1), .int (Int32.ofInt 1), .int (((Int32.ofInt 10) * v7) + (M 105 v8.toNatClampNeg)), .int v8, .int (Int32.ofInt 1)] [.int v8, .int v4, .ref 104] M_43 L_44 Q)
                    refine wp_callS 141 [.int v8] (i := 288) (by decide +kernel) (by decide +kernel) (by decide +kernel) rfl rfl rfl (rest := [.int v4, .ref 104]) rfl rfl ?_
                    refine s_X10_powerOf M_43 v8  ?_
                    show Wp E (d + 5) 145 232 [.ref 74, .int v1, .int v2, .int v3, .int v4, .int (Int32.ofInt 1), .int (Int32.ofInt 1), .int (((Int32.ofInt 10) * v7) + (M 105 v8.toNatClampNeg)), .int v8, .int (Int32.ofInt 1)] [.int (f_X10_powerOf M_43 v8), .int v4, .ref 104] M_43 L_44 Q
                    obtain ⟨a_47, hP⟩ := hP
                    refine wp_seg (pc' := 235) [.iadd, .iconst 1, .bastore] (by decide +kernel) (Or.inl (show aok 104 1 (v4 + (f_X10_powerOf M_43 v8)) ∧ Wp E (d + 5) 145 235 [.ref 74, .int v1, .int v2, .int v3, .int v4, .int (Int32.ofInt 1), .int (Int32.ofInt 1), .int (((Int32.ofInt 10) * v7) + (M 105 v8.toNatClampNeg)), .int v8, .int (Int32.ofInt 1)] [] (mput M_43 104 ((v4 + (f_X10_powerOf M_43 v8)).toNatClampNeg) (vp_nar .boolean (Int32.ofInt 1))) L_44 Q from ⟨⟨rfl, a_47⟩, ?_⟩))
                    refine wp_seg (pc' := 121) [.iinc 8 1, .goto 0] (by decide +kernel) (?_ : Wp E (d + 5) 145 121 [.ref 74, .int v1, .int v2, .int v3, .int v4, .int (Int32.ofInt 1), .int (Int32.ofInt 1), .int (((Int32.ofInt 10) * v7) + (M 105 v8.toNatClampNeg)), .int (v8 + Int32.ofInt 1), .int (Int32.ofInt 1)] [] (mput M_43 104 ((v4 + (f_X10_powerOf M_43 v8)).toNatClampNeg) (vp_nar .boolean (Int32.ofInt 1))) L_44 Q)
                    refine wp_drop (lo := [.ref 74, .int v1, .int v2, .int v3, .int v4, .int (Int32.ofInt 1), .int (Int32.ofInt 1), .int (((Int32.ofInt 10) * v7) + (M 105 v8.toNatClampNeg)), .int (v8 + Int32.ofInt 1), .null]) ⟨Or.inr rfl, Or.inr rfl, Or.inr rfl, Or.inr rfl, Or.inr rfl, Or.inr rfl, Or.inr rfl, Or.inr rfl, Or.inr rfl, Or.inl rfl, trivial⟩ ?_
                    exact ih v1 v2 v3 v4 (Int32.ofInt 1) (Int32.ofInt 1) (((Int32.ofInt 10) * v7) + (M 105 v8.toNatClampNeg)) (v8 + Int32.ofInt 1) (mput M_43 104 ((v4 + (f_X10_powerOf M_43 v8)).toNatClampNeg) (vp_nar .boolean (Int32.ofInt 1))) L_44 hP
              · have hP := hP.1 c_41
                refine wp_seg (pc' := 193) [.iload 9] (by decide +kernel) (?_ : Wp E (d + 5) 145 193 [.ref 74, .int v1, .int v2, .int v3, .int v4, .int v5, .int v6, .int (((Int32.ofInt 10) * v7) + (M 105 v8.toNatClampNeg)), .int v8, .int (Int32.ofInt 1)] [.int (Int32.ofInt 1)] M L Q)
                refine wp_ifeq (off := 7) 200 (by decide +kernel) (by decide) (fun c_48 => ?_) (fun c_48 => ?_)
                · exact absurd c_48 (by decide)
                · skip
                  refine wp_seg (pc' := 205) [.iconst 1, .goto 0, .istore 5, .iload 9] (by decide +kernel) (?_ : Wp E (d + 5) 145 205 [.ref 74, .int v1, .int v2, .int v3, .int v4, .int (Int32.ofInt 1), .int v6, .int (((Int32.ofInt 10) * v7) + (M 105 v8.toNatClampNeg)), .int v8, .int (Int32.ofInt 1)] [.int (Int32.ofInt 1)] M L Q)
                  refine wp_ifeq (off := 30) 235 (by decide +kernel) (by decide) (fun c_49 => ?_) (fun c_49 => ?_)
                  · exact absurd c_49 (by decide)
                  · skip
                    refine wp_seg (pc' := 212) [.aload 0, .iload 8, .iload 1] (by decide +kernel) (?_ : Wp E (d + 5) 145 212 [.ref 74, .int v1, .int v2, .int v3, .int v4, .int (Int32.ofInt 1), .int v6, .int (((Int32.ofInt 10) * v7) + (M 105 v8.toNatClampNeg)), .int v8, .int (Int32.ofInt 1)] [.int v1, .int v8, .ref 74] M L Q)
                    refine wp_callV 144 74 [.int v8, .int v1] (i := 285) (by decide +kernel) (by decide +kernel) (by decide +kernel) (by decide +kernel) rfl rfl rfl (rest := []) rfl rfl ?_
                    refine t_X10_canTake hP (fun v_52 M_50 L_51 hP => ?_)
                    show Wp E (d + 5) 145 215 [.ref 74, .int v1, .int v2, .int v3, .int v4, .int (Int32.ofInt 1), .int v6, .int (((Int32.ofInt 10) * v7) + (M 105 v8.toNatClampNeg)), .int v8, .int (Int32.ofInt 1)] [.int v_52] M_50 L_51 Q
                    refine wp_ifeq (off := 20) 235 (by decide +kernel) (by decide) (fun c_53 => ?_) (fun c_53 => ?_)
                    · have hP := hP.1 c_53
                      refine wp_seg (pc' := 121) [.iinc 8 1, .goto 0] (by decide +kernel) (?_ : Wp E (d + 5) 145 121 [.ref 74, .int v1, .int v2, .int v3, .int v4, .int (Int32.ofInt 1), .int v6, .int (((Int32.ofInt 10) * v7) + (M 105 v8.toNatClampNeg)), .int (v8 + Int32.ofInt 1), .int (Int32.ofInt 1)] [] M_50 L_51 Q)
                      refine wp_drop (lo := [.ref 74, .int v1, .int v2, .int v3, .int v4, .int (Int32.ofInt 1), .int v6, .int (((Int32.ofInt 10) * v7) + (M 105 v8.toNatClampNeg)), .int (v8 + Int32.ofInt 1), .null]) ⟨Or.inr rfl, Or.inr rfl, Or.inr rfl, Or.inr rfl, Or.inr rfl, Or.inr rfl, Or.inr rfl, Or.inr rfl, Or.inr rfl, Or.inl rfl, trivial⟩ ?_
                      exact ih v1 v2 v3 v4 (Int32.ofInt 1) v6 (((Int32.ofInt 10) * v7) + (M 105 v8.toNatClampNeg)) (v8 + Int32.ofInt 1) M_50 L_51 hP
                    · have hP := hP.2 c_53
                      refine wp_seg (pc' := 229) [.iconst 1, .istore 6, .aload 0, .getfield 682, .iload 4, .iload 8] (by decide +kernel) (?_ : Wp E (d + 5) 145 229 [.ref 74, .int v1, .int v2, .int v3, .int v4, .int (Int32.ofInt 1), .int (Int32.ofInt 1), .int (((Int32.ofInt 10) * v7) + (M 105 v8.toNatClampNeg)), .int v8, .int (Int32.ofInt 1)] [.int v8, .int v4, .ref 104] M_50 L_51 Q)
                      refine wp_callS 141 [.int v8] (i := 288) (by decide +kernel) (by decide +kernel) (by decide +kernel) rfl rfl rfl (rest := [.int v4, .ref 104]) rfl rfl ?_
                      refine s_X10_powerOf M_50 v8  ?_
                      show Wp E (d + 5) 145 232 [.ref 74, .int v1, .int v2, .int v3, .int v4, .int (Int32.ofInt 1), .int (Int32.ofInt 1), .int (((Int32.ofInt 10) * v7) + (M 105 v8.toNatClampNeg)), .int v8, .int (Int32.ofInt 1)] [.int (f_X10_powerOf M_50 v8), .int v4, .ref 104] M_50 L_51 Q
                      obtain ⟨a_54, hP⟩ := hP
                      refine wp_seg (pc' := 235) [.iadd, .iconst 1, .bastore] (by decide +kernel) (Or.inl (show aok 104 1 (v4 + (f_X10_powerOf M_50 v8)) ∧ Wp E (d + 5) 145 235 [.ref 74, .int v1, .int v2, .int v3, .int v4, .int (Int32.ofInt 1), .int (Int32.ofInt 1), .int (((Int32.ofInt 10) * v7) + (M 105 v8.toNatClampNeg)), .int v8, .int (Int32.ofInt 1)] [] (mput M_50 104 ((v4 + (f_X10_powerOf M_50 v8)).toNatClampNeg) (vp_nar .boolean (Int32.ofInt 1))) L_51 Q from ⟨⟨rfl, a_54⟩, ?_⟩))
                      refine wp_seg (pc' := 121) [.iinc 8 1, .goto 0] (by decide +kernel) (?_ : Wp E (d + 5) 145 121 [.ref 74, .int v1, .int v2, .int v3, .int v4, .int (Int32.ofInt 1), .int (Int32.ofInt 1), .int (((Int32.ofInt 10) * v7) + (M 105 v8.toNatClampNeg)), .int (v8 + Int32.ofInt 1), .int (Int32.ofInt 1)] [] (mput M_50 104 ((v4 + (f_X10_powerOf M_50 v8)).toNatClampNeg) (vp_nar .boolean (Int32.ofInt 1))) L_51 Q)
                      refine wp_drop (lo := [.ref 74, .int v1, .int v2, .int v3, .int v4, .int (Int32.ofInt 1), .int (Int32.ofInt 1), .int (((Int32.ofInt 10) * v7) + (M 105 v8.toNatClampNeg)), .int (v8 + Int32.ofInt 1), .null]) ⟨Or.inr rfl, Or.inr rfl, Or.inr rfl, Or.inr rfl, Or.inr rfl, Or.inr rfl, Or.inr rfl, Or.inr rfl, Or.inr rfl, Or.inl rfl, trivial⟩ ?_
                      exact ih v1 v2 v3 v4 (Int32.ofInt 1) (Int32.ofInt 1) (((Int32.ofInt 10) * v7) + (M 105 v8.toNatClampNeg)) (v8 + Int32.ofInt 1) (mput M_50 104 ((v4 + (f_X10_powerOf M_50 v8)).toNatClampNeg) (vp_nar .boolean (Int32.ofInt 1))) L_51 hP
def PL_X10_locked_86 (K : Int32 → Mem → LMem → Prop)  : Nat → Int32 → Int32 → Int32 → Int32 → Mem → LMem → Prop
  | 0, _, _, _, _, _, _ => False
  | n_ + 1, v1, v2, v3, v4, M, L => (((Int32.ofInt 32768) ≤ v4 → ((0 ≤ v3 → K ((Int32.ofInt 1000000) + v3) M L) ∧ (¬ (0 ≤ v3) → K (Int32.ofInt (-6)) M L))) ∧ (¬ ((Int32.ofInt 32768) ≤ v4) → (vp_in v4 32768 ∧ (((M 104 v4.toNatClampNeg) = 0 → PL_X10_locked_86 K n_ v1 v2 v3 (v4 + Int32.ofInt 1) M L) ∧ (¬ ((M 104 v4.toNatClampNeg) = 0) → P_X10_layHolds v4 M L (fun M_13 L_14 => PL_X10_locked_121 K (PL_X10_locked_86 K n_) 100000 v1 v2 v3 v4 (Int32.ofInt 0) (Int32.ofInt 0) (Int32.ofInt 0) (Int32.ofInt 0) M_13 L_14))))))
theorem tl_X10_locked_86 {E : VE} {d : Nat} {Q : QQ} {K : Int32 → Mem → LMem → Prop}  (hK : ∀ (v : Int32) (M : Mem) (L : LMem), K v M L → Q (some (.int v)) M L)  : ∀ (n_ : Nat) (v1 : Int32) (v2 : Int32) (v3 : Int32) (v4 : Int32) (M : Mem) (L : LMem), PL_X10_locked_86 K n_ v1 v2 v3 v4 M L → Wp E (d + 5) 145 86 [.ref 74, .int v1, .int v2, .int v3, .int v4, .null, .null, .null, .null, .null] [] M L Q := by
  intro n_
  induction n_ with
  | zero => intro v1 v2 v3 v4 M L hP; exact False.elim hP
  | succ n_ ih =>
    intro v1 v2 v3 v4 M L hP
    unfold PL_X10_locked_86 at hP
    refine wp_seg (pc' := 90) [.iload 4, .iconst 32768] (by decide +kernel) (?_ : Wp E (d + 5) 145 90 [.ref 74, .int v1, .int v2, .int v3, .int v4, .null, .null, .null, .null, .null] [.int (Int32.ofInt 32768), .int v4] M L Q)
    refine wp_icmpge (off := 184) 274 (by decide +kernel) (by decide) (fun c_9 => ?_) (fun c_9 => ?_)
    · have hP := hP.1 c_9
      refine wp_seg (pc' := 275) [.iload 3] (by decide +kernel) (?_ : Wp E (d + 5) 145 275 [.ref 74, .int v1, .int v2, .int v3, .int v4, .null, .null, .null, .null, .null] [.int v3] M L Q)
      refine wp_ifge (off := 8) 283 (by decide +kernel) (by decide) (fun c_10 => ?_) (fun c_10 => ?_)
      · have hP := hP.1 c_10
        refine wp_seg (pc' := 288) [.iconst 1000000, .iload 3, .iadd] (by decide +kernel) (?_ : Wp E (d + 5) 145 288 [.ref 74, .int v1, .int v2, .int v3, .int v4, .null, .null, .null, .null, .null] [.int ((Int32.ofInt 1000000) + v3)] M L Q)
        exact wp_iret (by decide +kernel) rfl (hK _ _ _ hP)
      · have hP := hP.2 c_10
        refine wp_seg (pc' := 288) [.iconst (-6), .goto 0] (by decide +kernel) (?_ : Wp E (d + 5) 145 288 [.ref 74, .int v1, .int v2, .int v3, .int v4, .null, .null, .null, .null, .null] [.int (Int32.ofInt (-6))] M L Q)
        exact wp_iret (by decide +kernel) rfl (hK _ _ _ hP)
    · have hP := hP.2 c_9
      obtain ⟨a_11, hP⟩ := hP
      refine wp_seg (pc' := 100) [.aload 0, .getfield 682, .iload 4, .baload] (by decide +kernel) (show (aok 104 1 v4 ∨ aok 104 3 v4) ∧ Wp E (d + 5) 145 100 [.ref 74, .int v1, .int v2, .int v3, .int v4, .null, .null, .null, .null, .null] [.int (M 104 v4.toNatClampNeg)] M L Q from ⟨Or.inl ⟨rfl, a_11⟩, ?_⟩)
      refine wp_ifeq (off := 168) 268 (by decide +kernel) (by decide) (fun c_12 => ?_) (fun c_12 => ?_)
      · have hP := hP.1 c_12
        refine wp_seg (pc' := 86) [.iinc 4 1, .goto 0] (by decide +kernel) (?_ : Wp E (d + 5) 145 86 [.ref 74, .int v1, .int v2, .int v3, .int (v4 + Int32.ofInt 1), .null, .null, .null, .null, .null] [] M L Q)
        exact ih v1 v2 v3 (v4 + Int32.ofInt 1) M L hP
      · have hP := hP.2 c_12
        refine wp_seg (pc' := 106) [.aload 0, .iload 4] (by decide +kernel) (?_ : Wp E (d + 5) 145 106 [.ref 74, .int v1, .int v2, .int v3, .int v4, .null, .null, .null, .null, .null] [.int v4, .ref 74] M L Q)
        refine wp_callV 142 74 [.int v4] (i := 282) (by decide +kernel) (by decide +kernel) (by decide +kernel) (by decide +kernel) rfl rfl rfl (rest := []) rfl rfl ?_
        refine t_X10_layHolds hP (fun M_13 L_14 hP => ?_)
        show Wp E (d + 5) 145 109 [.ref 74, .int v1, .int v2, .int v3, .int v4, .null, .null, .null, .null, .null] [] M_13 L_14 Q
        refine wp_seg (pc' := 121) [.iconst 0, .istore 5, .iconst 0, .istore 6, .iconst 0, .istore 7, .iconst 0, .istore 8] (by decide +kernel) (?_ : Wp E (d + 5) 145 121 [.ref 74, .int v1, .int v2, .int v3, .int v4, .int (Int32.ofInt 0), .int (Int32.ofInt 0), .int (Int32.ofInt 0), .int (Int32.ofInt 0), .null] [] M_13 L_14 Q)
        exact tl_X10_locked_121 hK (fun v1 v2 v3 v4 M L hP => ih v1 v2 v3 v4 M L hP) 100000 v1 v2 v3 v4 (Int32.ofInt 0) (Int32.ofInt 0) (Int32.ofInt 0) (Int32.ofInt 0) M_13 L_14 hP
def PL_X10_locked_53 (K : Int32 → Mem → LMem → Prop)  : Nat → Int32 → Int32 → Int32 → Mem → LMem → Prop
  | 0, _, _, _, _, _ => False
  | n_ + 1, v1, v2, v3, M, L => (((Int32.ofInt 32768) ≤ v3 → PL_X10_locked_86 K 100000 v1 v2 (Int32.ofInt (-6)) (Int32.ofInt 0) M L) ∧ (¬ ((Int32.ofInt 32768) ≤ v3) → ((v3 = 0 → (vp_in v3 32768 ∧ PL_X10_locked_53 K n_ v1 v2 (v3 + Int32.ofInt 1) (mput M 104 v3.toNatClampNeg (vp_nar .boolean (Int32.ofInt 1))) L)) ∧ (¬ (v3 = 0) → (vp_in v3 32768 ∧ PL_X10_locked_53 K n_ v1 v2 (v3 + Int32.ofInt 1) (mput M 104 v3.toNatClampNeg (vp_nar .boolean (Int32.ofInt 0))) L)))))
theorem tl_X10_locked_53 {E : VE} {d : Nat} {Q : QQ} {K : Int32 → Mem → LMem → Prop}  (hK : ∀ (v : Int32) (M : Mem) (L : LMem), K v M L → Q (some (.int v)) M L)  : ∀ (n_ : Nat) (v1 : Int32) (v2 : Int32) (v3 : Int32) (M : Mem) (L : LMem), PL_X10_locked_53 K n_ v1 v2 v3 M L → Wp E (d + 5) 145 53 [.ref 74, .int v1, .int v2, .int v3, .null, .null, .null, .null, .null, .null] [] M L Q := by
  intro n_
  induction n_ with
  | zero => intro v1 v2 v3 M L hP; exact False.elim hP
  | succ n_ ih =>
    intro v1 v2 v3 M L hP
    unfold PL_X10_locked_53 at hP
    refine wp_seg (pc' := 56) [.iload 3, .iconst 32768] (by decide +kernel) (?_ : Wp E (d + 5) 145 56 [.ref 74, .int v1, .int v2, .int v3, .null, .null, .null, .null, .null, .null] [.int (Int32.ofInt 32768), .int v3] M L Q)
    refine wp_icmpge (off := 24) 80 (by decide +kernel) (by decide) (fun c_8 => ?_) (fun c_8 => ?_)
    · have hP := hP.1 c_8
      refine wp_seg (pc' := 86) [.iconst (-6), .istore 3, .iconst 0, .istore 4] (by decide +kernel) (?_ : Wp E (d + 5) 145 86 [.ref 74, .int v1, .int v2, .int (Int32.ofInt (-6)), .int (Int32.ofInt 0), .null, .null, .null, .null, .null] [] M L Q)
      exact tl_X10_locked_86 hK 100000 v1 v2 (Int32.ofInt (-6)) (Int32.ofInt 0) M L hP
    · have hP := hP.2 c_8
      refine wp_seg (pc' := 65) [.aload 0, .getfield 682, .iload 3, .iload 3] (by decide +kernel) (?_ : Wp E (d + 5) 145 65 [.ref 74, .int v1, .int v2, .int v3, .null, .null, .null, .null, .null, .null] [.int v3, .int v3, .ref 104] M L Q)
      refine wp_ifne (off := 7) 72 (by decide +kernel) (by decide) (fun c_55 => ?_) (fun c_55 => ?_)
      · have hP := hP.2 c_55
        obtain ⟨a_56, hP⟩ := hP
        refine wp_seg (pc' := 74) [.iconst 0, .bastore] (by decide +kernel) (Or.inl (show aok 104 1 v3 ∧ Wp E (d + 5) 145 74 [.ref 74, .int v1, .int v2, .int v3, .null, .null, .null, .null, .null, .null] [] (mput M 104 v3.toNatClampNeg (vp_nar .boolean (Int32.ofInt 0))) L Q from ⟨⟨rfl, a_56⟩, ?_⟩))
        refine wp_seg (pc' := 53) [.iinc 3 1, .goto 0] (by decide +kernel) (?_ : Wp E (d + 5) 145 53 [.ref 74, .int v1, .int v2, .int (v3 + Int32.ofInt 1), .null, .null, .null, .null, .null, .null] [] (mput M 104 v3.toNatClampNeg (vp_nar .boolean (Int32.ofInt 0))) L Q)
        exact ih v1 v2 (v3 + Int32.ofInt 1) (mput M 104 v3.toNatClampNeg (vp_nar .boolean (Int32.ofInt 0))) L hP
      · have hP := hP.1 c_55
        obtain ⟨a_57, hP⟩ := hP
        refine wp_seg (pc' := 74) [.iconst 1, .goto 0, .bastore] (by decide +kernel) (Or.inl (show aok 104 1 v3 ∧ Wp E (d + 5) 145 74 [.ref 74, .int v1, .int v2, .int v3, .null, .null, .null, .null, .null, .null] [] (mput M 104 v3.toNatClampNeg (vp_nar .boolean (Int32.ofInt 1))) L Q from ⟨⟨rfl, a_57⟩, ?_⟩))
        refine wp_seg (pc' := 53) [.iinc 3 1, .goto 0] (by decide +kernel) (?_ : Wp E (d + 5) 145 53 [.ref 74, .int v1, .int v2, .int (v3 + Int32.ofInt 1), .null, .null, .null, .null, .null, .null] [] (mput M 104 v3.toNatClampNeg (vp_nar .boolean (Int32.ofInt 1))) L Q)
        exact ih v1 v2 (v3 + Int32.ofInt 1) (mput M 104 v3.toNatClampNeg (vp_nar .boolean (Int32.ofInt 1))) L hP
def P_X10_locked (x1 : Int32) (x2 : Int32) (M : Mem) (L : LMem) (K : Int32 → Mem → LMem → Prop) : Prop := (((f_X10_in M x1.toInt64 (Int64.ofNat 0) ((((Int32.ofInt 1) <<< ((M 74 12) &&& 31)) - (Int32.ofInt 1)).toInt64)) = 0 → K (Int32.ofInt (-2)) M L) ∧ (¬ ((f_X10_in M x1.toInt64 (Int64.ofNat 0) ((((Int32.ofInt 1) <<< ((M 74 12) &&& 31)) - (Int32.ofInt 1)).toInt64)) = 0) → (((f_X10_in M x2.toInt64 (Int64.ofNat 0) (Int64.ofNat 1)) = 0 → K (Int32.ofInt (-2)) M L) ∧ (¬ ((f_X10_in M x2.toInt64 (Int64.ofNat 0) (Int64.ofNat 1)) = 0) → P_X10_findWays x1 M L (fun v_5 M_3 L_4 => ((v_5 = 0 → K (Int32.ofInt (-3)) M_3 L_4) ∧ (¬ (v_5 = 0) → ((x2 = (Int32.ofInt 1) → P_X10_sortWays M_3 L_4 (fun M_58 L_59 => PL_X10_locked_53 K 100000 x1 x2 (Int32.ofInt 0) M_58 L_59)) ∧ (¬ (x2 = (Int32.ofInt 1)) → PL_X10_locked_53 K 100000 x1 x2 (Int32.ofInt 0) M_3 L_4)))))))))
theorem t_X10_locked {E : VE} {d : Nat} {Q : QQ} {K : Int32 → Mem → LMem → Prop} {x1 : Int32} {x2 : Int32} {M : Mem} {L : LMem} (hP : P_X10_locked x1 x2 M L K) (hK : ∀ (v : Int32) (M : Mem) (L : LMem), K v M L → Q (some (.int v)) M L) : Wp E (d + 5) 145 0 [.ref 74, .int x1, .int x2, .null, .null, .null, .null, .null, .null, .null] [] M L Q := by
  unfold P_X10_locked at hP
  refine wp_seg (pc' := 12) [.iload 1, .i2l, .ldc2_w 0, .iconst 1, .aload 0, .getfield 652, .ishl, .iconst 1, .isub, .i2l] (by decide +kernel) (?_ : Wp E (d + 5) 145 12 [.ref 74, .int x1, .int x2, .null, .null, .null, .null, .null, .null, .null] [.long ((((Int32.ofInt 1) <<< ((M 74 12) &&& 31)) - (Int32.ofInt 1)).toInt64), .long (Int64.ofNat 0), .long x1.toInt64] M L Q)
  refine wp_callS 94 [.long x1.toInt64, .long (Int64.ofNat 0), .long ((((Int32.ofInt 1) <<< ((M 74 12) &&& 31)) - (Int32.ofInt 1)).toInt64)] (i := 129) (by decide +kernel) (by decide +kernel) (by decide +kernel) rfl rfl rfl (rest := []) rfl rfl ?_
  refine s_X10_in M x1.toInt64 (Int64.ofNat 0) ((((Int32.ofInt 1) <<< ((M 74 12) &&& 31)) - (Int32.ofInt 1)).toInt64)  ?_
  show Wp E (d + 5) 145 15 [.ref 74, .int x1, .int x2, .null, .null, .null, .null, .null, .null, .null] [.int (f_X10_in M x1.toInt64 (Int64.ofNat 0) ((((Int32.ofInt 1) <<< ((M 74 12) &&& 31)) - (Int32.ofInt 1)).toInt64))] M L Q
  refine wp_ifeq (off := 13) 28 (by decide +kernel) (by decide) (fun c_1 => ?_) (fun c_1 => ?_)
  · have hP := hP.1 c_1
    refine wp_seg (pc' := 30) [.iconst (-2)] (by decide +kernel) (?_ : Wp E (d + 5) 145 30 [.ref 74, .int x1, .int x2, .null, .null, .null, .null, .null, .null, .null] [.int (Int32.ofInt (-2))] M L Q)
    exact wp_iret (by decide +kernel) rfl (hK _ _ _ hP)
  · have hP := hP.2 c_1
    refine wp_seg (pc' := 22) [.iload 2, .i2l, .ldc2_w 0, .ldc2_w 1] (by decide +kernel) (?_ : Wp E (d + 5) 145 22 [.ref 74, .int x1, .int x2, .null, .null, .null, .null, .null, .null, .null] [.long (Int64.ofNat 1), .long (Int64.ofNat 0), .long x2.toInt64] M L Q)
    refine wp_callS 94 [.long x2.toInt64, .long (Int64.ofNat 0), .long (Int64.ofNat 1)] (i := 129) (by decide +kernel) (by decide +kernel) (by decide +kernel) rfl rfl rfl (rest := []) rfl rfl ?_
    refine s_X10_in M x2.toInt64 (Int64.ofNat 0) (Int64.ofNat 1)  ?_
    show Wp E (d + 5) 145 25 [.ref 74, .int x1, .int x2, .null, .null, .null, .null, .null, .null, .null] [.int (f_X10_in M x2.toInt64 (Int64.ofNat 0) (Int64.ofNat 1))] M L Q
    refine wp_ifne (off := 6) 31 (by decide +kernel) (by decide) (fun c_2 => ?_) (fun c_2 => ?_)
    · have hP := hP.2 c_2
      refine wp_seg (pc' := 33) [.aload 0, .iload 1] (by decide +kernel) (?_ : Wp E (d + 5) 145 33 [.ref 74, .int x1, .int x2, .null, .null, .null, .null, .null, .null, .null] [.int x1, .ref 74] M L Q)
      refine wp_callV 132 74 [.int x1] (i := 261) (by decide +kernel) (by decide +kernel) (by decide +kernel) (by decide +kernel) rfl rfl rfl (rest := []) rfl rfl ?_
      refine t_X10_findWays hP (fun v_5 M_3 L_4 hP => ?_)
      show Wp E (d + 5) 145 36 [.ref 74, .int x1, .int x2, .null, .null, .null, .null, .null, .null, .null] [.int v_5] M_3 L_4 Q
      refine wp_ifne (off := 6) 42 (by decide +kernel) (by decide) (fun c_6 => ?_) (fun c_6 => ?_)
      · have hP := hP.2 c_6
        refine wp_seg (pc' := 44) [.iload 2, .iconst 1] (by decide +kernel) (?_ : Wp E (d + 5) 145 44 [.ref 74, .int x1, .int x2, .null, .null, .null, .null, .null, .null, .null] [.int (Int32.ofInt 1), .int x2] M_3 L_4 Q)
        refine wp_icmpne (off := 7) 51 (by decide +kernel) (by decide) (fun c_7 => ?_) (fun c_7 => ?_)
        · have hP := hP.2 c_7
          refine wp_seg (pc' := 53) [.iconst 0, .istore 3] (by decide +kernel) (?_ : Wp E (d + 5) 145 53 [.ref 74, .int x1, .int x2, .int (Int32.ofInt 0), .null, .null, .null, .null, .null, .null] [] M_3 L_4 Q)
          exact tl_X10_locked_53 hK 100000 x1 x2 (Int32.ofInt 0) M_3 L_4 hP
        · have hP := hP.1 c_7
          refine wp_seg (pc' := 48) [.aload 0] (by decide +kernel) (?_ : Wp E (d + 5) 145 48 [.ref 74, .int x1, .int x2, .null, .null, .null, .null, .null, .null, .null] [.ref 74] M_3 L_4 Q)
          refine wp_callV 140 74 [] (i := 279) (by decide +kernel) (by decide +kernel) (by decide +kernel) (by decide +kernel) rfl rfl rfl (rest := []) rfl rfl ?_
          refine t_X10_sortWays hP (fun M_58 L_59 hP => ?_)
          show Wp E (d + 5) 145 51 [.ref 74, .int x1, .int x2, .null, .null, .null, .null, .null, .null, .null] [] M_58 L_59 Q
          refine wp_seg (pc' := 53) [.iconst 0, .istore 3] (by decide +kernel) (?_ : Wp E (d + 5) 145 53 [.ref 74, .int x1, .int x2, .int (Int32.ofInt 0), .null, .null, .null, .null, .null, .null] [] M_58 L_59 Q)
          exact tl_X10_locked_53 hK 100000 x1 x2 (Int32.ofInt 0) M_58 L_59 hP
      · have hP := hP.1 c_6
        refine wp_seg (pc' := 41) [.iconst (-3)] (by decide +kernel) (?_ : Wp E (d + 5) 145 41 [.ref 74, .int x1, .int x2, .null, .null, .null, .null, .null, .null, .null] [.int (Int32.ofInt (-3))] M_3 L_4 Q)
        exact wp_iret (by decide +kernel) rfl (hK _ _ _ hP)
    · have hP := hP.1 c_2
      refine wp_seg (pc' := 30) [.iconst (-2)] (by decide +kernel) (?_ : Wp E (d + 5) 145 30 [.ref 74, .int x1, .int x2, .null, .null, .null, .null, .null, .null, .null] [.int (Int32.ofInt (-2))] M L Q)
      exact wp_iret (by decide +kernel) rfl (hK _ _ _ hP)

def P_X10_tried (x1 : Int32) (x2 : Int32) (x3 : Int32) (M : Mem) (L : LMem) (K : Int32 → Mem → LMem → Prop) : Prop := (((f_X10_areTwo M x1 x2) = 0 → K (Int32.ofInt (-1)) M L) ∧ (¬ ((f_X10_areTwo M x1 x2) = 0) → P_X10_layWay x1 x2 (Int32.ofInt 0) M L (fun v_4 M_2 L_3 => ((v_4 = 0 → K (Int32.ofInt (-3)) M_2 L_3) ∧ (¬ (v_4 = 0) → (((M_2 74 14) = (Int32.ofInt 99) → K (Int32.ofInt (-4)) M_2 L_3) ∧ (¬ ((M_2 74 14) = (Int32.ofInt 99)) → ((x3 = 0 → P_X10_wayBits M_2 L_3 (fun v_10 M_8 L_9 => P_X10_ones ((M_2 74 13) &&& v_10) (mput (mput M_8 74 13 ((M_2 74 13) &&& v_10)) 74 14 ((M_8 74 14) + (Int32.ofInt 1))) L_9 (fun v_13 M_11 L_12 => K v_13 M_11 L_12))) ∧ (¬ (x3 = 0) → P_X10_wayBits M_2 L_3 (fun v_16 M_14 L_15 => P_X10_ones ((M_2 74 13) &&& (v_16 ^^^ (Int32.ofInt (-1)))) (mput (mput M_14 74 13 ((M_2 74 13) &&& (v_16 ^^^ (Int32.ofInt (-1))))) 74 14 ((M_14 74 14) + (Int32.ofInt 1))) L_15 (fun v_19 M_17 L_18 => K v_19 M_17 L_18)))))))))))
theorem t_X10_tried {E : VE} {d : Nat} {Q : QQ} {K : Int32 → Mem → LMem → Prop} {x1 : Int32} {x2 : Int32} {x3 : Int32} {M : Mem} {L : LMem} (hP : P_X10_tried x1 x2 x3 M L K) (hK : ∀ (v : Int32) (M : Mem) (L : LMem), K v M L → Q (some (.int v)) M L) : Wp E (d + 4) 146 0 [.ref 74, .int x1, .int x2, .int x3] [] M L Q := by
  unfold P_X10_tried at hP
  refine wp_seg (pc' := 2) [.iload 1, .iload 2] (by decide +kernel) (?_ : Wp E (d + 4) 146 2 [.ref 74, .int x1, .int x2, .int x3] [.int x2, .int x1] M L Q)
  refine wp_callS 96 [.int x1, .int x2] (i := 198) (by decide +kernel) (by decide +kernel) (by decide +kernel) rfl rfl rfl (rest := []) rfl rfl ?_
  refine s_X10_areTwo M x1 x2  ?_
  show Wp E (d + 4) 146 5 [.ref 74, .int x1, .int x2, .int x3] [.int (f_X10_areTwo M x1 x2)] M L Q
  refine wp_ifne (off := 5) 10 (by decide +kernel) (by decide) (fun c_1 => ?_) (fun c_1 => ?_)
  · have hP := hP.2 c_1
    refine wp_seg (pc' := 14) [.aload 0, .iload 1, .iload 2, .iconst 0] (by decide +kernel) (?_ : Wp E (d + 4) 146 14 [.ref 74, .int x1, .int x2, .int x3] [.int (Int32.ofInt 0), .int x2, .int x1, .ref 74] M L Q)
    refine wp_callV 112 74 [.int x1, .int x2, .int (Int32.ofInt 0)] (i := 202) (by decide +kernel) (by decide +kernel) (by decide +kernel) (by decide +kernel) rfl rfl rfl (rest := []) rfl rfl ?_
    refine t_X10_layWay hP (fun v_4 M_2 L_3 hP => ?_)
    show Wp E (d + 4) 146 17 [.ref 74, .int x1, .int x2, .int x3] [.int v_4] M_2 L_3 Q
    refine wp_ifne (off := 6) 23 (by decide +kernel) (by decide) (fun c_5 => ?_) (fun c_5 => ?_)
    · have hP := hP.2 c_5
      refine wp_seg (pc' := 29) [.aload 0, .getfield 654, .iconst 99] (by decide +kernel) (?_ : Wp E (d + 4) 146 29 [.ref 74, .int x1, .int x2, .int x3] [.int (Int32.ofInt 99), .int (M_2 74 14)] M_2 L_3 Q)
      refine wp_icmpne (off := 6) 35 (by decide +kernel) (by decide) (fun c_6 => ?_) (fun c_6 => ?_)
      · have hP := hP.2 c_6
        refine wp_seg (pc' := 41) [.aload 0, .dup, .getfield 653, .iload 3] (by decide +kernel) (?_ : Wp E (d + 4) 146 41 [.ref 74, .int x1, .int x2, .int x3] [.int x3, .int (M_2 74 13), .ref 74] M_2 L_3 Q)
        refine wp_ifeq (off := 12) 53 (by decide +kernel) (by decide) (fun c_7 => ?_) (fun c_7 => ?_)
        · have hP := hP.1 c_7
          refine wp_seg (pc' := 54) [.aload 0] (by decide +kernel) (?_ : Wp E (d + 4) 146 54 [.ref 74, .int x1, .int x2, .int x3] [.ref 74, .int (M_2 74 13), .ref 74] M_2 L_3 Q)
          refine wp_callV 114 74 [] (i := 226) (by decide +kernel) (by decide +kernel) (by decide +kernel) (by decide +kernel) rfl rfl rfl (rest := [.int (M_2 74 13), .ref 74]) rfl rfl ?_
          refine t_X10_wayBits hP (fun v_10 M_8 L_9 hP => ?_)
          show Wp E (d + 4) 146 57 [.ref 74, .int x1, .int x2, .int x3] [.int v_10, .int (M_2 74 13), .ref 74] M_8 L_9 Q
          refine wp_seg (pc' := 75) [.iand, .putfield 653, .aload 0, .dup, .getfield 654, .iconst 1, .iadd, .putfield 654, .aload 0, .getfield 653] (by decide +kernel) (?_ : Wp E (d + 4) 146 75 [.ref 74, .int x1, .int x2, .int x3] [.int ((M_2 74 13) &&& v_10)] (mput (mput M_8 74 13 ((M_2 74 13) &&& v_10)) 74 14 ((M_8 74 14) + (Int32.ofInt 1))) L_9 Q)
          refine wp_callS 97 [.int ((M_2 74 13) &&& v_10)] (i := 292) (by decide +kernel) (by decide +kernel) (by decide +kernel) rfl rfl rfl (rest := []) rfl rfl ?_
          refine t_X10_ones hP (fun v_13 M_11 L_12 hP => ?_)
          show Wp E (d + 4) 146 78 [.ref 74, .int x1, .int x2, .int x3] [.int v_13] M_11 L_12 Q
          exact wp_iret (by decide +kernel) rfl (hK _ _ _ hP)
        · have hP := hP.2 c_7
          refine wp_seg (pc' := 45) [.aload 0] (by decide +kernel) (?_ : Wp E (d + 4) 146 45 [.ref 74, .int x1, .int x2, .int x3] [.ref 74, .int (M_2 74 13), .ref 74] M_2 L_3 Q)
          refine wp_callV 114 74 [] (i := 226) (by decide +kernel) (by decide +kernel) (by decide +kernel) (by decide +kernel) rfl rfl rfl (rest := [.int (M_2 74 13), .ref 74]) rfl rfl ?_
          refine t_X10_wayBits hP (fun v_16 M_14 L_15 hP => ?_)
          show Wp E (d + 4) 146 48 [.ref 74, .int x1, .int x2, .int x3] [.int v_16, .int (M_2 74 13), .ref 74] M_14 L_15 Q
          refine wp_seg (pc' := 75) [.iconst (-1), .ixor, .goto 0, .iand, .putfield 653, .aload 0, .dup, .getfield 654, .iconst 1, .iadd, .putfield 654, .aload 0, .getfield 653] (by decide +kernel) (?_ : Wp E (d + 4) 146 75 [.ref 74, .int x1, .int x2, .int x3] [.int ((M_2 74 13) &&& (v_16 ^^^ (Int32.ofInt (-1))))] (mput (mput M_14 74 13 ((M_2 74 13) &&& (v_16 ^^^ (Int32.ofInt (-1))))) 74 14 ((M_14 74 14) + (Int32.ofInt 1))) L_15 Q)
          refine wp_callS 97 [.int ((M_2 74 13) &&& (v_16 ^^^ (Int32.ofInt (-1))))] (i := 292) (by decide +kernel) (by decide +kernel) (by decide +kernel) rfl rfl rfl (rest := []) rfl rfl ?_
          refine t_X10_ones hP (fun v_19 M_17 L_18 hP => ?_)
          show Wp E (d + 4) 146 78 [.ref 74, .int x1, .int x2, .int x3] [.int v_19] M_17 L_18 Q
          exact wp_iret (by decide +kernel) rfl (hK _ _ _ hP)
      · have hP := hP.1 c_6
        refine wp_seg (pc' := 34) [.iconst (-4)] (by decide +kernel) (?_ : Wp E (d + 4) 146 34 [.ref 74, .int x1, .int x2, .int x3] [.int (Int32.ofInt (-4))] M_2 L_3 Q)
        exact wp_iret (by decide +kernel) rfl (hK _ _ _ hP)
    · have hP := hP.1 c_5
      refine wp_seg (pc' := 22) [.iconst (-3)] (by decide +kernel) (?_ : Wp E (d + 4) 146 22 [.ref 74, .int x1, .int x2, .int x3] [.int (Int32.ofInt (-3))] M_2 L_3 Q)
      exact wp_iret (by decide +kernel) rfl (hK _ _ _ hP)
  · have hP := hP.1 c_1
    refine wp_seg (pc' := 9) [.iconst (-1)] (by decide +kernel) (?_ : Wp E (d + 4) 146 9 [.ref 74, .int x1, .int x2, .int x3] [.int (Int32.ofInt (-1))] M L Q)
    exact wp_iret (by decide +kernel) rfl (hK _ _ _ hP)

def P_X10_forget (M : Mem) (L : LMem) (K : Int32 → Mem → LMem → Prop) : Prop := P_X10_openAll M L (fun M_1 L_2 => K (M 74 14) M_1 L_2)
theorem t_X10_forget {E : VE} {d : Nat} {Q : QQ} {K : Int32 → Mem → LMem → Prop} {M : Mem} {L : LMem} (hP : P_X10_forget M L K) (hK : ∀ (v : Int32) (M : Mem) (L : LMem), K v M L → Q (some (.int v)) M L) : Wp E (d + 1) 147 0 [.ref 74, .null] [] M L Q := by
  unfold P_X10_forget at hP
  refine wp_seg (pc' := 6) [.aload 0, .getfield 654, .istore 1, .aload 0] (by decide +kernel) (?_ : Wp E (d + 1) 147 6 [.ref 74, .int (M 74 14)] [.ref 74] M L Q)
  refine wp_callV 105 74 [] (i := 174) (by decide +kernel) (by decide +kernel) (by decide +kernel) (by decide +kernel) rfl rfl rfl (rest := []) rfl rfl ?_
  refine t_X10_openAll hP (fun M_1 L_2 hP => ?_)
  show Wp E (d + 1) 147 9 [.ref 74, .int (M 74 14)] [] M_1 L_2 Q
  refine wp_seg (pc' := 10) [.iload 1] (by decide +kernel) (?_ : Wp E (d + 1) 147 10 [.ref 74, .int (M 74 14)] [.int (M 74 14)] M_1 L_2 Q)
  exact wp_iret (by decide +kernel) rfl (hK _ _ _ hP)

def PL_X10_findTries_2 (K : Mem → LMem → Prop)  : Nat → Int32 → Mem → LMem → Prop
  | 0, _, _, _ => False
  | n_ + 1, v1, M, L => (((Int32.ofInt 80) ≤ v1 → K M L) ∧ (¬ ((Int32.ofInt 80) ≤ v1) → (((f_X10_areTwo M (v1 / (Int32.ofInt 10)) (v1 - v1 / (Int32.ofInt 10) * (Int32.ofInt 10))) = 0 → (vp_in v1 80 ∧ PL_X10_findTries_2 K n_ (v1 + Int32.ofInt 1) (mput M 106 v1.toNatClampNeg (Int32.ofInt (-1))) L)) ∧ (¬ ((f_X10_areTwo M (v1 / (Int32.ofInt 10)) (v1 - v1 / (Int32.ofInt 10) * (Int32.ofInt 10))) = 0) → P_X10_layWay (v1 / (Int32.ofInt 10)) (v1 - v1 / (Int32.ofInt 10) * (Int32.ofInt 10)) (Int32.ofInt 0) M L (fun v_6 M_4 L_5 => ((v_6 = 0 → (vp_in v1 80 ∧ PL_X10_findTries_2 K n_ (v1 + Int32.ofInt 1) (mput M_4 106 v1.toNatClampNeg (Int32.ofInt (-1))) L_5)) ∧ (¬ (v_6 = 0) → P_X10_wayBits M_4 L_5 (fun v_11 M_9 L_10 => (vp_in v1 80 ∧ PL_X10_findTries_2 K n_ (v1 + Int32.ofInt 1) (mput M_9 106 v1.toNatClampNeg v_11) L_10)))))))))
theorem tl_X10_findTries_2 {E : VE} {d : Nat} {Q : QQ} {K : Mem → LMem → Prop}  (hK : ∀ (M : Mem) (L : LMem), K M L → Q none M L)  : ∀ (n_ : Nat) (v1 : Int32) (M : Mem) (L : LMem), PL_X10_findTries_2 K n_ v1 M L → Wp E (d + 4) 148 2 [.ref 74, .int v1] [] M L Q := by
  intro n_
  induction n_ with
  | zero => intro v1 M L hP; exact False.elim hP
  | succ n_ ih =>
    intro v1 M L hP
    unfold PL_X10_findTries_2 at hP
    refine wp_seg (pc' := 5) [.iload 1, .iconst 80] (by decide +kernel) (?_ : Wp E (d + 4) 148 5 [.ref 74, .int v1] [.int (Int32.ofInt 80), .int v1] M L Q)
    refine wp_icmpge (off := 53) 58 (by decide +kernel) (by decide) (fun c_1 => ?_) (fun c_1 => ?_)
    · have hP := hP.1 c_1
      exact wp_vret (by decide +kernel) rfl (hK _ _ hP)
    · have hP := hP.2 c_1
      refine wp_seg (pc' := 17) [.aload 0, .getfield 684, .iload 1, .iload 1, .iconst 10, .idiv] (by decide +kernel) (show ¬ (Int32.ofInt 10) = 0 ∧ Wp E (d + 4) 148 17 [.ref 74, .int v1] [.int (v1 / (Int32.ofInt 10)), .int v1, .ref 106] M L Q from ⟨(by decide), ?_⟩)
      refine wp_seg (pc' := 21) [.iload 1, .iconst 10, .irem] (by decide +kernel) (show ¬ (Int32.ofInt 10) = 0 ∧ Wp E (d + 4) 148 21 [.ref 74, .int v1] [.int (v1 - v1 / (Int32.ofInt 10) * (Int32.ofInt 10)), .int (v1 / (Int32.ofInt 10)), .int v1, .ref 106] M L Q from ⟨(by decide), ?_⟩)
      refine wp_callS 96 [.int (v1 / (Int32.ofInt 10)), .int (v1 - v1 / (Int32.ofInt 10) * (Int32.ofInt 10))] (i := 198) (by decide +kernel) (by decide +kernel) (by decide +kernel) rfl rfl rfl (rest := [.int v1, .ref 106]) rfl rfl ?_
      refine s_X10_areTwo M (v1 / (Int32.ofInt 10)) (v1 - v1 / (Int32.ofInt 10) * (Int32.ofInt 10))  ?_
      show Wp E (d + 4) 148 24 [.ref 74, .int v1] [.int (f_X10_areTwo M (v1 / (Int32.ofInt 10)) (v1 - v1 / (Int32.ofInt 10) * (Int32.ofInt 10))), .int v1, .ref 106] M L Q
      refine wp_ifeq (off := 26) 50 (by decide +kernel) (by decide) (fun c_2 => ?_) (fun c_2 => ?_)
      · have hP := hP.1 c_2
        obtain ⟨a_3, hP⟩ := hP
        refine wp_seg (pc' := 52) [.iconst (-1), .iastore] (by decide +kernel) (show aok 106 0 v1 ∧ Wp E (d + 4) 148 52 [.ref 74, .int v1] [] (mput M 106 v1.toNatClampNeg (Int32.ofInt (-1))) L Q from ⟨⟨rfl, a_3⟩, ?_⟩)
        refine wp_seg (pc' := 2) [.iinc 1 1, .goto 0] (by decide +kernel) (?_ : Wp E (d + 4) 148 2 [.ref 74, .int (v1 + Int32.ofInt 1)] [] (mput M 106 v1.toNatClampNeg (Int32.ofInt (-1))) L Q)
        exact ih (v1 + Int32.ofInt 1) (mput M 106 v1.toNatClampNeg (Int32.ofInt (-1))) L hP
      · have hP := hP.2 c_2
        refine wp_seg (pc' := 32) [.aload 0, .iload 1, .iconst 10, .idiv] (by decide +kernel) (show ¬ (Int32.ofInt 10) = 0 ∧ Wp E (d + 4) 148 32 [.ref 74, .int v1] [.int (v1 / (Int32.ofInt 10)), .ref 74, .int v1, .ref 106] M L Q from ⟨(by decide), ?_⟩)
        refine wp_seg (pc' := 36) [.iload 1, .iconst 10, .irem] (by decide +kernel) (show ¬ (Int32.ofInt 10) = 0 ∧ Wp E (d + 4) 148 36 [.ref 74, .int v1] [.int (v1 - v1 / (Int32.ofInt 10) * (Int32.ofInt 10)), .int (v1 / (Int32.ofInt 10)), .ref 74, .int v1, .ref 106] M L Q from ⟨(by decide), ?_⟩)
        refine wp_seg (pc' := 37) [.iconst 0] (by decide +kernel) (?_ : Wp E (d + 4) 148 37 [.ref 74, .int v1] [.int (Int32.ofInt 0), .int (v1 - v1 / (Int32.ofInt 10) * (Int32.ofInt 10)), .int (v1 / (Int32.ofInt 10)), .ref 74, .int v1, .ref 106] M L Q)
        refine wp_callV 112 74 [.int (v1 / (Int32.ofInt 10)), .int (v1 - v1 / (Int32.ofInt 10) * (Int32.ofInt 10)), .int (Int32.ofInt 0)] (i := 202) (by decide +kernel) (by decide +kernel) (by decide +kernel) (by decide +kernel) rfl rfl rfl (rest := [.int v1, .ref 106]) rfl rfl ?_
        refine t_X10_layWay hP (fun v_6 M_4 L_5 hP => ?_)
        show Wp E (d + 4) 148 40 [.ref 74, .int v1] [.int v_6, .int v1, .ref 106] M_4 L_5 Q
        refine wp_ifeq (off := 10) 50 (by decide +kernel) (by decide) (fun c_7 => ?_) (fun c_7 => ?_)
        · have hP := hP.1 c_7
          obtain ⟨a_8, hP⟩ := hP
          refine wp_seg (pc' := 52) [.iconst (-1), .iastore] (by decide +kernel) (show aok 106 0 v1 ∧ Wp E (d + 4) 148 52 [.ref 74, .int v1] [] (mput M_4 106 v1.toNatClampNeg (Int32.ofInt (-1))) L_5 Q from ⟨⟨rfl, a_8⟩, ?_⟩)
          refine wp_seg (pc' := 2) [.iinc 1 1, .goto 0] (by decide +kernel) (?_ : Wp E (d + 4) 148 2 [.ref 74, .int (v1 + Int32.ofInt 1)] [] (mput M_4 106 v1.toNatClampNeg (Int32.ofInt (-1))) L_5 Q)
          exact ih (v1 + Int32.ofInt 1) (mput M_4 106 v1.toNatClampNeg (Int32.ofInt (-1))) L_5 hP
        · have hP := hP.2 c_7
          refine wp_seg (pc' := 44) [.aload 0] (by decide +kernel) (?_ : Wp E (d + 4) 148 44 [.ref 74, .int v1] [.ref 74, .int v1, .ref 106] M_4 L_5 Q)
          refine wp_callV 114 74 [] (i := 226) (by decide +kernel) (by decide +kernel) (by decide +kernel) (by decide +kernel) rfl rfl rfl (rest := [.int v1, .ref 106]) rfl rfl ?_
          refine t_X10_wayBits hP (fun v_11 M_9 L_10 hP => ?_)
          show Wp E (d + 4) 148 47 [.ref 74, .int v1] [.int v_11, .int v1, .ref 106] M_9 L_10 Q
          obtain ⟨a_12, hP⟩ := hP
          refine wp_seg (pc' := 52) [.goto 0, .iastore] (by decide +kernel) (show aok 106 0 v1 ∧ Wp E (d + 4) 148 52 [.ref 74, .int v1] [] (mput M_9 106 v1.toNatClampNeg v_11) L_10 Q from ⟨⟨rfl, a_12⟩, ?_⟩)
          refine wp_seg (pc' := 2) [.iinc 1 1, .goto 0] (by decide +kernel) (?_ : Wp E (d + 4) 148 2 [.ref 74, .int (v1 + Int32.ofInt 1)] [] (mput M_9 106 v1.toNatClampNeg v_11) L_10 Q)
          exact ih (v1 + Int32.ofInt 1) (mput M_9 106 v1.toNatClampNeg v_11) L_10 hP
def P_X10_findTries (M : Mem) (L : LMem) (K : Mem → LMem → Prop) : Prop := PL_X10_findTries_2 K 100000 (Int32.ofInt 0) M L
theorem t_X10_findTries {E : VE} {d : Nat} {Q : QQ} {K : Mem → LMem → Prop} {M : Mem} {L : LMem} (hP : P_X10_findTries M L K) (hK : ∀ (M : Mem) (L : LMem), K M L → Q none M L) : Wp E (d + 4) 148 0 [.ref 74, .null] [] M L Q := by
  unfold P_X10_findTries at hP
  refine wp_seg (pc' := 2) [.iconst 0, .istore 1] (by decide +kernel) (?_ : Wp E (d + 4) 148 2 [.ref 74, .int (Int32.ofInt 0)] [] M L Q)
  exact tl_X10_findTries_2 hK 100000 (Int32.ofInt 0) M L hP

def P_X10_worseBy (x1 : Int32) (x2 : Int32) (M : Mem) (L : LMem) (K : Int32 → Mem → LMem → Prop) : Prop := P_X10_ones (x1 &&& x2) M L (fun v_3 M_1 L_2 => P_X10_ones (x1 &&& (x2 ^^^ (Int32.ofInt (-1)))) M_1 L_2 (fun v_6 M_4 L_5 => ((v_3 ≤ v_6 → K v_6 M_4 L_5) ∧ (¬ (v_3 ≤ v_6) → K v_3 M_4 L_5))))
theorem t_X10_worseBy {E : VE} {d : Nat} {Q : QQ} {K : Int32 → Mem → LMem → Prop} {x1 : Int32} {x2 : Int32} {M : Mem} {L : LMem} (hP : P_X10_worseBy x1 x2 M L K) (hK : ∀ (v : Int32) (M : Mem) (L : LMem), K v M L → Q (some (.int v)) M L) : Wp E (d + 1) 149 0 [.ref 74, .int x1, .int x2, .null, .null] [] M L Q := by
  unfold P_X10_worseBy at hP
  refine wp_seg (pc' := 3) [.iload 1, .iload 2, .iand] (by decide +kernel) (?_ : Wp E (d + 1) 149 3 [.ref 74, .int x1, .int x2, .null, .null] [.int (x1 &&& x2)] M L Q)
  refine wp_callS 97 [.int (x1 &&& x2)] (i := 292) (by decide +kernel) (by decide +kernel) (by decide +kernel) rfl rfl rfl (rest := []) rfl rfl ?_
  refine t_X10_ones hP (fun v_3 M_1 L_2 hP => ?_)
  show Wp E (d + 1) 149 6 [.ref 74, .int x1, .int x2, .null, .null] [.int v_3] M_1 L_2 Q
  refine wp_seg (pc' := 12) [.istore 3, .iload 1, .iload 2, .iconst (-1), .ixor, .iand] (by decide +kernel) (?_ : Wp E (d + 1) 149 12 [.ref 74, .int x1, .int x2, .int v_3, .null] [.int (x1 &&& (x2 ^^^ (Int32.ofInt (-1))))] M_1 L_2 Q)
  refine wp_callS 97 [.int (x1 &&& (x2 ^^^ (Int32.ofInt (-1))))] (i := 292) (by decide +kernel) (by decide +kernel) (by decide +kernel) rfl rfl rfl (rest := []) rfl rfl ?_
  refine t_X10_ones hP (fun v_6 M_4 L_5 hP => ?_)
  show Wp E (d + 1) 149 15 [.ref 74, .int x1, .int x2, .int v_3, .null] [.int v_6] M_4 L_5 Q
  refine wp_seg (pc' := 20) [.istore 4, .iload 3, .iload 4] (by decide +kernel) (?_ : Wp E (d + 1) 149 20 [.ref 74, .int x1, .int x2, .int v_3, .int v_6] [.int v_6, .int v_3] M_4 L_5 Q)
  refine wp_icmple (off := 7) 27 (by decide +kernel) (by decide) (fun c_7 => ?_) (fun c_7 => ?_)
  · have hP := hP.1 c_7
    refine wp_seg (pc' := 29) [.iload 4] (by decide +kernel) (?_ : Wp E (d + 1) 149 29 [.ref 74, .int x1, .int x2, .int v_3, .int v_6] [.int v_6] M_4 L_5 Q)
    exact wp_iret (by decide +kernel) rfl (hK _ _ _ hP)
  · have hP := hP.2 c_7
    refine wp_seg (pc' := 29) [.iload 3, .goto 0] (by decide +kernel) (?_ : Wp E (d + 1) 149 29 [.ref 74, .int x1, .int x2, .int v_3, .int v_6] [.int v_3] M_4 L_5 Q)
    exact wp_iret (by decide +kernel) rfl (hK _ _ _ hP)

def PL_X10_nextTry_13 (K : Int32 → Mem → LMem → Prop)  : Nat → Int32 → Int32 → Int32 → Mem → LMem → Prop
  | 0, _, _, _, _, _ => False
  | n_ + 1, v1, v2, v3, M, L => (((Int32.ofInt 80) ≤ v3 → K v1 M L) ∧ (¬ ((Int32.ofInt 80) ≤ v3) → (vp_in v3 80 ∧ (((M 106 v3.toNatClampNeg) < 0 → PL_X10_nextTry_13 K n_ v1 v2 (v3 + Int32.ofInt 1) M L) ∧ (¬ ((M 106 v3.toNatClampNeg) < 0) → P_X10_worseBy (M 74 13) (M 106 v3.toNatClampNeg) M L (fun v_9 M_7 L_8 => ((v2 ≤ v_9 → PL_X10_nextTry_13 K n_ v1 v2 (v3 + Int32.ofInt 1) M_7 L_8) ∧ (¬ (v2 ≤ v_9) → P_X10_worseBy (M_7 74 13) (M_7 106 v3.toNatClampNeg) M_7 L_8 (fun v_13 M_11 L_12 => PL_X10_nextTry_13 K n_ v3 v_13 (v3 + Int32.ofInt 1) M_11 L_12)))))))))
theorem tl_X10_nextTry_13 {E : VE} {d : Nat} {Q : QQ} {K : Int32 → Mem → LMem → Prop}  (hK : ∀ (v : Int32) (M : Mem) (L : LMem), K v M L → Q (some (.int v)) M L)  : ∀ (n_ : Nat) (v1 : Int32) (v2 : Int32) (v3 : Int32) (M : Mem) (L : LMem), PL_X10_nextTry_13 K n_ v1 v2 v3 M L → Wp E (d + 2) 150 13 [.ref 74, .int v1, .int v2, .int v3] [] M L Q := by
  intro n_
  induction n_ with
  | zero => intro v1 v2 v3 M L hP; exact False.elim hP
  | succ n_ ih =>
    intro v1 v2 v3 M L hP
    unfold PL_X10_nextTry_13 at hP
    refine wp_seg (pc' := 16) [.iload 3, .iconst 80] (by decide +kernel) (?_ : Wp E (d + 2) 150 16 [.ref 74, .int v1, .int v2, .int v3] [.int (Int32.ofInt 80), .int v3] M L Q)
    refine wp_icmpge (off := 53) 69 (by decide +kernel) (by decide) (fun c_4 => ?_) (fun c_4 => ?_)
    · have hP := hP.1 c_4
      refine wp_seg (pc' := 70) [.iload 1] (by decide +kernel) (?_ : Wp E (d + 2) 150 70 [.ref 74, .int v1, .int v2, .int v3] [.int v1] M L Q)
      exact wp_iret (by decide +kernel) rfl (hK _ _ _ hP)
    · have hP := hP.2 c_4
      obtain ⟨a_5, hP⟩ := hP
      refine wp_seg (pc' := 25) [.aload 0, .getfield 684, .iload 3, .iaload] (by decide +kernel) (show aok 106 0 v3 ∧ Wp E (d + 2) 150 25 [.ref 74, .int v1, .int v2, .int v3] [.int (M 106 v3.toNatClampNeg)] M L Q from ⟨⟨rfl, a_5⟩, ?_⟩)
      refine wp_iflt (off := 38) 63 (by decide +kernel) (by decide) (fun c_6 => ?_) (fun c_6 => ?_)
      · have hP := hP.1 c_6
        refine wp_seg (pc' := 13) [.iinc 3 1, .goto 0] (by decide +kernel) (?_ : Wp E (d + 2) 150 13 [.ref 74, .int v1, .int v2, .int (v3 + Int32.ofInt 1)] [] M L Q)
        exact ih v1 v2 (v3 + Int32.ofInt 1) M L hP
      · have hP := hP.2 c_6
        refine wp_seg (pc' := 39) [.aload 0, .aload 0, .getfield 653, .aload 0, .getfield 684, .iload 3, .iaload] (by decide +kernel) (show aok 106 0 v3 ∧ Wp E (d + 2) 150 39 [.ref 74, .int v1, .int v2, .int v3] [.int (M 106 v3.toNatClampNeg), .int (M 74 13), .ref 74] M L Q from ⟨⟨rfl, a_5⟩, ?_⟩)
        refine wp_callV 149 74 [.int (M 74 13), .int (M 106 v3.toNatClampNeg)] (i := 295) (by decide +kernel) (by decide +kernel) (by decide +kernel) (by decide +kernel) rfl rfl rfl (rest := []) rfl rfl ?_
        refine t_X10_worseBy hP (fun v_9 M_7 L_8 hP => ?_)
        show Wp E (d + 2) 150 42 [.ref 74, .int v1, .int v2, .int v3] [.int v_9] M_7 L_8 Q
        refine wp_seg (pc' := 43) [.iload 2] (by decide +kernel) (?_ : Wp E (d + 2) 150 43 [.ref 74, .int v1, .int v2, .int v3] [.int v2, .int v_9] M_7 L_8 Q)
        refine wp_icmpge (off := 20) 63 (by decide +kernel) (by decide) (fun c_10 => ?_) (fun c_10 => ?_)
        · have hP := hP.1 c_10
          refine wp_seg (pc' := 13) [.iinc 3 1, .goto 0] (by decide +kernel) (?_ : Wp E (d + 2) 150 13 [.ref 74, .int v1, .int v2, .int (v3 + Int32.ofInt 1)] [] M_7 L_8 Q)
          exact ih v1 v2 (v3 + Int32.ofInt 1) M_7 L_8 hP
        · have hP := hP.2 c_10
          refine wp_seg (pc' := 59) [.iload 3, .istore 1, .aload 0, .aload 0, .getfield 653, .aload 0, .getfield 684, .iload 3, .iaload] (by decide +kernel) (show aok 106 0 v3 ∧ Wp E (d + 2) 150 59 [.ref 74, .int v3, .int v2, .int v3] [.int (M_7 106 v3.toNatClampNeg), .int (M_7 74 13), .ref 74] M_7 L_8 Q from ⟨⟨rfl, a_5⟩, ?_⟩)
          refine wp_callV 149 74 [.int (M_7 74 13), .int (M_7 106 v3.toNatClampNeg)] (i := 295) (by decide +kernel) (by decide +kernel) (by decide +kernel) (by decide +kernel) rfl rfl rfl (rest := []) rfl rfl ?_
          refine t_X10_worseBy hP (fun v_13 M_11 L_12 hP => ?_)
          show Wp E (d + 2) 150 62 [.ref 74, .int v3, .int v2, .int v3] [.int v_13] M_11 L_12 Q
          refine wp_seg (pc' := 13) [.istore 2, .iinc 3 1, .goto 0] (by decide +kernel) (?_ : Wp E (d + 2) 150 13 [.ref 74, .int v3, .int v_13, .int (v3 + Int32.ofInt 1)] [] M_11 L_12 Q)
          exact ih v3 v_13 (v3 + Int32.ofInt 1) M_11 L_12 hP
def P_X10_nextTry (M : Mem) (L : LMem) (K : Int32 → Mem → LMem → Prop) : Prop := P_X10_ones (M 74 13) M L (fun v_3 M_1 L_2 => PL_X10_nextTry_13 K 100000 (Int32.ofInt (-6)) v_3 (Int32.ofInt 0) M_1 L_2)
theorem t_X10_nextTry {E : VE} {d : Nat} {Q : QQ} {K : Int32 → Mem → LMem → Prop} {M : Mem} {L : LMem} (hP : P_X10_nextTry M L K) (hK : ∀ (v : Int32) (M : Mem) (L : LMem), K v M L → Q (some (.int v)) M L) : Wp E (d + 2) 150 0 [.ref 74, .null, .null, .null] [] M L Q := by
  unfold P_X10_nextTry at hP
  refine wp_seg (pc' := 7) [.iconst (-6), .istore 1, .aload 0, .getfield 653] (by decide +kernel) (?_ : Wp E (d + 2) 150 7 [.ref 74, .int (Int32.ofInt (-6)), .null, .null] [.int (M 74 13)] M L Q)
  refine wp_callS 97 [.int (M 74 13)] (i := 292) (by decide +kernel) (by decide +kernel) (by decide +kernel) rfl rfl rfl (rest := []) rfl rfl ?_
  refine t_X10_ones hP (fun v_3 M_1 L_2 hP => ?_)
  show Wp E (d + 2) 150 10 [.ref 74, .int (Int32.ofInt (-6)), .null, .null] [.int v_3] M_1 L_2 Q
  refine wp_seg (pc' := 13) [.istore 2, .iconst 0, .istore 3] (by decide +kernel) (?_ : Wp E (d + 2) 150 13 [.ref 74, .int (Int32.ofInt (-6)), .int v_3, .int (Int32.ofInt 0)] [] M_1 L_2 Q)
  exact tl_X10_nextTry_13 hK 100000 (Int32.ofInt (-6)) v_3 (Int32.ofInt 0) M_1 L_2 hP

def PL_X10_fewestOf_16 (K : Int32 → Mem → LMem → Prop)  : Nat → Int32 → Int32 → Int32 → Mem → LMem → Prop
  | 0, _, _, _, _, _ => False
  | n_ + 1, v1, v2, v3, M, L => (((Int32.ofInt 80) ≤ v3 → K v2 M L) ∧ (¬ ((Int32.ofInt 80) ≤ v3) → (vp_in v3 80 ∧ ((0 ≤ (M 106 v3.toNatClampNeg) → (((v1 &&& (M 106 v3.toNatClampNeg)) = 0 → PL_X10_fewestOf_16 K n_ v1 v2 (v3 + Int32.ofInt 1) M L) ∧ (¬ ((v1 &&& (M 106 v3.toNatClampNeg)) = 0) → (((v1 &&& (M 106 v3.toNatClampNeg)) = v1 → PL_X10_fewestOf_16 K n_ v1 v2 (v3 + Int32.ofInt 1) M L) ∧ (¬ ((v1 &&& (M 106 v3.toNatClampNeg)) = v1) → (vp_in (v1 &&& (M 106 v3.toNatClampNeg)) 8192 ∧ (vp_in (v1 &&& ((v1 &&& (M 106 v3.toNatClampNeg)) ^^^ (Int32.ofInt (-1)))) 8192 ∧ (((M 107 ((v1 &&& (M 106 v3.toNatClampNeg)).toNatClampNeg)) ≤ (M 107 ((v1 &&& ((v1 &&& (M 106 v3.toNatClampNeg)) ^^^ (Int32.ofInt (-1)))).toNatClampNeg)) → ((v2 ≤ ((M 107 ((v1 &&& ((v1 &&& (M 106 v3.toNatClampNeg)) ^^^ (Int32.ofInt (-1)))).toNatClampNeg)) + (Int32.ofInt 1)) → PL_X10_fewestOf_16 K n_ v1 v2 (v3 + Int32.ofInt 1) M L) ∧ (¬ (v2 ≤ ((M 107 ((v1 &&& ((v1 &&& (M 106 v3.toNatClampNeg)) ^^^ (Int32.ofInt (-1)))).toNatClampNeg)) + (Int32.ofInt 1))) → PL_X10_fewestOf_16 K n_ v1 ((M 107 ((v1 &&& ((v1 &&& (M 106 v3.toNatClampNeg)) ^^^ (Int32.ofInt (-1)))).toNatClampNeg)) + (Int32.ofInt 1)) (v3 + Int32.ofInt 1) M L))) ∧ (¬ ((M 107 ((v1 &&& (M 106 v3.toNatClampNeg)).toNatClampNeg)) ≤ (M 107 ((v1 &&& ((v1 &&& (M 106 v3.toNatClampNeg)) ^^^ (Int32.ofInt (-1)))).toNatClampNeg))) → ((v2 ≤ ((M 107 ((v1 &&& (M 106 v3.toNatClampNeg)).toNatClampNeg)) + (Int32.ofInt 1)) → PL_X10_fewestOf_16 K n_ v1 v2 (v3 + Int32.ofInt 1) M L) ∧ (¬ (v2 ≤ ((M 107 ((v1 &&& (M 106 v3.toNatClampNeg)).toNatClampNeg)) + (Int32.ofInt 1))) → PL_X10_fewestOf_16 K n_ v1 ((M 107 ((v1 &&& (M 106 v3.toNatClampNeg)).toNatClampNeg)) + (Int32.ofInt 1)) (v3 + Int32.ofInt 1) M L))))))))))) ∧ (¬ (0 ≤ (M 106 v3.toNatClampNeg)) → PL_X10_fewestOf_16 K n_ v1 v2 (v3 + Int32.ofInt 1) M L)))))
theorem tl_X10_fewestOf_16 {E : VE} {d : Nat} {Q : QQ} {K : Int32 → Mem → LMem → Prop}  (hK : ∀ (v : Int32) (M : Mem) (L : LMem), K v M L → Q (some (.int v)) M L)  : ∀ (n_ : Nat) (v1 : Int32) (v2 : Int32) (v3 : Int32) (M : Mem) (L : LMem), PL_X10_fewestOf_16 K n_ v1 v2 v3 M L → Wp E (d + 1) 152 16 [.ref 74, .int v1, .int v2, .int v3, .null, .null, .null, .null] [] M L Q := by
  intro n_
  induction n_ with
  | zero => intro v1 v2 v3 M L hP; exact False.elim hP
  | succ n_ ih =>
    intro v1 v2 v3 M L hP
    unfold PL_X10_fewestOf_16 at hP
    refine wp_seg (pc' := 19) [.iload 3, .iconst 80] (by decide +kernel) (?_ : Wp E (d + 1) 152 19 [.ref 74, .int v1, .int v2, .int v3, .null, .null, .null, .null] [.int (Int32.ofInt 80), .int v3] M L Q)
    refine wp_icmpge (off := 96) 115 (by decide +kernel) (by decide) (fun c_5 => ?_) (fun c_5 => ?_)
    · have hP := hP.1 c_5
      refine wp_seg (pc' := 116) [.iload 2] (by decide +kernel) (?_ : Wp E (d + 1) 152 116 [.ref 74, .int v1, .int v2, .int v3, .null, .null, .null, .null] [.int v2] M L Q)
      exact wp_iret (by decide +kernel) rfl (hK _ _ _ hP)
    · have hP := hP.2 c_5
      obtain ⟨a_6, hP⟩ := hP
      refine wp_seg (pc' := 28) [.aload 0, .getfield 684, .iload 3, .iaload] (by decide +kernel) (show aok 106 0 v3 ∧ Wp E (d + 1) 152 28 [.ref 74, .int v1, .int v2, .int v3, .null, .null, .null, .null] [.int (M 106 v3.toNatClampNeg)] M L Q from ⟨⟨rfl, a_6⟩, ?_⟩)
      refine wp_ifge (off := 7) 35 (by decide +kernel) (by decide) (fun c_7 => ?_) (fun c_7 => ?_)
      · have hP := hP.1 c_7
        refine wp_seg (pc' := 42) [.iload 1, .aload 0, .getfield 684, .iload 3, .iaload] (by decide +kernel) (show aok 106 0 v3 ∧ Wp E (d + 1) 152 42 [.ref 74, .int v1, .int v2, .int v3, .null, .null, .null, .null] [.int (M 106 v3.toNatClampNeg), .int v1] M L Q from ⟨⟨rfl, a_6⟩, ?_⟩)
        refine wp_seg (pc' := 47) [.iand, .istore 4, .iload 4] (by decide +kernel) (?_ : Wp E (d + 1) 152 47 [.ref 74, .int v1, .int v2, .int v3, .int (v1 &&& (M 106 v3.toNatClampNeg)), .null, .null, .null] [.int (v1 &&& (M 106 v3.toNatClampNeg))] M L Q)
        refine wp_ifeq (off := 62) 109 (by decide +kernel) (by decide) (fun c_8 => ?_) (fun c_8 => ?_)
        · have hP := hP.1 c_8
          refine wp_seg (pc' := 16) [.iinc 3 1, .goto 0] (by decide +kernel) (?_ : Wp E (d + 1) 152 16 [.ref 74, .int v1, .int v2, .int (v3 + Int32.ofInt 1), .int (v1 &&& (M 106 v3.toNatClampNeg)), .null, .null, .null] [] M L Q)
          refine wp_drop (lo := [.ref 74, .int v1, .int v2, .int (v3 + Int32.ofInt 1), .null, .null, .null, .null]) ⟨Or.inr rfl, Or.inr rfl, Or.inr rfl, Or.inr rfl, Or.inl rfl, Or.inl rfl, Or.inl rfl, Or.inl rfl, trivial⟩ ?_
          exact ih v1 v2 (v3 + Int32.ofInt 1) M L hP
        · have hP := hP.2 c_8
          refine wp_seg (pc' := 53) [.iload 4, .iload 1] (by decide +kernel) (?_ : Wp E (d + 1) 152 53 [.ref 74, .int v1, .int v2, .int v3, .int (v1 &&& (M 106 v3.toNatClampNeg)), .null, .null, .null] [.int v1, .int (v1 &&& (M 106 v3.toNatClampNeg))] M L Q)
          refine wp_icmpeq (off := 56) 109 (by decide +kernel) (by decide) (fun c_9 => ?_) (fun c_9 => ?_)
          · have hP := hP.1 c_9
            refine wp_seg (pc' := 16) [.iinc 3 1, .goto 0] (by decide +kernel) (?_ : Wp E (d + 1) 152 16 [.ref 74, .int v1, .int v2, .int (v3 + Int32.ofInt 1), .int (v1 &&& (M 106 v3.toNatClampNeg)), .null, .null, .null] [] M L Q)
            refine wp_drop (lo := [.ref 74, .int v1, .int v2, .int (v3 + Int32.ofInt 1), .null, .null, .null, .null]) ⟨Or.inr rfl, Or.inr rfl, Or.inr rfl, Or.inr rfl, Or.inl rfl, Or.inl rfl, Or.inl rfl, Or.inl rfl, trivial⟩ ?_
            exact ih v1 v2 (v3 + Int32.ofInt 1) M L hP
          · have hP := hP.2 c_9
            obtain ⟨a_10, hP⟩ := hP
            refine wp_seg (pc' := 63) [.aload 0, .getfield 685, .iload 4, .iaload] (by decide +kernel) (show aok 107 0 (v1 &&& (M 106 v3.toNatClampNeg)) ∧ Wp E (d + 1) 152 63 [.ref 74, .int v1, .int v2, .int v3, .int (v1 &&& (M 106 v3.toNatClampNeg)), .null, .null, .null] [.int (M 107 ((v1 &&& (M 106 v3.toNatClampNeg)).toNatClampNeg))] M L Q from ⟨⟨rfl, a_10⟩, ?_⟩)
            obtain ⟨a_11, hP⟩ := hP
            refine wp_seg (pc' := 76) [.istore 5, .aload 0, .getfield 685, .iload 1, .iload 4, .iconst (-1), .ixor, .iand, .iaload] (by decide +kernel) (show aok 107 0 (v1 &&& ((v1 &&& (M 106 v3.toNatClampNeg)) ^^^ (Int32.ofInt (-1)))) ∧ Wp E (d + 1) 152 76 [.ref 74, .int v1, .int v2, .int v3, .int (v1 &&& (M 106 v3.toNatClampNeg)), .int (M 107 ((v1 &&& (M 106 v3.toNatClampNeg)).toNatClampNeg)), .null, .null] [.int (M 107 ((v1 &&& ((v1 &&& (M 106 v3.toNatClampNeg)) ^^^ (Int32.ofInt (-1)))).toNatClampNeg))] M L Q from ⟨⟨rfl, a_11⟩, ?_⟩)
            refine wp_seg (pc' := 82) [.istore 6, .iload 5, .iload 6] (by decide +kernel) (?_ : Wp E (d + 1) 152 82 [.ref 74, .int v1, .int v2, .int v3, .int (v1 &&& (M 106 v3.toNatClampNeg)), .int (M 107 ((v1 &&& (M 106 v3.toNatClampNeg)).toNatClampNeg)), .int (M 107 ((v1 &&& ((v1 &&& (M 106 v3.toNatClampNeg)) ^^^ (Int32.ofInt (-1)))).toNatClampNeg)), .null] [.int (M 107 ((v1 &&& ((v1 &&& (M 106 v3.toNatClampNeg)) ^^^ (Int32.ofInt (-1)))).toNatClampNeg)), .int (M 107 ((v1 &&& (M 106 v3.toNatClampNeg)).toNatClampNeg))] M L Q)
            refine wp_icmple (off := 8) 90 (by decide +kernel) (by decide) (fun c_12 => ?_) (fun c_12 => ?_)
            · have hP := hP.1 c_12
              refine wp_seg (pc' := 99) [.iload 6, .iconst 1, .iadd, .istore 7, .iload 7, .iload 2] (by decide +kernel) (?_ : Wp E (d + 1) 152 99 [.ref 74, .int v1, .int v2, .int v3, .int (v1 &&& (M 106 v3.toNatClampNeg)), .int (M 107 ((v1 &&& (M 106 v3.toNatClampNeg)).toNatClampNeg)), .int (M 107 ((v1 &&& ((v1 &&& (M 106 v3.toNatClampNeg)) ^^^ (Int32.ofInt (-1)))).toNatClampNeg)), .int ((M 107 ((v1 &&& ((v1 &&& (M 106 v3.toNatClampNeg)) ^^^ (Int32.ofInt (-1)))).toNatClampNeg)) + (Int32.ofInt 1))] [.int v2, .int ((M 107 ((v1 &&& ((v1 &&& (M 106 v3.toNatClampNeg)) ^^^ (Int32.ofInt (-1)))).toNatClampNeg)) + (Int32.ofInt 1))] M L Q)
              refine wp_icmpge (off := 8) 107 (by decide +kernel) (by decide) (fun c_13 => ?_) (fun c_13 => ?_)
              · have hP := hP.1 c_13
                refine wp_seg (pc' := 16) [.iload 2, .istore 2, .iinc 3 1, .goto 0] (by decide +kernel) (?_ : Wp E (d + 1) 152 16 [.ref 74, .int v1, .int v2, .int (v3 + Int32.ofInt 1), .int (v1 &&& (M 106 v3.toNatClampNeg)), .int (M 107 ((v1 &&& (M 106 v3.toNatClampNeg)).toNatClampNeg)), .int (M 107 ((v1 &&& ((v1 &&& (M 106 v3.toNatClampNeg)) ^^^ (Int32.ofInt (-1)))).toNatClampNeg)), .int ((M 107 ((v1 &&& ((v1 &&& (M 106 v3.toNatClampNeg)) ^^^ (Int32.ofInt (-1)))).toNatClampNeg)) + (Int32.ofInt 1))] [] M L Q)
                refine wp_drop (lo := [.ref 74, .int v1, .int v2, .int (v3 + Int32.ofInt 1), .null, .null, .null, .null]) ⟨Or.inr rfl, Or.inr rfl, Or.inr rfl, Or.inr rfl, Or.inl rfl, Or.inl rfl, Or.inl rfl, Or.inl rfl, trivial⟩ ?_
                exact ih v1 v2 (v3 + Int32.ofInt 1) M L hP
              · have hP := hP.2 c_13
                refine wp_seg (pc' := 16) [.iload 7, .goto 0, .istore 2, .iinc 3 1, .goto 0] (by decide +kernel) (?_ : Wp E (d + 1) 152 16 [.ref 74, .int v1, .int ((M 107 ((v1 &&& ((v1 &&& (M 106 v3.toNatClampNeg)) ^^^ (Int32.ofInt (-1)))).toNatClampNeg)) + (Int32.ofInt 1)), .int (v3 + Int32.ofInt 1), .int (v1 &&& (M 106 v3.toNatClampNeg)), .int (M 107 ((v1 &&& (M 106 v3.toNatClampNeg)).toNatClampNeg)), .int (M 107 ((v1 &&& ((v1 &&& (M 106 v3.toNatClampNeg)) ^^^ (Int32.ofInt (-1)))).toNatClampNeg)), .int ((M 107 ((v1 &&& ((v1 &&& (M 106 v3.toNatClampNeg)) ^^^ (Int32.ofInt (-1)))).toNatClampNeg)) + (Int32.ofInt 1))] [] M L Q)
                refine wp_drop (lo := [.ref 74, .int v1, .int ((M 107 ((v1 &&& ((v1 &&& (M 106 v3.toNatClampNeg)) ^^^ (Int32.ofInt (-1)))).toNatClampNeg)) + (Int32.ofInt 1)), .int (v3 + Int32.ofInt 1), .null, .null, .null, .null]) ⟨Or.inr rfl, Or.inr rfl, Or.inr rfl, Or.inr rfl, Or.inl rfl, Or.inl rfl, Or.inl rfl, Or.inl rfl, trivial⟩ ?_
                exact ih v1 ((M 107 ((v1 &&& ((v1 &&& (M 106 v3.toNatClampNeg)) ^^^ (Int32.ofInt (-1)))).toNatClampNeg)) + (Int32.ofInt 1)) (v3 + Int32.ofInt 1) M L hP
            · have hP := hP.2 c_12
              refine wp_seg (pc' := 99) [.iload 5, .goto 0, .iconst 1, .iadd, .istore 7, .iload 7, .iload 2] (by decide +kernel) (?_ : Wp E (d + 1) 152 99 [.ref 74, .int v1, .int v2, .int v3, .int (v1 &&& (M 106 v3.toNatClampNeg)), .int (M 107 ((v1 &&& (M 106 v3.toNatClampNeg)).toNatClampNeg)), .int (M 107 ((v1 &&& ((v1 &&& (M 106 v3.toNatClampNeg)) ^^^ (Int32.ofInt (-1)))).toNatClampNeg)), .int ((M 107 ((v1 &&& (M 106 v3.toNatClampNeg)).toNatClampNeg)) + (Int32.ofInt 1))] [.int v2, .int ((M 107 ((v1 &&& (M 106 v3.toNatClampNeg)).toNatClampNeg)) + (Int32.ofInt 1))] M L Q)
              refine wp_icmpge (off := 8) 107 (by decide +kernel) (by decide) (fun c_14 => ?_) (fun c_14 => ?_)
              · have hP := hP.1 c_14
                refine wp_seg (pc' := 16) [.iload 2, .istore 2, .iinc 3 1, .goto 0] (by decide +kernel) (?_ : Wp E (d + 1) 152 16 [.ref 74, .int v1, .int v2, .int (v3 + Int32.ofInt 1), .int (v1 &&& (M 106 v3.toNatClampNeg)), .int (M 107 ((v1 &&& (M 106 v3.toNatClampNeg)).toNatClampNeg)), .int (M 107 ((v1 &&& ((v1 &&& (M 106 v3.toNatClampNeg)) ^^^ (Int32.ofInt (-1)))).toNatClampNeg)), .int ((M 107 ((v1 &&& (M 106 v3.toNatClampNeg)).toNatClampNeg)) + (Int32.ofInt 1))] [] M L Q)
                refine wp_drop (lo := [.ref 74, .int v1, .int v2, .int (v3 + Int32.ofInt 1), .null, .null, .null, .null]) ⟨Or.inr rfl, Or.inr rfl, Or.inr rfl, Or.inr rfl, Or.inl rfl, Or.inl rfl, Or.inl rfl, Or.inl rfl, trivial⟩ ?_
                exact ih v1 v2 (v3 + Int32.ofInt 1) M L hP
              · have hP := hP.2 c_14
                refine wp_seg (pc' := 16) [.iload 7, .goto 0, .istore 2, .iinc 3 1, .goto 0] (by decide +kernel) (?_ : Wp E (d + 1) 152 16 [.ref 74, .int v1, .int ((M 107 ((v1 &&& (M 106 v3.toNatClampNeg)).toNatClampNeg)) + (Int32.ofInt 1)), .int (v3 + Int32.ofInt 1), .int (v1 &&& (M 106 v3.toNatClampNeg)), .int (M 107 ((v1 &&& (M 106 v3.toNatClampNeg)).toNatClampNeg)), .int (M 107 ((v1 &&& ((v1 &&& (M 106 v3.toNatClampNeg)) ^^^ (Int32.ofInt (-1)))).toNatClampNeg)), .int ((M 107 ((v1 &&& (M 106 v3.toNatClampNeg)).toNatClampNeg)) + (Int32.ofInt 1))] [] M L Q)
                refine wp_drop (lo := [.ref 74, .int v1, .int ((M 107 ((v1 &&& (M 106 v3.toNatClampNeg)).toNatClampNeg)) + (Int32.ofInt 1)), .int (v3 + Int32.ofInt 1), .null, .null, .null, .null]) ⟨Or.inr rfl, Or.inr rfl, Or.inr rfl, Or.inr rfl, Or.inl rfl, Or.inl rfl, Or.inl rfl, Or.inl rfl, trivial⟩ ?_
                exact ih v1 ((M 107 ((v1 &&& (M 106 v3.toNatClampNeg)).toNatClampNeg)) + (Int32.ofInt 1)) (v3 + Int32.ofInt 1) M L hP
      · have hP := hP.2 c_7
        refine wp_seg (pc' := 47) [.iconst 0, .goto 0, .istore 4, .iload 4] (by decide +kernel) (?_ : Wp E (d + 1) 152 47 [.ref 74, .int v1, .int v2, .int v3, .int (Int32.ofInt 0), .null, .null, .null] [.int (Int32.ofInt 0)] M L Q)
        refine wp_ifeq (off := 62) 109 (by decide +kernel) (by decide) (fun c_15 => ?_) (fun c_15 => ?_)
        · skip
          refine wp_seg (pc' := 16) [.iinc 3 1, .goto 0] (by decide +kernel) (?_ : Wp E (d + 1) 152 16 [.ref 74, .int v1, .int v2, .int (v3 + Int32.ofInt 1), .int (Int32.ofInt 0), .null, .null, .null] [] M L Q)
          refine wp_drop (lo := [.ref 74, .int v1, .int v2, .int (v3 + Int32.ofInt 1), .null, .null, .null, .null]) ⟨Or.inr rfl, Or.inr rfl, Or.inr rfl, Or.inr rfl, Or.inl rfl, Or.inl rfl, Or.inl rfl, Or.inl rfl, trivial⟩ ?_
          exact ih v1 v2 (v3 + Int32.ofInt 1) M L hP
        · exact absurd (by decide) c_15
def P_X10_fewestOf (x1 : Int32) (M : Mem) (L : LMem) (K : Int32 → Mem → LMem → Prop) : Prop := P_X10_ones x1 M L (fun v_3 M_1 L_2 => (((Int32.ofInt 2) ≤ v_3 → PL_X10_fewestOf_16 K 100000 x1 (Int32.ofInt 9999) (Int32.ofInt 0) M_1 L_2) ∧ (¬ ((Int32.ofInt 2) ≤ v_3) → K (Int32.ofInt 0) M_1 L_2)))
theorem t_X10_fewestOf {E : VE} {d : Nat} {Q : QQ} {K : Int32 → Mem → LMem → Prop} {x1 : Int32} {M : Mem} {L : LMem} (hP : P_X10_fewestOf x1 M L K) (hK : ∀ (v : Int32) (M : Mem) (L : LMem), K v M L → Q (some (.int v)) M L) : Wp E (d + 1) 152 0 [.ref 74, .int x1, .null, .null, .null, .null, .null, .null] [] M L Q := by
  unfold P_X10_fewestOf at hP
  refine wp_seg (pc' := 1) [.iload 1] (by decide +kernel) (?_ : Wp E (d + 1) 152 1 [.ref 74, .int x1, .null, .null, .null, .null, .null, .null] [.int x1] M L Q)
  refine wp_callS 97 [.int x1] (i := 292) (by decide +kernel) (by decide +kernel) (by decide +kernel) rfl rfl rfl (rest := []) rfl rfl ?_
  refine t_X10_ones hP (fun v_3 M_1 L_2 hP => ?_)
  show Wp E (d + 1) 152 4 [.ref 74, .int x1, .null, .null, .null, .null, .null, .null] [.int v_3] M_1 L_2 Q
  refine wp_seg (pc' := 5) [.iconst 2] (by decide +kernel) (?_ : Wp E (d + 1) 152 5 [.ref 74, .int x1, .null, .null, .null, .null, .null, .null] [.int (Int32.ofInt 2), .int v_3] M_1 L_2 Q)
  refine wp_icmpge (off := 5) 10 (by decide +kernel) (by decide) (fun c_4 => ?_) (fun c_4 => ?_)
  · have hP := hP.1 c_4
    refine wp_seg (pc' := 16) [.iconst 9999, .istore 2, .iconst 0, .istore 3] (by decide +kernel) (?_ : Wp E (d + 1) 152 16 [.ref 74, .int x1, .int (Int32.ofInt 9999), .int (Int32.ofInt 0), .null, .null, .null, .null] [] M_1 L_2 Q)
    exact tl_X10_fewestOf_16 hK 100000 x1 (Int32.ofInt 9999) (Int32.ofInt 0) M_1 L_2 hP
  · have hP := hP.2 c_4
    refine wp_seg (pc' := 9) [.iconst 0] (by decide +kernel) (?_ : Wp E (d + 1) 152 9 [.ref 74, .int x1, .null, .null, .null, .null, .null, .null] [.int (Int32.ofInt 0)] M_1 L_2 Q)
    exact wp_iret (by decide +kernel) rfl (hK _ _ _ hP)

def PL_X10_fewestTries_12 (K : Int32 → Mem → LMem → Prop)  : Nat → Int32 → Mem → LMem → Prop
  | 0, _, _, _ => False
  | n_ + 1, v1, M, L => (((M 74 13) < v1 → (vp_in (M 74 13) 8192 ∧ (((Int32.ofInt 9999) ≤ (M 107 ((M 74 13).toNatClampNeg)) → K (Int32.ofInt (-6)) M L) ∧ (¬ ((Int32.ofInt 9999) ≤ (M 107 ((M 74 13).toNatClampNeg))) → K (M 107 ((M 74 13).toNatClampNeg)) M L)))) ∧ (¬ ((M 74 13) < v1) → (((v1 &&& ((M 74 13) ^^^ (Int32.ofInt (-1)))) = 0 → P_X10_fewestOf v1 M L (fun v_8 M_6 L_7 => (vp_in v1 8192 ∧ PL_X10_fewestTries_12 K n_ (v1 + Int32.ofInt 1) (mput M_6 107 v1.toNatClampNeg v_8) L_7))) ∧ (¬ ((v1 &&& ((M 74 13) ^^^ (Int32.ofInt (-1)))) = 0) → PL_X10_fewestTries_12 K n_ (v1 + Int32.ofInt 1) M L))))
theorem tl_X10_fewestTries_12 {E : VE} {d : Nat} {Q : QQ} {K : Int32 → Mem → LMem → Prop}  (hK : ∀ (v : Int32) (M : Mem) (L : LMem), K v M L → Q (some (.int v)) M L)  : ∀ (n_ : Nat) (v1 : Int32) (M : Mem) (L : LMem), PL_X10_fewestTries_12 K n_ v1 M L → Wp E (d + 2) 151 12 [.ref 74, .int v1] [] M L Q := by
  intro n_
  induction n_ with
  | zero => intro v1 M L hP; exact False.elim hP
  | succ n_ ih =>
    intro v1 M L hP
    unfold PL_X10_fewestTries_12 at hP
    refine wp_seg (pc' := 17) [.iload 1, .aload 0, .getfield 653] (by decide +kernel) (?_ : Wp E (d + 2) 151 17 [.ref 74, .int v1] [.int (M 74 13), .int v1] M L Q)
    refine wp_icmpgt (off := 31) 48 (by decide +kernel) (by decide) (fun c_2 => ?_) (fun c_2 => ?_)
    · have hP := hP.1 c_2
      obtain ⟨a_3, hP⟩ := hP
      refine wp_seg (pc' := 57) [.aload 0, .getfield 685, .aload 0, .getfield 653, .iaload] (by decide +kernel) (show aok 107 0 (M 74 13) ∧ Wp E (d + 2) 151 57 [.ref 74, .int v1] [.int (M 107 ((M 74 13).toNatClampNeg))] M L Q from ⟨⟨rfl, a_3⟩, ?_⟩)
      refine wp_seg (pc' := 60) [.iconst 9999] (by decide +kernel) (?_ : Wp E (d + 2) 151 60 [.ref 74, .int v1] [.int (Int32.ofInt 9999), .int (M 107 ((M 74 13).toNatClampNeg))] M L Q)
      refine wp_icmpge (off := 15) 75 (by decide +kernel) (by decide) (fun c_4 => ?_) (fun c_4 => ?_)
      · have hP := hP.1 c_4
        refine wp_seg (pc' := 77) [.iconst (-6)] (by decide +kernel) (?_ : Wp E (d + 2) 151 77 [.ref 74, .int v1] [.int (Int32.ofInt (-6))] M L Q)
        exact wp_iret (by decide +kernel) rfl (hK _ _ _ hP)
      · have hP := hP.2 c_4
        refine wp_seg (pc' := 72) [.aload 0, .getfield 685, .aload 0, .getfield 653, .iaload] (by decide +kernel) (show aok 107 0 (M 74 13) ∧ Wp E (d + 2) 151 72 [.ref 74, .int v1] [.int (M 107 ((M 74 13).toNatClampNeg))] M L Q from ⟨⟨rfl, a_3⟩, ?_⟩)
        refine wp_seg (pc' := 77) [.goto 0] (by decide +kernel) (?_ : Wp E (d + 2) 151 77 [.ref 74, .int v1] [.int (M 107 ((M 74 13).toNatClampNeg))] M L Q)
        exact wp_iret (by decide +kernel) rfl (hK _ _ _ hP)
    · have hP := hP.2 c_2
      refine wp_seg (pc' := 28) [.iload 1, .aload 0, .getfield 653, .iconst (-1), .ixor, .iand] (by decide +kernel) (?_ : Wp E (d + 2) 151 28 [.ref 74, .int v1] [.int (v1 &&& ((M 74 13) ^^^ (Int32.ofInt (-1))))] M L Q)
      refine wp_ifne (off := 14) 42 (by decide +kernel) (by decide) (fun c_5 => ?_) (fun c_5 => ?_)
      · have hP := hP.2 c_5
        refine wp_seg (pc' := 12) [.iinc 1 1, .goto 0] (by decide +kernel) (?_ : Wp E (d + 2) 151 12 [.ref 74, .int (v1 + Int32.ofInt 1)] [] M L Q)
        exact ih (v1 + Int32.ofInt 1) M L hP
      · have hP := hP.1 c_5
        refine wp_seg (pc' := 38) [.aload 0, .getfield 685, .iload 1, .aload 0, .iload 1] (by decide +kernel) (?_ : Wp E (d + 2) 151 38 [.ref 74, .int v1] [.int v1, .ref 74, .int v1, .ref 107] M L Q)
        refine wp_callV 152 74 [.int v1] (i := 298) (by decide +kernel) (by decide +kernel) (by decide +kernel) (by decide +kernel) rfl rfl rfl (rest := [.int v1, .ref 107]) rfl rfl ?_
        refine t_X10_fewestOf hP (fun v_8 M_6 L_7 hP => ?_)
        show Wp E (d + 2) 151 41 [.ref 74, .int v1] [.int v_8, .int v1, .ref 107] M_6 L_7 Q
        obtain ⟨a_9, hP⟩ := hP
        refine wp_seg (pc' := 42) [.iastore] (by decide +kernel) (show aok 107 0 v1 ∧ Wp E (d + 2) 151 42 [.ref 74, .int v1] [] (mput M_6 107 v1.toNatClampNeg v_8) L_7 Q from ⟨⟨rfl, a_9⟩, ?_⟩)
        refine wp_seg (pc' := 12) [.iinc 1 1, .goto 0] (by decide +kernel) (?_ : Wp E (d + 2) 151 12 [.ref 74, .int (v1 + Int32.ofInt 1)] [] (mput M_6 107 v1.toNatClampNeg v_8) L_7 Q)
        exact ih (v1 + Int32.ofInt 1) (mput M_6 107 v1.toNatClampNeg v_8) L_7 hP
def P_X10_fewestTries (M : Mem) (L : LMem) (K : Int32 → Mem → LMem → Prop) : Prop := (((M 74 13) = 0 → K (Int32.ofInt (-6)) M L) ∧ (¬ ((M 74 13) = 0) → PL_X10_fewestTries_12 K 100000 (Int32.ofInt 0) M L))
theorem t_X10_fewestTries {E : VE} {d : Nat} {Q : QQ} {K : Int32 → Mem → LMem → Prop} {M : Mem} {L : LMem} (hP : P_X10_fewestTries M L K) (hK : ∀ (v : Int32) (M : Mem) (L : LMem), K v M L → Q (some (.int v)) M L) : Wp E (d + 2) 151 0 [.ref 74, .null] [] M L Q := by
  unfold P_X10_fewestTries at hP
  refine wp_seg (pc' := 4) [.aload 0, .getfield 653] (by decide +kernel) (?_ : Wp E (d + 2) 151 4 [.ref 74, .null] [.int (M 74 13)] M L Q)
  refine wp_ifne (off := 6) 10 (by decide +kernel) (by decide) (fun c_1 => ?_) (fun c_1 => ?_)
  · have hP := hP.2 c_1
    refine wp_seg (pc' := 12) [.iconst 0, .istore 1] (by decide +kernel) (?_ : Wp E (d + 2) 151 12 [.ref 74, .int (Int32.ofInt 0)] [] M L Q)
    exact tl_X10_fewestTries_12 hK 100000 (Int32.ofInt 0) M L hP
  · have hP := hP.1 c_1
    refine wp_seg (pc' := 9) [.iconst (-6)] (by decide +kernel) (?_ : Wp E (d + 2) 151 9 [.ref 74, .null] [.int (Int32.ofInt (-6))] M L Q)
    exact wp_iret (by decide +kernel) rfl (hK _ _ _ hP)

def P_X10_stopped (x1 : Int32) (M : Mem) (L : LMem) (K : Int32 → Mem → LMem → Prop) : Prop := (((f_X10_in M x1.toInt64 (Int64.ofNat 0) (Int64.ofNat 2)) = 0 → K (Int32.ofInt (-2)) M L) ∧ (¬ ((f_X10_in M x1.toInt64 (Int64.ofNat 0) (Int64.ofNat 2)) = 0) → ((x1 = 0 → K (M 74 13) M L) ∧ (¬ (x1 = 0) → P_X10_findTries M L (fun M_3 L_4 => ((x1 = (Int32.ofInt 1) → P_X10_nextTry M_3 L_4 (fun v_11 M_9 L_10 => K v_11 M_9 L_10)) ∧ (¬ (x1 = (Int32.ofInt 1)) → P_X10_fewestTries M_3 L_4 (fun v_8 M_6 L_7 => K v_8 M_6 L_7))))))))
theorem t_X10_stopped {E : VE} {d : Nat} {Q : QQ} {K : Int32 → Mem → LMem → Prop} {x1 : Int32} {M : Mem} {L : LMem} (hP : P_X10_stopped x1 M L K) (hK : ∀ (v : Int32) (M : Mem) (L : LMem), K v M L → Q (some (.int v)) M L) : Wp E (d + 5) 153 0 [.ref 74, .int x1] [] M L Q := by
  unfold P_X10_stopped at hP
  refine wp_seg (pc' := 6) [.iload 1, .i2l, .ldc2_w 0, .ldc2_w 2] (by decide +kernel) (?_ : Wp E (d + 5) 153 6 [.ref 74, .int x1] [.long (Int64.ofNat 2), .long (Int64.ofNat 0), .long x1.toInt64] M L Q)
  refine wp_callS 94 [.long x1.toInt64, .long (Int64.ofNat 0), .long (Int64.ofNat 2)] (i := 129) (by decide +kernel) (by decide +kernel) (by decide +kernel) rfl rfl rfl (rest := []) rfl rfl ?_
  refine s_X10_in M x1.toInt64 (Int64.ofNat 0) (Int64.ofNat 2)  ?_
  show Wp E (d + 5) 153 9 [.ref 74, .int x1] [.int (f_X10_in M x1.toInt64 (Int64.ofNat 0) (Int64.ofNat 2))] M L Q
  refine wp_ifne (off := 6) 15 (by decide +kernel) (by decide) (fun c_1 => ?_) (fun c_1 => ?_)
  · have hP := hP.2 c_1
    refine wp_seg (pc' := 16) [.iload 1] (by decide +kernel) (?_ : Wp E (d + 5) 153 16 [.ref 74, .int x1] [.int x1] M L Q)
    refine wp_ifne (off := 8) 24 (by decide +kernel) (by decide) (fun c_2 => ?_) (fun c_2 => ?_)
    · have hP := hP.2 c_2
      refine wp_seg (pc' := 25) [.aload 0] (by decide +kernel) (?_ : Wp E (d + 5) 153 25 [.ref 74, .int x1] [.ref 74] M L Q)
      refine wp_callV 148 74 [] (i := 301) (by decide +kernel) (by decide +kernel) (by decide +kernel) (by decide +kernel) rfl rfl rfl (rest := []) rfl rfl ?_
      refine t_X10_findTries hP (fun M_3 L_4 hP => ?_)
      show Wp E (d + 5) 153 28 [.ref 74, .int x1] [] M_3 L_4 Q
      refine wp_seg (pc' := 30) [.iload 1, .iconst 1] (by decide +kernel) (?_ : Wp E (d + 5) 153 30 [.ref 74, .int x1] [.int (Int32.ofInt 1), .int x1] M_3 L_4 Q)
      refine wp_icmpne (off := 10) 40 (by decide +kernel) (by decide) (fun c_5 => ?_) (fun c_5 => ?_)
      · have hP := hP.2 c_5
        refine wp_seg (pc' := 41) [.aload 0] (by decide +kernel) (?_ : Wp E (d + 5) 153 41 [.ref 74, .int x1] [.ref 74] M_3 L_4 Q)
        refine wp_callV 151 74 [] (i := 307) (by decide +kernel) (by decide +kernel) (by decide +kernel) (by decide +kernel) rfl rfl rfl (rest := []) rfl rfl ?_
        refine t_X10_fewestTries hP (fun v_8 M_6 L_7 hP => ?_)
        show Wp E (d + 5) 153 44 [.ref 74, .int x1] [.int v_8] M_6 L_7 Q
        exact wp_iret (by decide +kernel) rfl (hK _ _ _ hP)
      · have hP := hP.1 c_5
        refine wp_seg (pc' := 34) [.aload 0] (by decide +kernel) (?_ : Wp E (d + 5) 153 34 [.ref 74, .int x1] [.ref 74] M_3 L_4 Q)
        refine wp_callV 150 74 [] (i := 304) (by decide +kernel) (by decide +kernel) (by decide +kernel) (by decide +kernel) rfl rfl rfl (rest := []) rfl rfl ?_
        refine t_X10_nextTry hP (fun v_11 M_9 L_10 hP => ?_)
        show Wp E (d + 5) 153 37 [.ref 74, .int x1] [.int v_11] M_9 L_10 Q
        refine wp_seg (pc' := 44) [.goto 0] (by decide +kernel) (?_ : Wp E (d + 5) 153 44 [.ref 74, .int x1] [.int v_11] M_9 L_10 Q)
        exact wp_iret (by decide +kernel) rfl (hK _ _ _ hP)
    · have hP := hP.1 c_2
      refine wp_seg (pc' := 23) [.aload 0, .getfield 653] (by decide +kernel) (?_ : Wp E (d + 5) 153 23 [.ref 74, .int x1] [.int (M 74 13)] M L Q)
      exact wp_iret (by decide +kernel) rfl (hK _ _ _ hP)
  · have hP := hP.1 c_1
    refine wp_seg (pc' := 14) [.iconst (-2)] (by decide +kernel) (?_ : Wp E (d + 5) 153 14 [.ref 74, .int x1] [.int (Int32.ofInt (-2))] M L Q)
    exact wp_iret (by decide +kernel) rfl (hK _ _ _ hP)

def P_X10_far (x1 : Int32) (x2 : Int32) (M : Mem) (L : LMem) (K : Int32 → Mem → LMem → Prop) : Prop := (((f_X10_areTwo M x1 x2) = 0 → K (Int32.ofInt (-1)) M L) ∧ (¬ ((f_X10_areTwo M x1 x2) = 0) → P_X10_findOff x2 (Int32.ofInt 0) (mput M 74 21 (M 74 4)) L (fun M_2 L_3 => ((vp_in x1 8) ∧ K (f_X10_farOf M_2 x1) M_2 L_3))))
theorem t_X10_far {E : VE} {d : Nat} {Q : QQ} {K : Int32 → Mem → LMem → Prop} {x1 : Int32} {x2 : Int32} {M : Mem} {L : LMem} (hP : P_X10_far x1 x2 M L K) (hK : ∀ (v : Int32) (M : Mem) (L : LMem), K v M L → Q (some (.int v)) M L) : Wp E (d + 3) 155 0 [.ref 74, .int x1, .int x2] [] M L Q := by
  unfold P_X10_far at hP
  refine wp_seg (pc' := 2) [.iload 1, .iload 2] (by decide +kernel) (?_ : Wp E (d + 3) 155 2 [.ref 74, .int x1, .int x2] [.int x2, .int x1] M L Q)
  refine wp_callS 96 [.int x1, .int x2] (i := 198) (by decide +kernel) (by decide +kernel) (by decide +kernel) rfl rfl rfl (rest := []) rfl rfl ?_
  refine s_X10_areTwo M x1 x2  ?_
  show Wp E (d + 3) 155 5 [.ref 74, .int x1, .int x2] [.int (f_X10_areTwo M x1 x2)] M L Q
  refine wp_ifne (off := 5) 10 (by decide +kernel) (by decide) (fun c_1 => ?_) (fun c_1 => ?_)
  · have hP := hP.2 c_1
    refine wp_seg (pc' := 21) [.aload 0, .aload 0, .getfield 644, .putfield 661, .aload 0, .iload 2, .iconst 0] (by decide +kernel) (?_ : Wp E (d + 3) 155 21 [.ref 74, .int x1, .int x2] [.int (Int32.ofInt 0), .int x2, .ref 74] (mput M 74 21 (M 74 4)) L Q)
    refine wp_callV 110 74 [.int x2, .int (Int32.ofInt 0)] (i := 192) (by decide +kernel) (by decide +kernel) (by decide +kernel) (by decide +kernel) rfl rfl rfl (rest := []) rfl rfl ?_
    refine t_X10_findOff hP (fun M_2 L_3 hP => ?_)
    show Wp E (d + 3) 155 24 [.ref 74, .int x1, .int x2] [] M_2 L_3 Q
    refine wp_seg (pc' := 26) [.aload 0, .iload 1] (by decide +kernel) (?_ : Wp E (d + 3) 155 26 [.ref 74, .int x1, .int x2] [.int x1, .ref 74] M_2 L_3 Q)
    refine wp_callV 154 74 [.int x1] (i := 310) (by decide +kernel) (by decide +kernel) (by decide +kernel) (by decide +kernel) rfl rfl rfl (rest := []) rfl rfl ?_
    obtain ⟨a_4, hP⟩ := hP
    refine s_X10_farOf M_2 x1 a_4 ?_
    show Wp E (d + 3) 155 29 [.ref 74, .int x1, .int x2] [.int (f_X10_farOf M_2 x1)] M_2 L_3 Q
    exact wp_iret (by decide +kernel) rfl (hK _ _ _ hP)
  · have hP := hP.1 c_1
    refine wp_seg (pc' := 9) [.iconst (-1)] (by decide +kernel) (?_ : Wp E (d + 3) 155 9 [.ref 74, .int x1, .int x2] [.int (Int32.ofInt (-1))] M L Q)
    exact wp_iret (by decide +kernel) rfl (hK _ _ _ hP)

def PL_X10_sumOf_18 (K : Int32 → Mem → LMem → Prop) (C_4 : Int32 → Int32 → Mem → LMem → Prop) : Nat → Int32 → Int32 → Int32 → Mem → LMem → Prop
  | 0, _, _, _, _, _ => False
  | n_ + 1, v1, v2, v3, M, L => (((Int32.ofInt 8) ≤ v3 → C_4 v1 (v2 + Int32.ofInt 1) M L) ∧ (¬ ((Int32.ofInt 8) ≤ v3) → ((v3 = v2 → PL_X10_sumOf_18 K C_4 n_ (v1 + (Int32.ofInt 0)) v2 (v3 + Int32.ofInt 1) M L) ∧ (¬ (v3 = v2) → ((vp_in v3 8) ∧ PL_X10_sumOf_18 K C_4 n_ (v1 + (f_X10_farOf M v3)) v2 (v3 + Int32.ofInt 1) M L)))))
theorem tl_X10_sumOf_18 {E : VE} {d : Nat} {Q : QQ} {K : Int32 → Mem → LMem → Prop} {C_4 : Int32 → Int32 → Mem → LMem → Prop} (hK : ∀ (v : Int32) (M : Mem) (L : LMem), K v M L → Q (some (.int v)) M L) (hC_4 : ∀ (v1 : Int32) (v2 : Int32) (M : Mem) (L : LMem), C_4 v1 v2 M L → Wp E (d + 3) 156 4 [.ref 74, .int v1, .int v2, .null] [] M L Q) : ∀ (n_ : Nat) (v1 : Int32) (v2 : Int32) (v3 : Int32) (M : Mem) (L : LMem), PL_X10_sumOf_18 K C_4 n_ v1 v2 v3 M L → Wp E (d + 3) 156 18 [.ref 74, .int v1, .int v2, .int v3] [] M L Q := by
  intro n_
  induction n_ with
  | zero => intro v1 v2 v3 M L hP; exact False.elim hP
  | succ n_ ih =>
    intro v1 v2 v3 M L hP
    unfold PL_X10_sumOf_18 at hP
    refine wp_seg (pc' := 21) [.iload 3, .iconst 8] (by decide +kernel) (?_ : Wp E (d + 3) 156 21 [.ref 74, .int v1, .int v2, .int v3] [.int (Int32.ofInt 8), .int v3] M L Q)
    refine wp_icmpge (off := 26) 47 (by decide +kernel) (by decide) (fun c_4 => ?_) (fun c_4 => ?_)
    · have hP := hP.1 c_4
      refine wp_seg (pc' := 4) [.iinc 2 1, .goto 0] (by decide +kernel) (?_ : Wp E (d + 3) 156 4 [.ref 74, .int v1, .int (v2 + Int32.ofInt 1), .int v3] [] M L Q)
      refine wp_drop (lo := [.ref 74, .int v1, .int (v2 + Int32.ofInt 1), .null]) ⟨Or.inr rfl, Or.inr rfl, Or.inr rfl, Or.inl rfl, trivial⟩ ?_
      exact hC_4 v1 (v2 + Int32.ofInt 1) M L hP
    · have hP := hP.2 c_4
      refine wp_seg (pc' := 27) [.iload 1, .iload 3, .iload 2] (by decide +kernel) (?_ : Wp E (d + 3) 156 27 [.ref 74, .int v1, .int v2, .int v3] [.int v2, .int v3, .int v1] M L Q)
      refine wp_icmpne (off := 7) 34 (by decide +kernel) (by decide) (fun c_5 => ?_) (fun c_5 => ?_)
      · have hP := hP.2 c_5
        refine wp_seg (pc' := 36) [.aload 0, .iload 3] (by decide +kernel) (?_ : Wp E (d + 3) 156 36 [.ref 74, .int v1, .int v2, .int v3] [.int v3, .ref 74, .int v1] M L Q)
        refine wp_callV 154 74 [.int v3] (i := 310) (by decide +kernel) (by decide +kernel) (by decide +kernel) (by decide +kernel) rfl rfl rfl (rest := [.int v1]) rfl rfl ?_
        obtain ⟨a_6, hP⟩ := hP
        refine s_X10_farOf M v3 a_6 ?_
        show Wp E (d + 3) 156 39 [.ref 74, .int v1, .int v2, .int v3] [.int (f_X10_farOf M v3), .int v1] M L Q
        refine wp_seg (pc' := 18) [.iadd, .istore 1, .iinc 3 1, .goto 0] (by decide +kernel) (?_ : Wp E (d + 3) 156 18 [.ref 74, .int (v1 + (f_X10_farOf M v3)), .int v2, .int (v3 + Int32.ofInt 1)] [] M L Q)
        exact ih (v1 + (f_X10_farOf M v3)) v2 (v3 + Int32.ofInt 1) M L hP
      · have hP := hP.1 c_5
        refine wp_seg (pc' := 18) [.iconst 0, .goto 0, .iadd, .istore 1, .iinc 3 1, .goto 0] (by decide +kernel) (?_ : Wp E (d + 3) 156 18 [.ref 74, .int (v1 + (Int32.ofInt 0)), .int v2, .int (v3 + Int32.ofInt 1)] [] M L Q)
        exact ih (v1 + (Int32.ofInt 0)) v2 (v3 + Int32.ofInt 1) M L hP
def PL_X10_sumOf_4 (K : Int32 → Mem → LMem → Prop)  : Nat → Int32 → Int32 → Mem → LMem → Prop
  | 0, _, _, _, _ => False
  | n_ + 1, v1, v2, M, L => (((Int32.ofInt 8) ≤ v2 → K v1 M L) ∧ (¬ ((Int32.ofInt 8) ≤ v2) → P_X10_findOff v2 (Int32.ofInt 0) M L (fun M_2 L_3 => PL_X10_sumOf_18 K (PL_X10_sumOf_4 K n_) 100000 v1 v2 (Int32.ofInt 0) M_2 L_3)))
theorem tl_X10_sumOf_4 {E : VE} {d : Nat} {Q : QQ} {K : Int32 → Mem → LMem → Prop}  (hK : ∀ (v : Int32) (M : Mem) (L : LMem), K v M L → Q (some (.int v)) M L)  : ∀ (n_ : Nat) (v1 : Int32) (v2 : Int32) (M : Mem) (L : LMem), PL_X10_sumOf_4 K n_ v1 v2 M L → Wp E (d + 3) 156 4 [.ref 74, .int v1, .int v2, .null] [] M L Q := by
  intro n_
  induction n_ with
  | zero => intro v1 v2 M L hP; exact False.elim hP
  | succ n_ ih =>
    intro v1 v2 M L hP
    unfold PL_X10_sumOf_4 at hP
    refine wp_seg (pc' := 7) [.iload 2, .iconst 8] (by decide +kernel) (?_ : Wp E (d + 3) 156 7 [.ref 74, .int v1, .int v2, .null] [.int (Int32.ofInt 8), .int v2] M L Q)
    refine wp_icmpge (off := 46) 53 (by decide +kernel) (by decide) (fun c_1 => ?_) (fun c_1 => ?_)
    · have hP := hP.1 c_1
      refine wp_seg (pc' := 54) [.iload 1] (by decide +kernel) (?_ : Wp E (d + 3) 156 54 [.ref 74, .int v1, .int v2, .null] [.int v1] M L Q)
      exact wp_iret (by decide +kernel) rfl (hK _ _ _ hP)
    · have hP := hP.2 c_1
      refine wp_seg (pc' := 13) [.aload 0, .iload 2, .iconst 0] (by decide +kernel) (?_ : Wp E (d + 3) 156 13 [.ref 74, .int v1, .int v2, .null] [.int (Int32.ofInt 0), .int v2, .ref 74] M L Q)
      refine wp_callV 110 74 [.int v2, .int (Int32.ofInt 0)] (i := 192) (by decide +kernel) (by decide +kernel) (by decide +kernel) (by decide +kernel) rfl rfl rfl (rest := []) rfl rfl ?_
      refine t_X10_findOff hP (fun M_2 L_3 hP => ?_)
      show Wp E (d + 3) 156 16 [.ref 74, .int v1, .int v2, .null] [] M_2 L_3 Q
      refine wp_seg (pc' := 18) [.iconst 0, .istore 3] (by decide +kernel) (?_ : Wp E (d + 3) 156 18 [.ref 74, .int v1, .int v2, .int (Int32.ofInt 0)] [] M_2 L_3 Q)
      exact tl_X10_sumOf_18 hK (fun v1 v2 M L hP => ih v1 v2 M L hP) 100000 v1 v2 (Int32.ofInt 0) M_2 L_3 hP
def P_X10_sumOf (M : Mem) (L : LMem) (K : Int32 → Mem → LMem → Prop) : Prop := PL_X10_sumOf_4 K 100000 (Int32.ofInt 0) (Int32.ofInt 0) M L
theorem t_X10_sumOf {E : VE} {d : Nat} {Q : QQ} {K : Int32 → Mem → LMem → Prop} {M : Mem} {L : LMem} (hP : P_X10_sumOf M L K) (hK : ∀ (v : Int32) (M : Mem) (L : LMem), K v M L → Q (some (.int v)) M L) : Wp E (d + 3) 156 0 [.ref 74, .null, .null, .null] [] M L Q := by
  unfold P_X10_sumOf at hP
  refine wp_seg (pc' := 4) [.iconst 0, .istore 1, .iconst 0, .istore 2] (by decide +kernel) (?_ : Wp E (d + 3) 156 4 [.ref 74, .int (Int32.ofInt 0), .int (Int32.ofInt 0), .null] [] M L Q)
  exact tl_X10_sumOf_4 hK 100000 (Int32.ofInt 0) (Int32.ofInt 0) M L hP

def PL_X10_further_88 (K : Int32 → Mem → LMem → Prop) (C_75 : Int32 → Int32 → Int32 → Int32 → Int32 → Int32 → Mem → LMem → Prop) : Nat → Int32 → Int32 → Int32 → Int32 → Int32 → Int32 → Int32 → Mem → LMem → Prop
  | 0, _, _, _, _, _, _, _, _, _ => False
  | n_ + 1, v1, v2, v3, v4, v5, v6, v7, M, L => (((Int32.ofInt 8) ≤ v7 → C_75 v1 v2 v3 v4 v5 (v6 + Int32.ofInt 1) M L) ∧ (¬ ((Int32.ofInt 8) ≤ v7) → (vp_in (M 74 4) 13 ∧ P_X10_sumOf (mput (mput (mput (mput M 75 ((M 74 4).toNatClampNeg) v6) 76 ((M 74 4).toNatClampNeg) v7) 77 ((M 74 4).toNatClampNeg) (Int32.ofInt 45)) 78 ((M 74 4).toNatClampNeg) v1) L (fun v_12 M_10 L_11 => ((v3 < 0 → PL_X10_further_88 K C_75 n_ v1 v2 (((Int32.ofInt 10) * v6) + v7) v_12 v5 v6 (v7 + Int32.ofInt 1) M_10 L_11) ∧ (¬ (v3 < 0) → ((v4 ≤ v_12 → PL_X10_further_88 K C_75 n_ v1 v2 v3 v4 v5 v6 (v7 + Int32.ofInt 1) M_10 L_11) ∧ (¬ (v4 ≤ v_12) → PL_X10_further_88 K C_75 n_ v1 v2 (((Int32.ofInt 10) * v6) + v7) v_12 v5 v6 (v7 + Int32.ofInt 1) M_10 L_11))))))))
theorem tl_X10_further_88 {E : VE} {d : Nat} {Q : QQ} {K : Int32 → Mem → LMem → Prop} {C_75 : Int32 → Int32 → Int32 → Int32 → Int32 → Int32 → Mem → LMem → Prop} (hK : ∀ (v : Int32) (M : Mem) (L : LMem), K v M L → Q (some (.int v)) M L) (hC_75 : ∀ (v1 : Int32) (v2 : Int32) (v3 : Int32) (v4 : Int32) (v5 : Int32) (v6 : Int32) (M : Mem) (L : LMem), C_75 v1 v2 v3 v4 v5 v6 M L → Wp E (d + 4) 157 75 [.ref 74, .int v1, .int v2, .int v3, .int v4, .int v5, .int v6, .null, .null] [] M L Q) : ∀ (n_ : Nat) (v1 : Int32) (v2 : Int32) (v3 : Int32) (v4 : Int32) (v5 : Int32) (v6 : Int32) (v7 : Int32) (M : Mem) (L : LMem), PL_X10_further_88 K C_75 n_ v1 v2 v3 v4 v5 v6 v7 M L → Wp E (d + 4) 157 88 [.ref 74, .int v1, .int v2, .int v3, .int v4, .int v5, .int v6, .int v7, .null] [] M L Q := by
  intro n_
  induction n_ with
  | zero => intro v1 v2 v3 v4 v5 v6 v7 M L hP; exact False.elim hP
  | succ n_ ih =>
    intro v1 v2 v3 v4 v5 v6 v7 M L hP
    unfold PL_X10_further_88 at hP
    refine wp_seg (pc' := 92) [.iload 7, .iconst 8] (by decide +kernel) (?_ : Wp E (d + 4) 157 92 [.ref 74, .int v1, .int v2, .int v3, .int v4, .int v5, .int v6, .int v7, .null] [.int (Int32.ofInt 8), .int v7] M L Q)
    refine wp_icmpge (off := 82) 174 (by decide +kernel) (by decide) (fun c_8 => ?_) (fun c_8 => ?_)
    · have hP := hP.1 c_8
      refine wp_seg (pc' := 75) [.iinc 6 1, .goto 0] (by decide +kernel) (?_ : Wp E (d + 4) 157 75 [.ref 74, .int v1, .int v2, .int v3, .int v4, .int v5, .int (v6 + Int32.ofInt 1), .int v7, .null] [] M L Q)
      refine wp_drop (lo := [.ref 74, .int v1, .int v2, .int v3, .int v4, .int v5, .int (v6 + Int32.ofInt 1), .null, .null]) ⟨Or.inr rfl, Or.inr rfl, Or.inr rfl, Or.inr rfl, Or.inr rfl, Or.inr rfl, Or.inr rfl, Or.inl rfl, Or.inl rfl, trivial⟩ ?_
      exact hC_75 v1 v2 v3 v4 v5 (v6 + Int32.ofInt 1) M L hP
    · have hP := hP.2 c_8
      obtain ⟨a_9, hP⟩ := hP
      refine wp_seg (pc' := 106) [.aload 0, .getfield 640, .aload 0, .getfield 644, .iload 6, .iastore] (by decide +kernel) (show aok 75 0 (M 74 4) ∧ Wp E (d + 4) 157 106 [.ref 74, .int v1, .int v2, .int v3, .int v4, .int v5, .int v6, .int v7, .null] [] (mput M 75 ((M 74 4).toNatClampNeg) v6) L Q from ⟨⟨rfl, a_9⟩, ?_⟩)
      refine wp_seg (pc' := 117) [.aload 0, .getfield 641, .aload 0, .getfield 644, .iload 7, .iastore] (by decide +kernel) (show aok 76 0 (M 74 4) ∧ Wp E (d + 4) 157 117 [.ref 74, .int v1, .int v2, .int v3, .int v4, .int v5, .int v6, .int v7, .null] [] (mput (mput M 75 ((M 74 4).toNatClampNeg) v6) 76 ((M 74 4).toNatClampNeg) v7) L Q from ⟨⟨rfl, a_9⟩, ?_⟩)
      refine wp_seg (pc' := 128) [.aload 0, .getfield 642, .aload 0, .getfield 644, .iconst 45, .iastore] (by decide +kernel) (show aok 77 0 (M 74 4) ∧ Wp E (d + 4) 157 128 [.ref 74, .int v1, .int v2, .int v3, .int v4, .int v5, .int v6, .int v7, .null] [] (mput (mput (mput M 75 ((M 74 4).toNatClampNeg) v6) 76 ((M 74 4).toNatClampNeg) v7) 77 ((M 74 4).toNatClampNeg) (Int32.ofInt 45)) L Q from ⟨⟨rfl, a_9⟩, ?_⟩)
      refine wp_seg (pc' := 138) [.aload 0, .getfield 643, .aload 0, .getfield 644, .iload 1, .iastore] (by decide +kernel) (show aok 78 0 (M 74 4) ∧ Wp E (d + 4) 157 138 [.ref 74, .int v1, .int v2, .int v3, .int v4, .int v5, .int v6, .int v7, .null] [] (mput (mput (mput (mput M 75 ((M 74 4).toNatClampNeg) v6) 76 ((M 74 4).toNatClampNeg) v7) 77 ((M 74 4).toNatClampNeg) (Int32.ofInt 45)) 78 ((M 74 4).toNatClampNeg) v1) L Q from ⟨⟨rfl, a_9⟩, ?_⟩)
      refine wp_seg (pc' := 139) [.aload 0] (by decide +kernel) (?_ : Wp E (d + 4) 157 139 [.ref 74, .int v1, .int v2, .int v3, .int v4, .int v5, .int v6, .int v7, .null] [.ref 74] (mput (mput (mput (mput M 75 ((M 74 4).toNatClampNeg) v6) 76 ((M 74 4).toNatClampNeg) v7) 77 ((M 74 4).toNatClampNeg) (Int32.ofInt 45)) 78 ((M 74 4).toNatClampNeg) v1) L Q)
      refine wp_callV 156 74 [] (i := 313) (by decide +kernel) (by decide +kernel) (by decide +kernel) (by decide +kernel) rfl rfl rfl (rest := []) rfl rfl ?_
      refine t_X10_sumOf hP (fun v_12 M_10 L_11 hP => ?_)
      show Wp E (d + 4) 157 142 [.ref 74, .int v1, .int v2, .int v3, .int v4, .int v5, .int v6, .int v7, .null] [.int v_12] M_10 L_11 Q
      refine wp_seg (pc' := 145) [.istore 8, .iload 3] (by decide +kernel) (?_ : Wp E (d + 4) 157 145 [.ref 74, .int v1, .int v2, .int v3, .int v4, .int v5, .int v6, .int v7, .int v_12] [.int v3] M_10 L_11 Q)
      refine wp_iflt (off := 10) 155 (by decide +kernel) (by decide) (fun c_13 => ?_) (fun c_13 => ?_)
      · have hP := hP.1 c_13
        refine wp_seg (pc' := 88) [.iconst 10, .iload 6, .imul, .iload 7, .iadd, .istore 3, .iload 8, .istore 4, .iinc 7 1, .goto 0] (by decide +kernel) (?_ : Wp E (d + 4) 157 88 [.ref 74, .int v1, .int v2, .int (((Int32.ofInt 10) * v6) + v7), .int v_12, .int v5, .int v6, .int (v7 + Int32.ofInt 1), .int v_12] [] M_10 L_11 Q)
        refine wp_drop (lo := [.ref 74, .int v1, .int v2, .int (((Int32.ofInt 10) * v6) + v7), .int v_12, .int v5, .int v6, .int (v7 + Int32.ofInt 1), .null]) ⟨Or.inr rfl, Or.inr rfl, Or.inr rfl, Or.inr rfl, Or.inr rfl, Or.inr rfl, Or.inr rfl, Or.inr rfl, Or.inl rfl, trivial⟩ ?_
        exact ih v1 v2 (((Int32.ofInt 10) * v6) + v7) v_12 v5 v6 (v7 + Int32.ofInt 1) M_10 L_11 hP
      · have hP := hP.2 c_13
        refine wp_seg (pc' := 152) [.iload 8, .iload 4] (by decide +kernel) (?_ : Wp E (d + 4) 157 152 [.ref 74, .int v1, .int v2, .int v3, .int v4, .int v5, .int v6, .int v7, .int v_12] [.int v4, .int v_12] M_10 L_11 Q)
        refine wp_icmpge (off := 16) 168 (by decide +kernel) (by decide) (fun c_14 => ?_) (fun c_14 => ?_)
        · have hP := hP.1 c_14
          refine wp_seg (pc' := 88) [.iinc 7 1, .goto 0] (by decide +kernel) (?_ : Wp E (d + 4) 157 88 [.ref 74, .int v1, .int v2, .int v3, .int v4, .int v5, .int v6, .int (v7 + Int32.ofInt 1), .int v_12] [] M_10 L_11 Q)
          refine wp_drop (lo := [.ref 74, .int v1, .int v2, .int v3, .int v4, .int v5, .int v6, .int (v7 + Int32.ofInt 1), .null]) ⟨Or.inr rfl, Or.inr rfl, Or.inr rfl, Or.inr rfl, Or.inr rfl, Or.inr rfl, Or.inr rfl, Or.inr rfl, Or.inl rfl, trivial⟩ ?_
          exact ih v1 v2 v3 v4 v5 v6 (v7 + Int32.ofInt 1) M_10 L_11 hP
        · have hP := hP.2 c_14
          refine wp_seg (pc' := 88) [.iconst 10, .iload 6, .imul, .iload 7, .iadd, .istore 3, .iload 8, .istore 4, .iinc 7 1, .goto 0] (by decide +kernel) (?_ : Wp E (d + 4) 157 88 [.ref 74, .int v1, .int v2, .int (((Int32.ofInt 10) * v6) + v7), .int v_12, .int v5, .int v6, .int (v7 + Int32.ofInt 1), .int v_12] [] M_10 L_11 Q)
          refine wp_drop (lo := [.ref 74, .int v1, .int v2, .int (((Int32.ofInt 10) * v6) + v7), .int v_12, .int v5, .int v6, .int (v7 + Int32.ofInt 1), .null]) ⟨Or.inr rfl, Or.inr rfl, Or.inr rfl, Or.inr rfl, Or.inr rfl, Or.inr rfl, Or.inr rfl, Or.inr rfl, Or.inl rfl, trivial⟩ ?_
          exact ih v1 v2 (((Int32.ofInt 10) * v6) + v7) v_12 v5 v6 (v7 + Int32.ofInt 1) M_10 L_11 hP
def PL_X10_further_75 (K : Int32 → Mem → LMem → Prop)  : Nat → Int32 → Int32 → Int32 → Int32 → Int32 → Int32 → Mem → LMem → Prop
  | 0, _, _, _, _, _, _, _, _ => False
  | n_ + 1, v1, v2, v3, v4, v5, v6, M, L => (((Int32.ofInt 8) ≤ v6 → (vp_in (M 74 4) 13 ∧ ((v2 = 0 → K v3 (mput M 75 ((M 74 4).toNatClampNeg) v5) L) ∧ (¬ (v2 = 0) → K v4 (mput M 75 ((M 74 4).toNatClampNeg) v5) L)))) ∧ (¬ ((Int32.ofInt 8) ≤ v6) → PL_X10_further_88 K (PL_X10_further_75 K n_) 100000 v1 v2 v3 v4 v5 v6 (v6 + (Int32.ofInt 1)) M L))
theorem tl_X10_further_75 {E : VE} {d : Nat} {Q : QQ} {K : Int32 → Mem → LMem → Prop}  (hK : ∀ (v : Int32) (M : Mem) (L : LMem), K v M L → Q (some (.int v)) M L)  : ∀ (n_ : Nat) (v1 : Int32) (v2 : Int32) (v3 : Int32) (v4 : Int32) (v5 : Int32) (v6 : Int32) (M : Mem) (L : LMem), PL_X10_further_75 K n_ v1 v2 v3 v4 v5 v6 M L → Wp E (d + 4) 157 75 [.ref 74, .int v1, .int v2, .int v3, .int v4, .int v5, .int v6, .null, .null] [] M L Q := by
  intro n_
  induction n_ with
  | zero => intro v1 v2 v3 v4 v5 v6 M L hP; exact False.elim hP
  | succ n_ ih =>
    intro v1 v2 v3 v4 v5 v6 M L hP
    unfold PL_X10_further_75 at hP
    refine wp_seg (pc' := 79) [.iload 6, .iconst 8] (by decide +kernel) (?_ : Wp E (d + 4) 157 79 [.ref 74, .int v1, .int v2, .int v3, .int v4, .int v5, .int v6, .null, .null] [.int (Int32.ofInt 8), .int v6] M L Q)
    refine wp_icmpge (off := 101) 180 (by decide +kernel) (by decide) (fun c_5 => ?_) (fun c_5 => ?_)
    · have hP := hP.1 c_5
      obtain ⟨a_6, hP⟩ := hP
      refine wp_seg (pc' := 191) [.aload 0, .getfield 640, .aload 0, .getfield 644, .iload 5, .iastore] (by decide +kernel) (show aok 75 0 (M 74 4) ∧ Wp E (d + 4) 157 191 [.ref 74, .int v1, .int v2, .int v3, .int v4, .int v5, .int v6, .null, .null] [] (mput M 75 ((M 74 4).toNatClampNeg) v5) L Q from ⟨⟨rfl, a_6⟩, ?_⟩)
      refine wp_seg (pc' := 192) [.iload 2] (by decide +kernel) (?_ : Wp E (d + 4) 157 192 [.ref 74, .int v1, .int v2, .int v3, .int v4, .int v5, .int v6, .null, .null] [.int v2] (mput M 75 ((M 74 4).toNatClampNeg) v5) L Q)
      refine wp_ifne (off := 7) 199 (by decide +kernel) (by decide) (fun c_7 => ?_) (fun c_7 => ?_)
      · have hP := hP.2 c_7
        refine wp_seg (pc' := 201) [.iload 4] (by decide +kernel) (?_ : Wp E (d + 4) 157 201 [.ref 74, .int v1, .int v2, .int v3, .int v4, .int v5, .int v6, .null, .null] [.int v4] (mput M 75 ((M 74 4).toNatClampNeg) v5) L Q)
        exact wp_iret (by decide +kernel) rfl (hK _ _ _ hP)
      · have hP := hP.1 c_7
        refine wp_seg (pc' := 201) [.iload 3, .goto 0] (by decide +kernel) (?_ : Wp E (d + 4) 157 201 [.ref 74, .int v1, .int v2, .int v3, .int v4, .int v5, .int v6, .null, .null] [.int v3] (mput M 75 ((M 74 4).toNatClampNeg) v5) L Q)
        exact wp_iret (by decide +kernel) rfl (hK _ _ _ hP)
    · have hP := hP.2 c_5
      refine wp_seg (pc' := 88) [.iload 6, .iconst 1, .iadd, .istore 7] (by decide +kernel) (?_ : Wp E (d + 4) 157 88 [.ref 74, .int v1, .int v2, .int v3, .int v4, .int v5, .int v6, .int (v6 + (Int32.ofInt 1)), .null] [] M L Q)
      exact tl_X10_further_88 hK (fun v1 v2 v3 v4 v5 v6 M L hP => ih v1 v2 v3 v4 v5 v6 M L hP) 100000 v1 v2 v3 v4 v5 v6 (v6 + (Int32.ofInt 1)) M L hP
def P_X10_further (x1 : Int32) (x2 : Int32) (M : Mem) (L : LMem) (K : Int32 → Mem → LMem → Prop) : Prop := (((f_X10_in M x1.toInt64 (Int64.ofNat 1) (Int64.ofNat 9)) = 0 → K (Int32.ofInt (-2)) M L) ∧ (¬ ((f_X10_in M x1.toInt64 (Int64.ofNat 1) (Int64.ofNat 9)) = 0) → (((f_X10_in M x2.toInt64 (Int64.ofNat 0) (Int64.ofNat 2)) = 0 → K (Int32.ofInt (-2)) M L) ∧ (¬ ((f_X10_in M x2.toInt64 (Int64.ofNat 0) (Int64.ofNat 2)) = 0) → ((x2 = (Int32.ofInt 2) → P_X10_sumOf (mput M 74 21 (M 74 4)) L (fun v_17 M_15 L_16 => K v_17 M_15 L_16)) ∧ (¬ (x2 = (Int32.ofInt 2)) → (vp_in (M 74 4) 13 ∧ PL_X10_further_75 K 100000 x1 x2 (Int32.ofInt (-6)) (Int32.ofInt 0) (M 75 ((M 74 4).toNatClampNeg)) (Int32.ofInt 0) (mput (mput M 74 21 (M 74 4)) 74 21 ((M 74 4) + (Int32.ofInt 1))) L)))))))
theorem t_X10_further {E : VE} {d : Nat} {Q : QQ} {K : Int32 → Mem → LMem → Prop} {x1 : Int32} {x2 : Int32} {M : Mem} {L : LMem} (hP : P_X10_further x1 x2 M L K) (hK : ∀ (v : Int32) (M : Mem) (L : LMem), K v M L → Q (some (.int v)) M L) : Wp E (d + 4) 157 0 [.ref 74, .int x1, .int x2, .null, .null, .null, .null, .null, .null] [] M L Q := by
  unfold P_X10_further at hP
  refine wp_seg (pc' := 6) [.iload 1, .i2l, .ldc2_w 1, .ldc2_w 9] (by decide +kernel) (?_ : Wp E (d + 4) 157 6 [.ref 74, .int x1, .int x2, .null, .null, .null, .null, .null, .null] [.long (Int64.ofNat 9), .long (Int64.ofNat 1), .long x1.toInt64] M L Q)
  refine wp_callS 94 [.long x1.toInt64, .long (Int64.ofNat 1), .long (Int64.ofNat 9)] (i := 129) (by decide +kernel) (by decide +kernel) (by decide +kernel) rfl rfl rfl (rest := []) rfl rfl ?_
  refine s_X10_in M x1.toInt64 (Int64.ofNat 1) (Int64.ofNat 9)  ?_
  show Wp E (d + 4) 157 9 [.ref 74, .int x1, .int x2, .null, .null, .null, .null, .null, .null] [.int (f_X10_in M x1.toInt64 (Int64.ofNat 1) (Int64.ofNat 9))] M L Q
  refine wp_ifeq (off := 15) 24 (by decide +kernel) (by decide) (fun c_1 => ?_) (fun c_1 => ?_)
  · have hP := hP.1 c_1
    refine wp_seg (pc' := 26) [.iconst (-2)] (by decide +kernel) (?_ : Wp E (d + 4) 157 26 [.ref 74, .int x1, .int x2, .null, .null, .null, .null, .null, .null] [.int (Int32.ofInt (-2))] M L Q)
    exact wp_iret (by decide +kernel) rfl (hK _ _ _ hP)
  · have hP := hP.2 c_1
    refine wp_seg (pc' := 18) [.iload 2, .i2l, .ldc2_w 0, .ldc2_w 2] (by decide +kernel) (?_ : Wp E (d + 4) 157 18 [.ref 74, .int x1, .int x2, .null, .null, .null, .null, .null, .null] [.long (Int64.ofNat 2), .long (Int64.ofNat 0), .long x2.toInt64] M L Q)
    refine wp_callS 94 [.long x2.toInt64, .long (Int64.ofNat 0), .long (Int64.ofNat 2)] (i := 129) (by decide +kernel) (by decide +kernel) (by decide +kernel) rfl rfl rfl (rest := []) rfl rfl ?_
    refine s_X10_in M x2.toInt64 (Int64.ofNat 0) (Int64.ofNat 2)  ?_
    show Wp E (d + 4) 157 21 [.ref 74, .int x1, .int x2, .null, .null, .null, .null, .null, .null] [.int (f_X10_in M x2.toInt64 (Int64.ofNat 0) (Int64.ofNat 2))] M L Q
    refine wp_ifne (off := 6) 27 (by decide +kernel) (by decide) (fun c_2 => ?_) (fun c_2 => ?_)
    · have hP := hP.2 c_2
      refine wp_seg (pc' := 37) [.aload 0, .aload 0, .getfield 644, .putfield 661, .iload 2, .iconst 2] (by decide +kernel) (?_ : Wp E (d + 4) 157 37 [.ref 74, .int x1, .int x2, .null, .null, .null, .null, .null, .null] [.int (Int32.ofInt 2), .int x2] (mput M 74 21 (M 74 4)) L Q)
      refine wp_icmpne (off := 8) 45 (by decide +kernel) (by decide) (fun c_3 => ?_) (fun c_3 => ?_)
      · have hP := hP.2 c_3
        obtain ⟨a_4, hP⟩ := hP
        refine wp_seg (pc' := 70) [.iconst (-6), .istore 3, .iconst 0, .istore 4, .aload 0, .aload 0, .getfield 644, .iconst 1, .iadd, .putfield 661, .aload 0, .getfield 640, .aload 0, .getfield 644, .iaload] (by decide +kernel) (show aok 75 0 (M 74 4) ∧ Wp E (d + 4) 157 70 [.ref 74, .int x1, .int x2, .int (Int32.ofInt (-6)), .int (Int32.ofInt 0), .null, .null, .null, .null] [.int (M 75 ((M 74 4).toNatClampNeg))] (mput (mput M 74 21 (M 74 4)) 74 21 ((M 74 4) + (Int32.ofInt 1))) L Q from ⟨⟨rfl, a_4⟩, ?_⟩)
        refine wp_seg (pc' := 75) [.istore 5, .iconst 0, .istore 6] (by decide +kernel) (?_ : Wp E (d + 4) 157 75 [.ref 74, .int x1, .int x2, .int (Int32.ofInt (-6)), .int (Int32.ofInt 0), .int (M 75 ((M 74 4).toNatClampNeg)), .int (Int32.ofInt 0), .null, .null] [] (mput (mput M 74 21 (M 74 4)) 74 21 ((M 74 4) + (Int32.ofInt 1))) L Q)
        exact tl_X10_further_75 hK 100000 x1 x2 (Int32.ofInt (-6)) (Int32.ofInt 0) (M 75 ((M 74 4).toNatClampNeg)) (Int32.ofInt 0) (mput (mput M 74 21 (M 74 4)) 74 21 ((M 74 4) + (Int32.ofInt 1))) L hP
      · have hP := hP.1 c_3
        refine wp_seg (pc' := 41) [.aload 0] (by decide +kernel) (?_ : Wp E (d + 4) 157 41 [.ref 74, .int x1, .int x2, .null, .null, .null, .null, .null, .null] [.ref 74] (mput M 74 21 (M 74 4)) L Q)
        refine wp_callV 156 74 [] (i := 313) (by decide +kernel) (by decide +kernel) (by decide +kernel) (by decide +kernel) rfl rfl rfl (rest := []) rfl rfl ?_
        refine t_X10_sumOf hP (fun v_17 M_15 L_16 hP => ?_)
        show Wp E (d + 4) 157 44 [.ref 74, .int x1, .int x2, .null, .null, .null, .null, .null, .null] [.int v_17] M_15 L_16 Q
        exact wp_iret (by decide +kernel) rfl (hK _ _ _ hP)
    · have hP := hP.1 c_2
      refine wp_seg (pc' := 26) [.iconst (-2)] (by decide +kernel) (?_ : Wp E (d + 4) 157 26 [.ref 74, .int x1, .int x2, .null, .null, .null, .null, .null, .null] [.int (Int32.ofInt (-2))] M L Q)
      exact wp_iret (by decide +kernel) rfl (hK _ _ _ hP)

def PL_X10_reaches_19 (K : Int32 → Mem → LMem → Prop)  : Nat → Int32 → Int32 → Int32 → Int32 → Mem → LMem → Prop
  | 0, _, _, _, _, _, _ => False
  | n_ + 1, v1, v2, v3, v4, M, L => (((Int32.ofInt 8) ≤ v4 → K v3 M L) ∧ (¬ ((Int32.ofInt 8) ≤ v4) → ((vp_in v4 8) ∧ (((Int32.ofInt 99) ≤ (f_X10_farOf M v4) → PL_X10_reaches_19 K n_ v1 v2 (v3 ||| (Int32.ofInt 0)) (v4 + Int32.ofInt 1) M L) ∧ (¬ ((Int32.ofInt 99) ≤ (f_X10_farOf M v4)) → PL_X10_reaches_19 K n_ v1 v2 (v3 ||| ((Int32.ofInt 1) <<< (v4 &&& 31))) (v4 + Int32.ofInt 1) M L)))))
theorem tl_X10_reaches_19 {E : VE} {d : Nat} {Q : QQ} {K : Int32 → Mem → LMem → Prop}  (hK : ∀ (v : Int32) (M : Mem) (L : LMem), K v M L → Q (some (.int v)) M L)  : ∀ (n_ : Nat) (v1 : Int32) (v2 : Int32) (v3 : Int32) (v4 : Int32) (M : Mem) (L : LMem), PL_X10_reaches_19 K n_ v1 v2 v3 v4 M L → Wp E (d + 3) 158 19 [.ref 74, .int v1, .int v2, .int v3, .int v4] [] M L Q := by
  intro n_
  induction n_ with
  | zero => intro v1 v2 v3 v4 M L hP; exact False.elim hP
  | succ n_ ih =>
    intro v1 v2 v3 v4 M L hP
    unfold PL_X10_reaches_19 at hP
    refine wp_seg (pc' := 23) [.iload 4, .iconst 8] (by decide +kernel) (?_ : Wp E (d + 3) 158 23 [.ref 74, .int v1, .int v2, .int v3, .int v4] [.int (Int32.ofInt 8), .int v4] M L Q)
    refine wp_icmpge (off := 31) 54 (by decide +kernel) (by decide) (fun c_3 => ?_) (fun c_3 => ?_)
    · have hP := hP.1 c_3
      refine wp_seg (pc' := 55) [.iload 3] (by decide +kernel) (?_ : Wp E (d + 3) 158 55 [.ref 74, .int v1, .int v2, .int v3, .int v4] [.int v3] M L Q)
      exact wp_iret (by decide +kernel) rfl (hK _ _ _ hP)
    · have hP := hP.2 c_3
      refine wp_seg (pc' := 30) [.iload 3, .aload 0, .iload 4] (by decide +kernel) (?_ : Wp E (d + 3) 158 30 [.ref 74, .int v1, .int v2, .int v3, .int v4] [.int v4, .ref 74, .int v3] M L Q)
      refine wp_callV 154 74 [.int v4] (i := 310) (by decide +kernel) (by decide +kernel) (by decide +kernel) (by decide +kernel) rfl rfl rfl (rest := [.int v3]) rfl rfl ?_
      obtain ⟨a_4, hP⟩ := hP
      refine s_X10_farOf M v4 a_4 ?_
      show Wp E (d + 3) 158 33 [.ref 74, .int v1, .int v2, .int v3, .int v4] [.int (f_X10_farOf M v4), .int v3] M L Q
      refine wp_seg (pc' := 35) [.iconst 99] (by decide +kernel) (?_ : Wp E (d + 3) 158 35 [.ref 74, .int v1, .int v2, .int v3, .int v4] [.int (Int32.ofInt 99), .int (f_X10_farOf M v4), .int v3] M L Q)
      refine wp_icmpge (off := 10) 45 (by decide +kernel) (by decide) (fun c_5 => ?_) (fun c_5 => ?_)
      · have hP := hP.1 c_5
        refine wp_seg (pc' := 19) [.iconst 0, .ior, .istore 3, .iinc 4 1, .goto 0] (by decide +kernel) (?_ : Wp E (d + 3) 158 19 [.ref 74, .int v1, .int v2, .int (v3 ||| (Int32.ofInt 0)), .int (v4 + Int32.ofInt 1)] [] M L Q)
        exact ih v1 v2 (v3 ||| (Int32.ofInt 0)) (v4 + Int32.ofInt 1) M L hP
      · have hP := hP.2 c_5
        refine wp_seg (pc' := 19) [.iconst 1, .iload 4, .ishl, .goto 0, .ior, .istore 3, .iinc 4 1, .goto 0] (by decide +kernel) (?_ : Wp E (d + 3) 158 19 [.ref 74, .int v1, .int v2, .int (v3 ||| ((Int32.ofInt 1) <<< (v4 &&& 31))), .int (v4 + Int32.ofInt 1)] [] M L Q)
        exact ih v1 v2 (v3 ||| ((Int32.ofInt 1) <<< (v4 &&& 31))) (v4 + Int32.ofInt 1) M L hP
def P_X10_reaches (x1 : Int32) (x2 : Int32) (M : Mem) (L : LMem) (K : Int32 → Mem → LMem → Prop) : Prop := P_X10_findOff x1 x2 (mput M 74 21 (M 74 4)) L (fun M_1 L_2 => PL_X10_reaches_19 K 100000 x1 x2 (Int32.ofInt 0) (Int32.ofInt 0) M_1 L_2)
theorem t_X10_reaches {E : VE} {d : Nat} {Q : QQ} {K : Int32 → Mem → LMem → Prop} {x1 : Int32} {x2 : Int32} {M : Mem} {L : LMem} (hP : P_X10_reaches x1 x2 M L K) (hK : ∀ (v : Int32) (M : Mem) (L : LMem), K v M L → Q (some (.int v)) M L) : Wp E (d + 3) 158 0 [.ref 74, .int x1, .int x2, .null, .null] [] M L Q := by
  unfold P_X10_reaches at hP
  refine wp_seg (pc' := 11) [.aload 0, .aload 0, .getfield 644, .putfield 661, .aload 0, .iload 1, .iload 2] (by decide +kernel) (?_ : Wp E (d + 3) 158 11 [.ref 74, .int x1, .int x2, .null, .null] [.int x2, .int x1, .ref 74] (mput M 74 21 (M 74 4)) L Q)
  refine wp_callV 110 74 [.int x1, .int x2] (i := 192) (by decide +kernel) (by decide +kernel) (by decide +kernel) (by decide +kernel) rfl rfl rfl (rest := []) rfl rfl ?_
  refine t_X10_findOff hP (fun M_1 L_2 hP => ?_)
  show Wp E (d + 3) 158 14 [.ref 74, .int x1, .int x2, .null, .null] [] M_1 L_2 Q
  refine wp_seg (pc' := 19) [.iconst 0, .istore 3, .iconst 0, .istore 4] (by decide +kernel) (?_ : Wp E (d + 3) 158 19 [.ref 74, .int x1, .int x2, .int (Int32.ofInt 0), .int (Int32.ofInt 0)] [] M_1 L_2 Q)
  exact tl_X10_reaches_19 hK 100000 x1 x2 (Int32.ofInt 0) (Int32.ofInt 0) M_1 L_2 hP

def PL_X10_bridges_14 (K : Int32 → Mem → LMem → Prop) (C_4 : Int32 → Int32 → Mem → LMem → Prop) : Nat → Int32 → Int32 → Int32 → Mem → LMem → Prop
  | 0, _, _, _, _, _ => False
  | n_ + 1, v1, v2, v3, M, L => (((Int32.ofInt 8) ≤ v3 → C_4 v1 (v2 + Int32.ofInt 1) M L) ∧ (¬ ((Int32.ofInt 8) ≤ v3) → P_X10_reaches v3 (Int32.ofInt 0) M L (fun v_5 M_3 L_4 => P_X10_reaches v3 ((Int32.ofInt 1) <<< (v2 &&& 31)) M_3 L_4 (fun v_8 M_6 L_7 => ((v_5 = v_8 → PL_X10_bridges_14 K C_4 n_ (v1 ||| (Int32.ofInt 0)) v2 (v3 + Int32.ofInt 1) M_6 L_7) ∧ (¬ (v_5 = v_8) → PL_X10_bridges_14 K C_4 n_ (v1 ||| ((Int32.ofInt 1) <<< (v2 &&& 31))) v2 (v3 + Int32.ofInt 1) M_6 L_7))))))
theorem tl_X10_bridges_14 {E : VE} {d : Nat} {Q : QQ} {K : Int32 → Mem → LMem → Prop} {C_4 : Int32 → Int32 → Mem → LMem → Prop} (hK : ∀ (v : Int32) (M : Mem) (L : LMem), K v M L → Q (some (.int v)) M L) (hC_4 : ∀ (v1 : Int32) (v2 : Int32) (M : Mem) (L : LMem), C_4 v1 v2 M L → Wp E (d + 4) 159 4 [.ref 74, .int v1, .int v2, .null] [] M L Q) : ∀ (n_ : Nat) (v1 : Int32) (v2 : Int32) (v3 : Int32) (M : Mem) (L : LMem), PL_X10_bridges_14 K C_4 n_ v1 v2 v3 M L → Wp E (d + 4) 159 14 [.ref 74, .int v1, .int v2, .int v3] [] M L Q := by
  intro n_
  induction n_ with
  | zero => intro v1 v2 v3 M L hP; exact False.elim hP
  | succ n_ ih =>
    intro v1 v2 v3 M L hP
    unfold PL_X10_bridges_14 at hP
    refine wp_seg (pc' := 17) [.iload 3, .iconst 8] (by decide +kernel) (?_ : Wp E (d + 4) 159 17 [.ref 74, .int v1, .int v2, .int v3] [.int (Int32.ofInt 8), .int v3] M L Q)
    refine wp_icmpge (off := 36) 53 (by decide +kernel) (by decide) (fun c_2 => ?_) (fun c_2 => ?_)
    · have hP := hP.1 c_2
      refine wp_seg (pc' := 4) [.iinc 2 1, .goto 0] (by decide +kernel) (?_ : Wp E (d + 4) 159 4 [.ref 74, .int v1, .int (v2 + Int32.ofInt 1), .int v3] [] M L Q)
      refine wp_drop (lo := [.ref 74, .int v1, .int (v2 + Int32.ofInt 1), .null]) ⟨Or.inr rfl, Or.inr rfl, Or.inr rfl, Or.inl rfl, trivial⟩ ?_
      exact hC_4 v1 (v2 + Int32.ofInt 1) M L hP
    · have hP := hP.2 c_2
      refine wp_seg (pc' := 24) [.iload 1, .aload 0, .iload 3, .iconst 0] (by decide +kernel) (?_ : Wp E (d + 4) 159 24 [.ref 74, .int v1, .int v2, .int v3] [.int (Int32.ofInt 0), .int v3, .ref 74, .int v1] M L Q)
      refine wp_callV 158 74 [.int v3, .int (Int32.ofInt 0)] (i := 316) (by decide +kernel) (by decide +kernel) (by decide +kernel) (by decide +kernel) rfl rfl rfl (rest := [.int v1]) rfl rfl ?_
      refine t_X10_reaches hP (fun v_5 M_3 L_4 hP => ?_)
      show Wp E (d + 4) 159 27 [.ref 74, .int v1, .int v2, .int v3] [.int v_5, .int v1] M_3 L_4 Q
      refine wp_seg (pc' := 32) [.aload 0, .iload 3, .iconst 1, .iload 2, .ishl] (by decide +kernel) (?_ : Wp E (d + 4) 159 32 [.ref 74, .int v1, .int v2, .int v3] [.int ((Int32.ofInt 1) <<< (v2 &&& 31)), .int v3, .ref 74, .int v_5, .int v1] M_3 L_4 Q)
      refine wp_callV 158 74 [.int v3, .int ((Int32.ofInt 1) <<< (v2 &&& 31))] (i := 316) (by decide +kernel) (by decide +kernel) (by decide +kernel) (by decide +kernel) rfl rfl rfl (rest := [.int v_5, .int v1]) rfl rfl ?_
      refine t_X10_reaches hP (fun v_8 M_6 L_7 hP => ?_)
      show Wp E (d + 4) 159 35 [.ref 74, .int v1, .int v2, .int v3] [.int v_8, .int v_5, .int v1] M_6 L_7 Q
      refine wp_icmpeq (off := 9) 44 (by decide +kernel) (by decide) (fun c_9 => ?_) (fun c_9 => ?_)
      · have hP := hP.1 c_9
        refine wp_seg (pc' := 14) [.iconst 0, .ior, .istore 1, .iinc 3 1, .goto 0] (by decide +kernel) (?_ : Wp E (d + 4) 159 14 [.ref 74, .int (v1 ||| (Int32.ofInt 0)), .int v2, .int (v3 + Int32.ofInt 1)] [] M_6 L_7 Q)
        exact ih (v1 ||| (Int32.ofInt 0)) v2 (v3 + Int32.ofInt 1) M_6 L_7 hP
      · have hP := hP.2 c_9
        refine wp_seg (pc' := 14) [.iconst 1, .iload 2, .ishl, .goto 0, .ior, .istore 1, .iinc 3 1, .goto 0] (by decide +kernel) (?_ : Wp E (d + 4) 159 14 [.ref 74, .int (v1 ||| ((Int32.ofInt 1) <<< (v2 &&& 31))), .int v2, .int (v3 + Int32.ofInt 1)] [] M_6 L_7 Q)
        exact ih (v1 ||| ((Int32.ofInt 1) <<< (v2 &&& 31))) v2 (v3 + Int32.ofInt 1) M_6 L_7 hP
def PL_X10_bridges_4 (K : Int32 → Mem → LMem → Prop)  : Nat → Int32 → Int32 → Mem → LMem → Prop
  | 0, _, _, _, _ => False
  | n_ + 1, v1, v2, M, L => (((M 74 4) ≤ v2 → K v1 M L) ∧ (¬ ((M 74 4) ≤ v2) → PL_X10_bridges_14 K (PL_X10_bridges_4 K n_) 100000 v1 v2 (Int32.ofInt 0) M L))
theorem tl_X10_bridges_4 {E : VE} {d : Nat} {Q : QQ} {K : Int32 → Mem → LMem → Prop}  (hK : ∀ (v : Int32) (M : Mem) (L : LMem), K v M L → Q (some (.int v)) M L)  : ∀ (n_ : Nat) (v1 : Int32) (v2 : Int32) (M : Mem) (L : LMem), PL_X10_bridges_4 K n_ v1 v2 M L → Wp E (d + 4) 159 4 [.ref 74, .int v1, .int v2, .null] [] M L Q := by
  intro n_
  induction n_ with
  | zero => intro v1 v2 M L hP; exact False.elim hP
  | succ n_ ih =>
    intro v1 v2 M L hP
    unfold PL_X10_bridges_4 at hP
    refine wp_seg (pc' := 9) [.iload 2, .aload 0, .getfield 644] (by decide +kernel) (?_ : Wp E (d + 4) 159 9 [.ref 74, .int v1, .int v2, .null] [.int (M 74 4), .int v2] M L Q)
    refine wp_icmpge (off := 50) 59 (by decide +kernel) (by decide) (fun c_1 => ?_) (fun c_1 => ?_)
    · have hP := hP.1 c_1
      refine wp_seg (pc' := 60) [.iload 1] (by decide +kernel) (?_ : Wp E (d + 4) 159 60 [.ref 74, .int v1, .int v2, .null] [.int v1] M L Q)
      exact wp_iret (by decide +kernel) rfl (hK _ _ _ hP)
    · have hP := hP.2 c_1
      refine wp_seg (pc' := 14) [.iconst 0, .istore 3] (by decide +kernel) (?_ : Wp E (d + 4) 159 14 [.ref 74, .int v1, .int v2, .int (Int32.ofInt 0)] [] M L Q)
      exact tl_X10_bridges_14 hK (fun v1 v2 M L hP => ih v1 v2 M L hP) 100000 v1 v2 (Int32.ofInt 0) M L hP
def P_X10_bridges (M : Mem) (L : LMem) (K : Int32 → Mem → LMem → Prop) : Prop := PL_X10_bridges_4 K 100000 (Int32.ofInt 0) (Int32.ofInt 0) M L
theorem t_X10_bridges {E : VE} {d : Nat} {Q : QQ} {K : Int32 → Mem → LMem → Prop} {M : Mem} {L : LMem} (hP : P_X10_bridges M L K) (hK : ∀ (v : Int32) (M : Mem) (L : LMem), K v M L → Q (some (.int v)) M L) : Wp E (d + 4) 159 0 [.ref 74, .null, .null, .null] [] M L Q := by
  unfold P_X10_bridges at hP
  refine wp_seg (pc' := 4) [.iconst 0, .istore 1, .iconst 0, .istore 2] (by decide +kernel) (?_ : Wp E (d + 4) 159 4 [.ref 74, .int (Int32.ofInt 0), .int (Int32.ofInt 0), .null] [] M L Q)
  exact tl_X10_bridges_4 hK 100000 (Int32.ofInt 0) (Int32.ofInt 0) M L hP

def P_X10_pass (x1 : Int32) (M : Mem) (L : LMem) (K : Int32 → Mem → LMem → Prop) : Prop := (((M 74 49) = 0 → (vp_in (M 74 48) 200 ∧ K (M 108 ((M 74 48).toNatClampNeg)) (mput (mput M 108 ((M 74 48).toNatClampNeg) (M 108 ((M 74 48).toNatClampNeg))) 74 48 ((M 74 48) + (Int32.ofInt 1))) L)) ∧ (¬ ((M 74 49) = 0) → (vp_in (M 74 48) 200 ∧ K x1 (mput (mput M 108 ((M 74 48).toNatClampNeg) x1) 74 48 ((M 74 48) + (Int32.ofInt 1))) L)))
theorem t_X10_pass {E : VE} {d : Nat} {Q : QQ} {K : Int32 → Mem → LMem → Prop} {x1 : Int32} {M : Mem} {L : LMem} (hP : P_X10_pass x1 M L K) (hK : ∀ (v : Int32) (M : Mem) (L : LMem), K v M L → Q (some (.int v)) M L) : Wp E d 160 0 [.ref 74, .int x1, .null] [] M L Q := by
  unfold P_X10_pass at hP
  refine wp_seg (pc' := 4) [.aload 0, .getfield 689] (by decide +kernel) (?_ : Wp E d 160 4 [.ref 74, .int x1, .null] [.int (M 74 49)] M L Q)
  refine wp_ifeq (off := 7) 11 (by decide +kernel) (by decide) (fun c_1 => ?_) (fun c_1 => ?_)
  · have hP := hP.1 c_1
    obtain ⟨a_2, hP⟩ := hP
    refine wp_seg (pc' := 20) [.aload 0, .getfield 686, .aload 0, .getfield 688, .iaload] (by decide +kernel) (show aok 108 0 (M 74 48) ∧ Wp E d 160 20 [.ref 74, .int x1, .null] [.int (M 108 ((M 74 48).toNatClampNeg))] M L Q from ⟨⟨rfl, a_2⟩, ?_⟩)
    refine wp_seg (pc' := 31) [.istore 2, .aload 0, .getfield 686, .aload 0, .getfield 688, .iload 2, .iastore] (by decide +kernel) (show aok 108 0 (M 74 48) ∧ Wp E d 160 31 [.ref 74, .int x1, .int (M 108 ((M 74 48).toNatClampNeg))] [] (mput M 108 ((M 74 48).toNatClampNeg) (M 108 ((M 74 48).toNatClampNeg))) L Q from ⟨⟨rfl, a_2⟩, ?_⟩)
    refine wp_seg (pc' := 42) [.aload 0, .dup, .getfield 688, .iconst 1, .iadd, .putfield 688, .iload 2] (by decide +kernel) (?_ : Wp E d 160 42 [.ref 74, .int x1, .int (M 108 ((M 74 48).toNatClampNeg))] [.int (M 108 ((M 74 48).toNatClampNeg))] (mput (mput M 108 ((M 74 48).toNatClampNeg) (M 108 ((M 74 48).toNatClampNeg))) 74 48 ((M 74 48) + (Int32.ofInt 1))) L Q)
    exact wp_iret (by decide +kernel) rfl (hK _ _ _ hP)
  · have hP := hP.2 c_1
    obtain ⟨a_3, hP⟩ := hP
    refine wp_seg (pc' := 31) [.iload 1, .goto 0, .istore 2, .aload 0, .getfield 686, .aload 0, .getfield 688, .iload 2, .iastore] (by decide +kernel) (show aok 108 0 (M 74 48) ∧ Wp E d 160 31 [.ref 74, .int x1, .int x1] [] (mput M 108 ((M 74 48).toNatClampNeg) x1) L Q from ⟨⟨rfl, a_3⟩, ?_⟩)
    refine wp_seg (pc' := 42) [.aload 0, .dup, .getfield 688, .iconst 1, .iadd, .putfield 688, .iload 2] (by decide +kernel) (?_ : Wp E d 160 42 [.ref 74, .int x1, .int x1] [.int x1] (mput (mput M 108 ((M 74 48).toNatClampNeg) x1) 74 48 ((M 74 48) + (Int32.ofInt 1))) L Q)
    exact wp_iret (by decide +kernel) rfl (hK _ _ _ hP)

def PL_X10_passAll_182 (K : Mem → LMem → Prop)  : Nat → Int32 → Mem → LMem → Prop
  | 0, _, _, _ => False
  | n_ + 1, v1, M, L => (((Int32.ofInt 5) ≤ v1 → K M L) ∧ (¬ ((Int32.ofInt 5) ≤ v1) → (vp_in v1 5 ∧ P_X10_pass (M 80 v1.toNatClampNeg) M L (fun v_25 M_23 L_24 => P_X10_pass (M_23 81 v1.toNatClampNeg) (mput M_23 80 v1.toNatClampNeg v_25) L_24 (fun v_28 M_26 L_27 => P_X10_pass (M_26 82 v1.toNatClampNeg) (mput M_26 81 v1.toNatClampNeg v_28) L_27 (fun v_31 M_29 L_30 => P_X10_pass (M_29 83 v1.toNatClampNeg) (mput M_29 82 v1.toNatClampNeg v_31) L_30 (fun v_34 M_32 L_33 => PL_X10_passAll_182 K n_ (v1 + Int32.ofInt 1) (mput M_32 83 v1.toNatClampNeg v_34) L_33)))))))
theorem tl_X10_passAll_182 {E : VE} {d : Nat} {Q : QQ} {K : Mem → LMem → Prop}  (hK : ∀ (M : Mem) (L : LMem), K M L → Q none M L)  : ∀ (n_ : Nat) (v1 : Int32) (M : Mem) (L : LMem), PL_X10_passAll_182 K n_ v1 M L → Wp E (d + 1) 161 182 [.ref 74, .int v1] [] M L Q := by
  intro n_
  induction n_ with
  | zero => intro v1 M L hP; exact False.elim hP
  | succ n_ ih =>
    intro v1 M L hP
    unfold PL_X10_passAll_182 at hP
    refine wp_seg (pc' := 184) [.iload 1, .iconst 5] (by decide +kernel) (?_ : Wp E (d + 1) 161 184 [.ref 74, .int v1] [.int (Int32.ofInt 5), .int v1] M L Q)
    refine wp_icmpge (off := 73) 257 (by decide +kernel) (by decide) (fun c_21 => ?_) (fun c_21 => ?_)
    · have hP := hP.1 c_21
      exact wp_vret (by decide +kernel) rfl (hK _ _ hP)
    · have hP := hP.2 c_21
      obtain ⟨a_22, hP⟩ := hP
      refine wp_seg (pc' := 199) [.aload 0, .getfield 648, .iload 1, .aload 0, .aload 0, .getfield 648, .iload 1, .iaload] (by decide +kernel) (show aok 80 0 v1 ∧ Wp E (d + 1) 161 199 [.ref 74, .int v1] [.int (M 80 v1.toNatClampNeg), .ref 74, .int v1, .ref 80] M L Q from ⟨⟨rfl, a_22⟩, ?_⟩)
      refine wp_callV 160 74 [.int (M 80 v1.toNatClampNeg)] (i := 326) (by decide +kernel) (by decide +kernel) (by decide +kernel) (by decide +kernel) rfl rfl rfl (rest := [.int v1, .ref 80]) rfl rfl ?_
      refine t_X10_pass hP (fun v_25 M_23 L_24 hP => ?_)
      show Wp E (d + 1) 161 202 [.ref 74, .int v1] [.int v_25, .int v1, .ref 80] M_23 L_24 Q
      refine wp_seg (pc' := 203) [.iastore] (by decide +kernel) (show aok 80 0 v1 ∧ Wp E (d + 1) 161 203 [.ref 74, .int v1] [] (mput M_23 80 v1.toNatClampNeg v_25) L_24 Q from ⟨⟨rfl, a_22⟩, ?_⟩)
      refine wp_seg (pc' := 215) [.aload 0, .getfield 649, .iload 1, .aload 0, .aload 0, .getfield 649, .iload 1, .iaload] (by decide +kernel) (show aok 81 0 v1 ∧ Wp E (d + 1) 161 215 [.ref 74, .int v1] [.int (M_23 81 v1.toNatClampNeg), .ref 74, .int v1, .ref 81] (mput M_23 80 v1.toNatClampNeg v_25) L_24 Q from ⟨⟨rfl, a_22⟩, ?_⟩)
      refine wp_callV 160 74 [.int (M_23 81 v1.toNatClampNeg)] (i := 326) (by decide +kernel) (by decide +kernel) (by decide +kernel) (by decide +kernel) rfl rfl rfl (rest := [.int v1, .ref 81]) rfl rfl ?_
      refine t_X10_pass hP (fun v_28 M_26 L_27 hP => ?_)
      show Wp E (d + 1) 161 218 [.ref 74, .int v1] [.int v_28, .int v1, .ref 81] M_26 L_27 Q
      refine wp_seg (pc' := 219) [.iastore] (by decide +kernel) (show aok 81 0 v1 ∧ Wp E (d + 1) 161 219 [.ref 74, .int v1] [] (mput M_26 81 v1.toNatClampNeg v_28) L_27 Q from ⟨⟨rfl, a_22⟩, ?_⟩)
      refine wp_seg (pc' := 231) [.aload 0, .getfield 650, .iload 1, .aload 0, .aload 0, .getfield 650, .iload 1, .iaload] (by decide +kernel) (show aok 82 0 v1 ∧ Wp E (d + 1) 161 231 [.ref 74, .int v1] [.int (M_26 82 v1.toNatClampNeg), .ref 74, .int v1, .ref 82] (mput M_26 81 v1.toNatClampNeg v_28) L_27 Q from ⟨⟨rfl, a_22⟩, ?_⟩)
      refine wp_callV 160 74 [.int (M_26 82 v1.toNatClampNeg)] (i := 326) (by decide +kernel) (by decide +kernel) (by decide +kernel) (by decide +kernel) rfl rfl rfl (rest := [.int v1, .ref 82]) rfl rfl ?_
      refine t_X10_pass hP (fun v_31 M_29 L_30 hP => ?_)
      show Wp E (d + 1) 161 234 [.ref 74, .int v1] [.int v_31, .int v1, .ref 82] M_29 L_30 Q
      refine wp_seg (pc' := 235) [.iastore] (by decide +kernel) (show aok 82 0 v1 ∧ Wp E (d + 1) 161 235 [.ref 74, .int v1] [] (mput M_29 82 v1.toNatClampNeg v_31) L_30 Q from ⟨⟨rfl, a_22⟩, ?_⟩)
      refine wp_seg (pc' := 247) [.aload 0, .getfield 651, .iload 1, .aload 0, .aload 0, .getfield 651, .iload 1, .iaload] (by decide +kernel) (show aok 83 0 v1 ∧ Wp E (d + 1) 161 247 [.ref 74, .int v1] [.int (M_29 83 v1.toNatClampNeg), .ref 74, .int v1, .ref 83] (mput M_29 82 v1.toNatClampNeg v_31) L_30 Q from ⟨⟨rfl, a_22⟩, ?_⟩)
      refine wp_callV 160 74 [.int (M_29 83 v1.toNatClampNeg)] (i := 326) (by decide +kernel) (by decide +kernel) (by decide +kernel) (by decide +kernel) rfl rfl rfl (rest := [.int v1, .ref 83]) rfl rfl ?_
      refine t_X10_pass hP (fun v_34 M_32 L_33 hP => ?_)
      show Wp E (d + 1) 161 250 [.ref 74, .int v1] [.int v_34, .int v1, .ref 83] M_32 L_33 Q
      refine wp_seg (pc' := 251) [.iastore] (by decide +kernel) (show aok 83 0 v1 ∧ Wp E (d + 1) 161 251 [.ref 74, .int v1] [] (mput M_32 83 v1.toNatClampNeg v_34) L_33 Q from ⟨⟨rfl, a_22⟩, ?_⟩)
      refine wp_seg (pc' := 182) [.iinc 1 1, .goto 0] (by decide +kernel) (?_ : Wp E (d + 1) 161 182 [.ref 74, .int (v1 + Int32.ofInt 1)] [] (mput M_32 83 v1.toNatClampNeg v_34) L_33 Q)
      exact ih (v1 + Int32.ofInt 1) (mput M_32 83 v1.toNatClampNeg v_34) L_33 hP
def PL_X10_passAll_152 (K : Mem → LMem → Prop)  : Nat → Int32 → Mem → LMem → Prop
  | 0, _, _, _ => False
  | n_ + 1, v1, M, L => (((Int32.ofInt 8) ≤ v1 → PL_X10_passAll_182 K 100000 (Int32.ofInt 0) M L) ∧ (¬ ((Int32.ofInt 8) ≤ v1) → (vp_in v1 8 ∧ P_X10_pass (M 79 v1.toNatClampNeg) M L (fun v_38 M_36 L_37 => PL_X10_passAll_152 K n_ (v1 + Int32.ofInt 1) (mput M_36 79 v1.toNatClampNeg v_38) L_37))))
theorem tl_X10_passAll_152 {E : VE} {d : Nat} {Q : QQ} {K : Mem → LMem → Prop}  (hK : ∀ (M : Mem) (L : LMem), K M L → Q none M L)  : ∀ (n_ : Nat) (v1 : Int32) (M : Mem) (L : LMem), PL_X10_passAll_152 K n_ v1 M L → Wp E (d + 1) 161 152 [.ref 74, .int v1] [] M L Q := by
  intro n_
  induction n_ with
  | zero => intro v1 M L hP; exact False.elim hP
  | succ n_ ih =>
    intro v1 M L hP
    unfold PL_X10_passAll_152 at hP
    refine wp_seg (pc' := 155) [.iload 1, .iconst 8] (by decide +kernel) (?_ : Wp E (d + 1) 161 155 [.ref 74, .int v1] [.int (Int32.ofInt 8), .int v1] M L Q)
    refine wp_icmpge (off := 25) 180 (by decide +kernel) (by decide) (fun c_20 => ?_) (fun c_20 => ?_)
    · have hP := hP.1 c_20
      refine wp_seg (pc' := 182) [.iconst 0, .istore 1] (by decide +kernel) (?_ : Wp E (d + 1) 161 182 [.ref 74, .int (Int32.ofInt 0)] [] M L Q)
      exact tl_X10_passAll_182 hK 100000 (Int32.ofInt 0) M L hP
    · have hP := hP.2 c_20
      obtain ⟨a_35, hP⟩ := hP
      refine wp_seg (pc' := 170) [.aload 0, .getfield 647, .iload 1, .aload 0, .aload 0, .getfield 647, .iload 1, .iaload] (by decide +kernel) (show aok 79 0 v1 ∧ Wp E (d + 1) 161 170 [.ref 74, .int v1] [.int (M 79 v1.toNatClampNeg), .ref 74, .int v1, .ref 79] M L Q from ⟨⟨rfl, a_35⟩, ?_⟩)
      refine wp_callV 160 74 [.int (M 79 v1.toNatClampNeg)] (i := 326) (by decide +kernel) (by decide +kernel) (by decide +kernel) (by decide +kernel) rfl rfl rfl (rest := [.int v1, .ref 79]) rfl rfl ?_
      refine t_X10_pass hP (fun v_38 M_36 L_37 hP => ?_)
      show Wp E (d + 1) 161 173 [.ref 74, .int v1] [.int v_38, .int v1, .ref 79] M_36 L_37 Q
      refine wp_seg (pc' := 174) [.iastore] (by decide +kernel) (show aok 79 0 v1 ∧ Wp E (d + 1) 161 174 [.ref 74, .int v1] [] (mput M_36 79 v1.toNatClampNeg v_38) L_37 Q from ⟨⟨rfl, a_35⟩, ?_⟩)
      refine wp_seg (pc' := 152) [.iinc 1 1, .goto 0] (by decide +kernel) (?_ : Wp E (d + 1) 161 152 [.ref 74, .int (v1 + Int32.ofInt 1)] [] (mput M_36 79 v1.toNatClampNeg v_38) L_37 Q)
      exact ih (v1 + Int32.ofInt 1) (mput M_36 79 v1.toNatClampNeg v_38) L_37 hP
def PL_X10_passAll_74 (K : Mem → LMem → Prop)  : Nat → Int32 → Mem → LMem → Prop
  | 0, _, _, _ => False
  | n_ + 1, v1, M, L => (((Int32.ofInt 12) ≤ v1 → PL_X10_passAll_152 K 100000 (Int32.ofInt 0) M L) ∧ (¬ ((Int32.ofInt 12) ≤ v1) → (vp_in v1 13 ∧ P_X10_pass (M 75 v1.toNatClampNeg) M L (fun v_42 M_40 L_41 => P_X10_pass (M_40 76 v1.toNatClampNeg) (mput M_40 75 v1.toNatClampNeg v_42) L_41 (fun v_45 M_43 L_44 => P_X10_pass (M_43 77 v1.toNatClampNeg) (mput M_43 76 v1.toNatClampNeg v_45) L_44 (fun v_48 M_46 L_47 => P_X10_pass (M_46 78 v1.toNatClampNeg) (mput M_46 77 v1.toNatClampNeg v_48) L_47 (fun v_51 M_49 L_50 => PL_X10_passAll_74 K n_ (v1 + Int32.ofInt 1) (mput M_49 78 v1.toNatClampNeg v_51) L_50)))))))
theorem tl_X10_passAll_74 {E : VE} {d : Nat} {Q : QQ} {K : Mem → LMem → Prop}  (hK : ∀ (M : Mem) (L : LMem), K M L → Q none M L)  : ∀ (n_ : Nat) (v1 : Int32) (M : Mem) (L : LMem), PL_X10_passAll_74 K n_ v1 M L → Wp E (d + 1) 161 74 [.ref 74, .int v1] [] M L Q := by
  intro n_
  induction n_ with
  | zero => intro v1 M L hP; exact False.elim hP
  | succ n_ ih =>
    intro v1 M L hP
    unfold PL_X10_passAll_74 at hP
    refine wp_seg (pc' := 77) [.iload 1, .iconst 12] (by decide +kernel) (?_ : Wp E (d + 1) 161 77 [.ref 74, .int v1] [.int (Int32.ofInt 12), .int v1] M L Q)
    refine wp_icmpge (off := 73) 150 (by decide +kernel) (by decide) (fun c_19 => ?_) (fun c_19 => ?_)
    · have hP := hP.1 c_19
      refine wp_seg (pc' := 152) [.iconst 0, .istore 1] (by decide +kernel) (?_ : Wp E (d + 1) 161 152 [.ref 74, .int (Int32.ofInt 0)] [] M L Q)
      exact tl_X10_passAll_152 hK 100000 (Int32.ofInt 0) M L hP
    · have hP := hP.2 c_19
      obtain ⟨a_39, hP⟩ := hP
      refine wp_seg (pc' := 92) [.aload 0, .getfield 640, .iload 1, .aload 0, .aload 0, .getfield 640, .iload 1, .iaload] (by decide +kernel) (show aok 75 0 v1 ∧ Wp E (d + 1) 161 92 [.ref 74, .int v1] [.int (M 75 v1.toNatClampNeg), .ref 74, .int v1, .ref 75] M L Q from ⟨⟨rfl, a_39⟩, ?_⟩)
      refine wp_callV 160 74 [.int (M 75 v1.toNatClampNeg)] (i := 326) (by decide +kernel) (by decide +kernel) (by decide +kernel) (by decide +kernel) rfl rfl rfl (rest := [.int v1, .ref 75]) rfl rfl ?_
      refine t_X10_pass hP (fun v_42 M_40 L_41 hP => ?_)
      show Wp E (d + 1) 161 95 [.ref 74, .int v1] [.int v_42, .int v1, .ref 75] M_40 L_41 Q
      refine wp_seg (pc' := 96) [.iastore] (by decide +kernel) (show aok 75 0 v1 ∧ Wp E (d + 1) 161 96 [.ref 74, .int v1] [] (mput M_40 75 v1.toNatClampNeg v_42) L_41 Q from ⟨⟨rfl, a_39⟩, ?_⟩)
      refine wp_seg (pc' := 108) [.aload 0, .getfield 641, .iload 1, .aload 0, .aload 0, .getfield 641, .iload 1, .iaload] (by decide +kernel) (show aok 76 0 v1 ∧ Wp E (d + 1) 161 108 [.ref 74, .int v1] [.int (M_40 76 v1.toNatClampNeg), .ref 74, .int v1, .ref 76] (mput M_40 75 v1.toNatClampNeg v_42) L_41 Q from ⟨⟨rfl, a_39⟩, ?_⟩)
      refine wp_callV 160 74 [.int (M_40 76 v1.toNatClampNeg)] (i := 326) (by decide +kernel) (by decide +kernel) (by decide +kernel) (by decide +kernel) rfl rfl rfl (rest := [.int v1, .ref 76]) rfl rfl ?_
      refine t_X10_pass hP (fun v_45 M_43 L_44 hP => ?_)
      show Wp E (d + 1) 161 111 [.ref 74, .int v1] [.int v_45, .int v1, .ref 76] M_43 L_44 Q
      refine wp_seg (pc' := 112) [.iastore] (by decide +kernel) (show aok 76 0 v1 ∧ Wp E (d + 1) 161 112 [.ref 74, .int v1] [] (mput M_43 76 v1.toNatClampNeg v_45) L_44 Q from ⟨⟨rfl, a_39⟩, ?_⟩)
      refine wp_seg (pc' := 124) [.aload 0, .getfield 642, .iload 1, .aload 0, .aload 0, .getfield 642, .iload 1, .iaload] (by decide +kernel) (show aok 77 0 v1 ∧ Wp E (d + 1) 161 124 [.ref 74, .int v1] [.int (M_43 77 v1.toNatClampNeg), .ref 74, .int v1, .ref 77] (mput M_43 76 v1.toNatClampNeg v_45) L_44 Q from ⟨⟨rfl, a_39⟩, ?_⟩)
      refine wp_callV 160 74 [.int (M_43 77 v1.toNatClampNeg)] (i := 326) (by decide +kernel) (by decide +kernel) (by decide +kernel) (by decide +kernel) rfl rfl rfl (rest := [.int v1, .ref 77]) rfl rfl ?_
      refine t_X10_pass hP (fun v_48 M_46 L_47 hP => ?_)
      show Wp E (d + 1) 161 127 [.ref 74, .int v1] [.int v_48, .int v1, .ref 77] M_46 L_47 Q
      refine wp_seg (pc' := 128) [.iastore] (by decide +kernel) (show aok 77 0 v1 ∧ Wp E (d + 1) 161 128 [.ref 74, .int v1] [] (mput M_46 77 v1.toNatClampNeg v_48) L_47 Q from ⟨⟨rfl, a_39⟩, ?_⟩)
      refine wp_seg (pc' := 140) [.aload 0, .getfield 643, .iload 1, .aload 0, .aload 0, .getfield 643, .iload 1, .iaload] (by decide +kernel) (show aok 78 0 v1 ∧ Wp E (d + 1) 161 140 [.ref 74, .int v1] [.int (M_46 78 v1.toNatClampNeg), .ref 74, .int v1, .ref 78] (mput M_46 77 v1.toNatClampNeg v_48) L_47 Q from ⟨⟨rfl, a_39⟩, ?_⟩)
      refine wp_callV 160 74 [.int (M_46 78 v1.toNatClampNeg)] (i := 326) (by decide +kernel) (by decide +kernel) (by decide +kernel) (by decide +kernel) rfl rfl rfl (rest := [.int v1, .ref 78]) rfl rfl ?_
      refine t_X10_pass hP (fun v_51 M_49 L_50 hP => ?_)
      show Wp E (d + 1) 161 143 [.ref 74, .int v1] [.int v_51, .int v1, .ref 78] M_49 L_50 Q
      refine wp_seg (pc' := 144) [.iastore] (by decide +kernel) (show aok 78 0 v1 ∧ Wp E (d + 1) 161 144 [.ref 74, .int v1] [] (mput M_49 78 v1.toNatClampNeg v_51) L_50 Q from ⟨⟨rfl, a_39⟩, ?_⟩)
      refine wp_seg (pc' := 74) [.iinc 1 1, .goto 0] (by decide +kernel) (?_ : Wp E (d + 1) 161 74 [.ref 74, .int (v1 + Int32.ofInt 1)] [] (mput M_49 78 v1.toNatClampNeg v_51) L_50 Q)
      exact ih (v1 + Int32.ofInt 1) (mput M_49 78 v1.toNatClampNeg v_51) L_50 hP
def P_X10_passAll (M : Mem) (L : LMem) (K : Mem → LMem → Prop) : Prop := P_X10_pass (M 74 4) M L (fun v_3 M_1 L_2 => P_X10_pass (M_1 74 5) (mput M_1 74 4 v_3) L_2 (fun v_6 M_4 L_5 => P_X10_pass (M_4 74 6) (mput M_4 74 5 v_6) L_5 (fun v_9 M_7 L_8 => P_X10_pass (M_7 74 12) (mput M_7 74 6 v_9) L_8 (fun v_12 M_10 L_11 => P_X10_pass (M_10 74 13) (mput M_10 74 12 v_12) L_11 (fun v_15 M_13 L_14 => P_X10_pass (M_13 74 14) (mput M_13 74 13 v_15) L_14 (fun v_18 M_16 L_17 => PL_X10_passAll_74 K 100000 (Int32.ofInt 0) (mput M_16 74 14 v_18) L_17))))))
theorem t_X10_passAll {E : VE} {d : Nat} {Q : QQ} {K : Mem → LMem → Prop} {M : Mem} {L : LMem} (hP : P_X10_passAll M L K) (hK : ∀ (M : Mem) (L : LMem), K M L → Q none M L) : Wp E (d + 1) 161 0 [.ref 74, .null] [] M L Q := by
  unfold P_X10_passAll at hP
  refine wp_seg (pc' := 6) [.aload 0, .aload 0, .aload 0, .getfield 644] (by decide +kernel) (?_ : Wp E (d + 1) 161 6 [.ref 74, .null] [.int (M 74 4), .ref 74, .ref 74] M L Q)
  refine wp_callV 160 74 [.int (M 74 4)] (i := 326) (by decide +kernel) (by decide +kernel) (by decide +kernel) (by decide +kernel) rfl rfl rfl (rest := [.ref 74]) rfl rfl ?_
  refine t_X10_pass hP (fun v_3 M_1 L_2 hP => ?_)
  show Wp E (d + 1) 161 9 [.ref 74, .null] [.int v_3, .ref 74] M_1 L_2 Q
  refine wp_seg (pc' := 18) [.putfield 644, .aload 0, .aload 0, .aload 0, .getfield 645] (by decide +kernel) (?_ : Wp E (d + 1) 161 18 [.ref 74, .null] [.int (M_1 74 5), .ref 74, .ref 74] (mput M_1 74 4 v_3) L_2 Q)
  refine wp_callV 160 74 [.int (M_1 74 5)] (i := 326) (by decide +kernel) (by decide +kernel) (by decide +kernel) (by decide +kernel) rfl rfl rfl (rest := [.ref 74]) rfl rfl ?_
  refine t_X10_pass hP (fun v_6 M_4 L_5 hP => ?_)
  show Wp E (d + 1) 161 21 [.ref 74, .null] [.int v_6, .ref 74] M_4 L_5 Q
  refine wp_seg (pc' := 30) [.putfield 645, .aload 0, .aload 0, .aload 0, .getfield 646] (by decide +kernel) (?_ : Wp E (d + 1) 161 30 [.ref 74, .null] [.int (M_4 74 6), .ref 74, .ref 74] (mput M_4 74 5 v_6) L_5 Q)
  refine wp_callV 160 74 [.int (M_4 74 6)] (i := 326) (by decide +kernel) (by decide +kernel) (by decide +kernel) (by decide +kernel) rfl rfl rfl (rest := [.ref 74]) rfl rfl ?_
  refine t_X10_pass hP (fun v_9 M_7 L_8 hP => ?_)
  show Wp E (d + 1) 161 33 [.ref 74, .null] [.int v_9, .ref 74] M_7 L_8 Q
  refine wp_seg (pc' := 42) [.putfield 646, .aload 0, .aload 0, .aload 0, .getfield 652] (by decide +kernel) (?_ : Wp E (d + 1) 161 42 [.ref 74, .null] [.int (M_7 74 12), .ref 74, .ref 74] (mput M_7 74 6 v_9) L_8 Q)
  refine wp_callV 160 74 [.int (M_7 74 12)] (i := 326) (by decide +kernel) (by decide +kernel) (by decide +kernel) (by decide +kernel) rfl rfl rfl (rest := [.ref 74]) rfl rfl ?_
  refine t_X10_pass hP (fun v_12 M_10 L_11 hP => ?_)
  show Wp E (d + 1) 161 45 [.ref 74, .null] [.int v_12, .ref 74] M_10 L_11 Q
  refine wp_seg (pc' := 54) [.putfield 652, .aload 0, .aload 0, .aload 0, .getfield 653] (by decide +kernel) (?_ : Wp E (d + 1) 161 54 [.ref 74, .null] [.int (M_10 74 13), .ref 74, .ref 74] (mput M_10 74 12 v_12) L_11 Q)
  refine wp_callV 160 74 [.int (M_10 74 13)] (i := 326) (by decide +kernel) (by decide +kernel) (by decide +kernel) (by decide +kernel) rfl rfl rfl (rest := [.ref 74]) rfl rfl ?_
  refine t_X10_pass hP (fun v_15 M_13 L_14 hP => ?_)
  show Wp E (d + 1) 161 57 [.ref 74, .null] [.int v_15, .ref 74] M_13 L_14 Q
  refine wp_seg (pc' := 66) [.putfield 653, .aload 0, .aload 0, .aload 0, .getfield 654] (by decide +kernel) (?_ : Wp E (d + 1) 161 66 [.ref 74, .null] [.int (M_13 74 14), .ref 74, .ref 74] (mput M_13 74 13 v_15) L_14 Q)
  refine wp_callV 160 74 [.int (M_13 74 14)] (i := 326) (by decide +kernel) (by decide +kernel) (by decide +kernel) (by decide +kernel) rfl rfl rfl (rest := [.ref 74]) rfl rfl ?_
  refine t_X10_pass hP (fun v_18 M_16 L_17 hP => ?_)
  show Wp E (d + 1) 161 69 [.ref 74, .null] [.int v_18, .ref 74] M_16 L_17 Q
  refine wp_seg (pc' := 74) [.putfield 654, .iconst 0, .istore 1] (by decide +kernel) (?_ : Wp E (d + 1) 161 74 [.ref 74, .int (Int32.ofInt 0)] [] (mput M_16 74 14 v_18) L_17 Q)
  exact tl_X10_passAll_74 hK 100000 (Int32.ofInt 0) (mput M_16 74 14 v_18) L_17 hP

def P_X10_image (x1 : Int32) (M : Mem) (L : LMem) (K : Int32 → Mem → LMem → Prop) : Prop := (((f_X10_in M x1.toInt64 (Int64.ofNat 0) (Int64.ofNat 1)) = 0 → K (Int32.ofInt (-2)) M L) ∧ (¬ ((f_X10_in M x1.toInt64 (Int64.ofNat 0) (Int64.ofNat 1)) = 0) → P_X10_passAll (mput (mput M 74 48 ((Int32.ofInt 100) * x1)) 74 49 (Int32.ofInt 1)) L (fun M_2 L_3 => (vp_in x1 2 ∧ K (Int32.ofInt 1) (mput M_2 109 x1.toNatClampNeg (vp_nar .boolean (Int32.ofInt 1))) L_3))))
theorem t_X10_image {E : VE} {d : Nat} {Q : QQ} {K : Int32 → Mem → LMem → Prop} {x1 : Int32} {M : Mem} {L : LMem} (hP : P_X10_image x1 M L K) (hK : ∀ (v : Int32) (M : Mem) (L : LMem), K v M L → Q (some (.int v)) M L) : Wp E (d + 2) 162 0 [.ref 74, .int x1] [] M L Q := by
  unfold P_X10_image at hP
  refine wp_seg (pc' := 4) [.iload 1, .i2l, .ldc2_w 0, .ldc2_w 1] (by decide +kernel) (?_ : Wp E (d + 2) 162 4 [.ref 74, .int x1] [.long (Int64.ofNat 1), .long (Int64.ofNat 0), .long x1.toInt64] M L Q)
  refine wp_callS 94 [.long x1.toInt64, .long (Int64.ofNat 0), .long (Int64.ofNat 1)] (i := 129) (by decide +kernel) (by decide +kernel) (by decide +kernel) rfl rfl rfl (rest := []) rfl rfl ?_
  refine s_X10_in M x1.toInt64 (Int64.ofNat 0) (Int64.ofNat 1)  ?_
  show Wp E (d + 2) 162 7 [.ref 74, .int x1] [.int (f_X10_in M x1.toInt64 (Int64.ofNat 0) (Int64.ofNat 1))] M L Q
  refine wp_ifne (off := 6) 13 (by decide +kernel) (by decide) (fun c_1 => ?_) (fun c_1 => ?_)
  · have hP := hP.2 c_1
    refine wp_seg (pc' := 26) [.aload 0, .iconst 100, .iload 1, .imul, .putfield 688, .aload 0, .iconst 1, .putfield 689] (by decide +kernel) (show (Int32.ofInt 1 = 0 ∨ Int32.ofInt 1 = 1) ∧ Wp E (d + 2) 162 26 [.ref 74, .int x1] [] (mput (mput M 74 48 ((Int32.ofInt 100) * x1)) 74 49 (Int32.ofInt 1)) L Q from ⟨(by decide), ?_⟩)
    refine wp_seg (pc' := 27) [.aload 0] (by decide +kernel) (?_ : Wp E (d + 2) 162 27 [.ref 74, .int x1] [.ref 74] (mput (mput M 74 48 ((Int32.ofInt 100) * x1)) 74 49 (Int32.ofInt 1)) L Q)
    refine wp_callV 161 74 [] (i := 329) (by decide +kernel) (by decide +kernel) (by decide +kernel) (by decide +kernel) rfl rfl rfl (rest := []) rfl rfl ?_
    refine t_X10_passAll hP (fun M_2 L_3 hP => ?_)
    show Wp E (d + 2) 162 30 [.ref 74, .int x1] [] M_2 L_3 Q
    obtain ⟨a_4, hP⟩ := hP
    refine wp_seg (pc' := 37) [.aload 0, .getfield 687, .iload 1, .iconst 1, .bastore] (by decide +kernel) (Or.inl (show aok 109 1 x1 ∧ Wp E (d + 2) 162 37 [.ref 74, .int x1] [] (mput M_2 109 x1.toNatClampNeg (vp_nar .boolean (Int32.ofInt 1))) L_3 Q from ⟨⟨rfl, a_4⟩, ?_⟩))
    refine wp_seg (pc' := 38) [.iconst 1] (by decide +kernel) (?_ : Wp E (d + 2) 162 38 [.ref 74, .int x1] [.int (Int32.ofInt 1)] (mput M_2 109 x1.toNatClampNeg (vp_nar .boolean (Int32.ofInt 1))) L_3 Q)
    exact wp_iret (by decide +kernel) rfl (hK _ _ _ hP)
  · have hP := hP.1 c_1
    refine wp_seg (pc' := 12) [.iconst (-2)] (by decide +kernel) (?_ : Wp E (d + 2) 162 12 [.ref 74, .int x1] [.int (Int32.ofInt (-2))] M L Q)
    exact wp_iret (by decide +kernel) rfl (hK _ _ _ hP)

def P_X10_restore (x1 : Int32) (M : Mem) (L : LMem) (K : Int32 → Mem → LMem → Prop) : Prop := (((f_X10_in M x1.toInt64 (Int64.ofNat 0) (Int64.ofNat 1)) = 0 → K (Int32.ofInt (-2)) M L) ∧ (¬ ((f_X10_in M x1.toInt64 (Int64.ofNat 0) (Int64.ofNat 1)) = 0) → (vp_in x1 2 ∧ (((M 109 x1.toNatClampNeg) = 0 → K (Int32.ofInt (-3)) M L) ∧ (¬ ((M 109 x1.toNatClampNeg) = 0) → P_X10_passAll (mput (mput M 74 48 ((Int32.ofInt 100) * x1)) 74 49 (Int32.ofInt 0)) L (fun M_4 L_5 => K (Int32.ofInt 1) M_4 L_5))))))
theorem t_X10_restore {E : VE} {d : Nat} {Q : QQ} {K : Int32 → Mem → LMem → Prop} {x1 : Int32} {M : Mem} {L : LMem} (hP : P_X10_restore x1 M L K) (hK : ∀ (v : Int32) (M : Mem) (L : LMem), K v M L → Q (some (.int v)) M L) : Wp E (d + 2) 163 0 [.ref 74, .int x1] [] M L Q := by
  unfold P_X10_restore at hP
  refine wp_seg (pc' := 4) [.iload 1, .i2l, .ldc2_w 0, .ldc2_w 1] (by decide +kernel) (?_ : Wp E (d + 2) 163 4 [.ref 74, .int x1] [.long (Int64.ofNat 1), .long (Int64.ofNat 0), .long x1.toInt64] M L Q)
  refine wp_callS 94 [.long x1.toInt64, .long (Int64.ofNat 0), .long (Int64.ofNat 1)] (i := 129) (by decide +kernel) (by decide +kernel) (by decide +kernel) rfl rfl rfl (rest := []) rfl rfl ?_
  refine s_X10_in M x1.toInt64 (Int64.ofNat 0) (Int64.ofNat 1)  ?_
  show Wp E (d + 2) 163 7 [.ref 74, .int x1] [.int (f_X10_in M x1.toInt64 (Int64.ofNat 0) (Int64.ofNat 1))] M L Q
  refine wp_ifne (off := 6) 13 (by decide +kernel) (by decide) (fun c_1 => ?_) (fun c_1 => ?_)
  · have hP := hP.2 c_1
    obtain ⟨a_2, hP⟩ := hP
    refine wp_seg (pc' := 19) [.aload 0, .getfield 687, .iload 1, .baload] (by decide +kernel) (show (aok 109 1 x1 ∨ aok 109 3 x1) ∧ Wp E (d + 2) 163 19 [.ref 74, .int x1] [.int (M 109 x1.toNatClampNeg)] M L Q from ⟨Or.inl ⟨rfl, a_2⟩, ?_⟩)
    refine wp_ifne (off := 6) 25 (by decide +kernel) (by decide) (fun c_3 => ?_) (fun c_3 => ?_)
    · have hP := hP.2 c_3
      refine wp_seg (pc' := 38) [.aload 0, .iconst 100, .iload 1, .imul, .putfield 688, .aload 0, .iconst 0, .putfield 689] (by decide +kernel) (show (Int32.ofInt 0 = 0 ∨ Int32.ofInt 0 = 1) ∧ Wp E (d + 2) 163 38 [.ref 74, .int x1] [] (mput (mput M 74 48 ((Int32.ofInt 100) * x1)) 74 49 (Int32.ofInt 0)) L Q from ⟨(by decide), ?_⟩)
      refine wp_seg (pc' := 39) [.aload 0] (by decide +kernel) (?_ : Wp E (d + 2) 163 39 [.ref 74, .int x1] [.ref 74] (mput (mput M 74 48 ((Int32.ofInt 100) * x1)) 74 49 (Int32.ofInt 0)) L Q)
      refine wp_callV 161 74 [] (i := 329) (by decide +kernel) (by decide +kernel) (by decide +kernel) (by decide +kernel) rfl rfl rfl (rest := []) rfl rfl ?_
      refine t_X10_passAll hP (fun M_4 L_5 hP => ?_)
      show Wp E (d + 2) 163 42 [.ref 74, .int x1] [] M_4 L_5 Q
      refine wp_seg (pc' := 43) [.iconst 1] (by decide +kernel) (?_ : Wp E (d + 2) 163 43 [.ref 74, .int x1] [.int (Int32.ofInt 1)] M_4 L_5 Q)
      exact wp_iret (by decide +kernel) rfl (hK _ _ _ hP)
    · have hP := hP.1 c_3
      refine wp_seg (pc' := 24) [.iconst (-3)] (by decide +kernel) (?_ : Wp E (d + 2) 163 24 [.ref 74, .int x1] [.int (Int32.ofInt (-3))] M L Q)
      exact wp_iret (by decide +kernel) rfl (hK _ _ _ hP)
  · have hP := hP.1 c_1
    refine wp_seg (pc' := 12) [.iconst (-2)] (by decide +kernel) (?_ : Wp E (d + 2) 163 12 [.ref 74, .int x1] [.int (Int32.ofInt (-2))] M L Q)
    exact wp_iret (by decide +kernel) rfl (hK _ _ _ hP)

def P_X10_told (x1 : Int32) (M : Mem) (L : LMem) (K : Int32 → Mem → LMem → Prop) : Prop := (((f_X10_in M x1.toInt64 (Int64.ofNat 10) (Int64.ofNat 17)) = 0 → ((x1 = Int32.ofInt 0 → K (M 74 16) M L) ∧ (¬ x1 = Int32.ofInt 0 → ((x1 = Int32.ofInt 1 → K (M 74 4) M L) ∧ (¬ x1 = Int32.ofInt 1 → ((x1 = Int32.ofInt 2 → K (M 74 5) M L) ∧ (¬ x1 = Int32.ofInt 2 → ((x1 = Int32.ofInt 3 → K (M 74 6) M L) ∧ (¬ x1 = Int32.ofInt 3 → ((x1 = Int32.ofInt 4 → K (M 74 12) M L) ∧ (¬ x1 = Int32.ofInt 4 → ((x1 = Int32.ofInt 5 → K (M 74 14) M L) ∧ (¬ x1 = Int32.ofInt 5 → K (Int32.ofInt (-2)) M L))))))))))))) ∧ (¬ ((f_X10_in M x1.toInt64 (Int64.ofNat 10) (Int64.ofNat 17)) = 0) → (vp_in (x1 - (Int32.ofInt 10)) 8 ∧ K (M 79 ((x1 - (Int32.ofInt 10)).toNatClampNeg)) M L)))
theorem t_X10_told {E : VE} {d : Nat} {Q : QQ} {K : Int32 → Mem → LMem → Prop} {x1 : Int32} {M : Mem} {L : LMem} (hP : P_X10_told x1 M L K) (hK : ∀ (v : Int32) (M : Mem) (L : LMem), K v M L → Q (some (.int v)) M L) : Wp E (d + 1) 164 0 [.ref 74, .int x1] [] M L Q := by
  unfold P_X10_told at hP
  refine wp_seg (pc' := 8) [.iload 1, .i2l, .ldc2_w 10, .ldc2_w 17] (by decide +kernel) (?_ : Wp E (d + 1) 164 8 [.ref 74, .int x1] [.long (Int64.ofNat 17), .long (Int64.ofNat 10), .long x1.toInt64] M L Q)
  refine wp_callS 94 [.long x1.toInt64, .long (Int64.ofNat 10), .long (Int64.ofNat 17)] (i := 129) (by decide +kernel) (by decide +kernel) (by decide +kernel) rfl rfl rfl (rest := []) rfl rfl ?_
  refine s_X10_in M x1.toInt64 (Int64.ofNat 10) (Int64.ofNat 17)  ?_
  show Wp E (d + 1) 164 11 [.ref 74, .int x1] [.int (f_X10_in M x1.toInt64 (Int64.ofNat 10) (Int64.ofNat 17))] M L Q
  refine wp_ifeq (off := 13) 24 (by decide +kernel) (by decide) (fun c_1 => ?_) (fun c_1 => ?_)
  · have hP := hP.1 c_1
    refine wp_seg (pc' := 25) [.iload 1] (by decide +kernel) (?_ : Wp E (d + 1) 164 25 [.ref 74, .int x1] [.int x1] M L Q)
    by_cases c_2 : x1 = Int32.ofInt 0
    · have hx_ : x1.toInt = 0 := by rw [c_2]; decide
      refine wp_tabIn (off := 39) 64 (by decide +kernel : decode (am_B 164) 25 = .ok (.tableswitch 69 0 5 #[39, 44, 49, 54, 59, 64], 39)) (by rw [hx_]; decide) (by rw [hx_]; decide) (by rw [hx_]; rfl) (by decide) ?_
      have hP := hP.1 c_2
      refine wp_seg (pc' := 68) [.aload 0, .getfield 656] (by decide +kernel) (?_ : Wp E (d + 1) 164 68 [.ref 74, .int x1] [.int (M 74 16)] M L Q)
      exact wp_iret (by decide +kernel) rfl (hK _ _ _ hP)
    replace hP := hP.2 c_2
    by_cases c_3 : x1 = Int32.ofInt 1
    · have hx_ : x1.toInt = 1 := by rw [c_3]; decide
      refine wp_tabIn (off := 44) 69 (by decide +kernel : decode (am_B 164) 25 = .ok (.tableswitch 69 0 5 #[39, 44, 49, 54, 59, 64], 39)) (by rw [hx_]; decide) (by rw [hx_]; decide) (by rw [hx_]; rfl) (by decide) ?_
      have hP := hP.1 c_3
      refine wp_seg (pc' := 73) [.aload 0, .getfield 644] (by decide +kernel) (?_ : Wp E (d + 1) 164 73 [.ref 74, .int x1] [.int (M 74 4)] M L Q)
      exact wp_iret (by decide +kernel) rfl (hK _ _ _ hP)
    replace hP := hP.2 c_3
    by_cases c_4 : x1 = Int32.ofInt 2
    · have hx_ : x1.toInt = 2 := by rw [c_4]; decide
      refine wp_tabIn (off := 49) 74 (by decide +kernel : decode (am_B 164) 25 = .ok (.tableswitch 69 0 5 #[39, 44, 49, 54, 59, 64], 39)) (by rw [hx_]; decide) (by rw [hx_]; decide) (by rw [hx_]; rfl) (by decide) ?_
      have hP := hP.1 c_4
      refine wp_seg (pc' := 78) [.aload 0, .getfield 645] (by decide +kernel) (?_ : Wp E (d + 1) 164 78 [.ref 74, .int x1] [.int (M 74 5)] M L Q)
      exact wp_iret (by decide +kernel) rfl (hK _ _ _ hP)
    replace hP := hP.2 c_4
    by_cases c_5 : x1 = Int32.ofInt 3
    · have hx_ : x1.toInt = 3 := by rw [c_5]; decide
      refine wp_tabIn (off := 54) 79 (by decide +kernel : decode (am_B 164) 25 = .ok (.tableswitch 69 0 5 #[39, 44, 49, 54, 59, 64], 39)) (by rw [hx_]; decide) (by rw [hx_]; decide) (by rw [hx_]; rfl) (by decide) ?_
      have hP := hP.1 c_5
      refine wp_seg (pc' := 83) [.aload 0, .getfield 646] (by decide +kernel) (?_ : Wp E (d + 1) 164 83 [.ref 74, .int x1] [.int (M 74 6)] M L Q)
      exact wp_iret (by decide +kernel) rfl (hK _ _ _ hP)
    replace hP := hP.2 c_5
    by_cases c_6 : x1 = Int32.ofInt 4
    · have hx_ : x1.toInt = 4 := by rw [c_6]; decide
      refine wp_tabIn (off := 59) 84 (by decide +kernel : decode (am_B 164) 25 = .ok (.tableswitch 69 0 5 #[39, 44, 49, 54, 59, 64], 39)) (by rw [hx_]; decide) (by rw [hx_]; decide) (by rw [hx_]; rfl) (by decide) ?_
      have hP := hP.1 c_6
      refine wp_seg (pc' := 88) [.aload 0, .getfield 652] (by decide +kernel) (?_ : Wp E (d + 1) 164 88 [.ref 74, .int x1] [.int (M 74 12)] M L Q)
      exact wp_iret (by decide +kernel) rfl (hK _ _ _ hP)
    replace hP := hP.2 c_6
    by_cases c_7 : x1 = Int32.ofInt 5
    · have hx_ : x1.toInt = 5 := by rw [c_7]; decide
      refine wp_tabIn (off := 64) 89 (by decide +kernel : decode (am_B 164) 25 = .ok (.tableswitch 69 0 5 #[39, 44, 49, 54, 59, 64], 39)) (by rw [hx_]; decide) (by rw [hx_]; decide) (by rw [hx_]; rfl) (by decide) ?_
      have hP := hP.1 c_7
      refine wp_seg (pc' := 93) [.aload 0, .getfield 654] (by decide +kernel) (?_ : Wp E (d + 1) 164 93 [.ref 74, .int x1] [.int (M 74 14)] M L Q)
      exact wp_iret (by decide +kernel) rfl (hK _ _ _ hP)
    replace hP := hP.2 c_7
    refine wp_tabOut 94 (by decide +kernel : decode (am_B 164) 25 = .ok (.tableswitch 69 0 5 #[39, 44, 49, 54, 59, 64], 39)) (by have := sw_ne (v := 0) (by decide) c_2; have := sw_ne (v := 1) (by decide) c_3; have := sw_ne (v := 2) (by decide) c_4; have := sw_ne (v := 3) (by decide) c_5; have := sw_ne (v := 4) (by decide) c_6; have := sw_ne (v := 5) (by decide) c_7; omega) (by decide) ?_
    refine wp_seg (pc' := 96) [.iconst (-2)] (by decide +kernel) (?_ : Wp E (d + 1) 164 96 [.ref 74, .int x1] [.int (Int32.ofInt (-2))] M L Q)
    exact wp_iret (by decide +kernel) rfl (hK _ _ _ hP)
  · have hP := hP.2 c_1
    obtain ⟨a_8, hP⟩ := hP
    refine wp_seg (pc' := 23) [.aload 0, .getfield 647, .iload 1, .iconst 10, .isub, .iaload] (by decide +kernel) (show aok 79 0 (x1 - (Int32.ofInt 10)) ∧ Wp E (d + 1) 164 23 [.ref 74, .int x1] [.int (M 79 ((x1 - (Int32.ofInt 10)).toNatClampNeg))] M L Q from ⟨⟨rfl, a_8⟩, ?_⟩)
    exact wp_iret (by decide +kernel) rfl (hK _ _ _ hP)
