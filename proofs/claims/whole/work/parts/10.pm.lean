def PL_X10_ones_4 (K : Int32 → Mem → LMem → Prop)  : Nat → Int32 → Int32 → Int32 → Mem → LMem → Prop
  | 0, _, _, _, _, _ => False
  | n_ + 1, v0, v1, v2, M, L => ((v2 = 0 → K v1 M L) ∧ (¬ (v2 = 0) → PL_X10_ones_4 K n_ v0 (v1 + Int32.ofInt 1) (v2 &&& (v2 - (Int32.ofInt 1))) M L))
theorem tl_X10_ones_4 {E : VE} {d : Nat} {Q : QQ} {K : Int32 → Mem → LMem → Prop}  (hK : ∀ (v : Int32) (M : Mem) (L : LMem), K v M L → Q (some (.int v)) M L)  : ∀ (n_ : Nat) (v0 : Int32) (v1 : Int32) (v2 : Int32) (M : Mem) (L : LMem), PL_X10_ones_4 K n_ v0 v1 v2 M L → Wp E d 97 4 [.int v0, .int v1, .int v2] [] M L Q := by
  intro n_
  induction n_ with
  | zero => intro v0 v1 v2 M L hP; exact False.elim hP
  | succ n_ ih =>
    intro v0 v1 v2 M L hP
    unfold PL_X10_ones_4 at hP
    refine wp_seg (pc' := 5) [.iload 2] (by decide +kernel) (?_ : Wp E d 97 5 [.int v0, .int v1, .int v2] [.int v2] M L Q)
    refine wp_ifeq (off := 15) 20 (by decide +kernel) (by decide) (fun c_1 => ?_) (fun c_1 => ?_)
    · have hP := hP.1 c_1
      refine wp_seg (pc' := 21) [.iload 1] (by decide +kernel) (?_ : Wp E d 97 21 [.int v0, .int v1, .int v2] [.int v1] M L Q)
      exact wp_iret (by decide +kernel) rfl (hK _ _ _ hP)
    · have hP := hP.2 c_1
      refine wp_seg (pc' := 4) [.iinc 1 1, .iload 2, .iload 2, .iconst 1, .isub, .iand, .istore 2, .goto 0] (by decide +kernel) (?_ : Wp E d 97 4 [.int v0, .int (v1 + Int32.ofInt 1), .int (v2 &&& (v2 - (Int32.ofInt 1)))] [] M L Q)
      exact ih v0 (v1 + Int32.ofInt 1) (v2 &&& (v2 - (Int32.ofInt 1))) M L hP
def P_X10_ones (x1 : Int32) (M : Mem) (L : LMem) (K : Int32 → Mem → LMem → Prop) : Prop := PL_X10_ones_4 K 100000 x1 (Int32.ofInt 0) x1 M L
theorem t_X10_ones {E : VE} {d : Nat} {Q : QQ} {K : Int32 → Mem → LMem → Prop} {x1 : Int32} {M : Mem} {L : LMem} (hP : P_X10_ones x1 M L K) (hK : ∀ (v : Int32) (M : Mem) (L : LMem), K v M L → Q (some (.int v)) M L) : Wp E d 97 0 [.int x1, .null, .null] [] M L Q := by
  unfold P_X10_ones at hP
  refine wp_seg (pc' := 4) [.iconst 0, .istore 1, .iload 0, .istore 2] (by decide +kernel) (?_ : Wp E d 97 4 [.int x1, .int (Int32.ofInt 0), .int x1] [] M L Q)
  exact tl_X10_ones_4 hK 100000 x1 (Int32.ofInt 0) x1 M L hP

def PL_X10_faultOfHouse_2 (K : Int32 → Mem → LMem → Prop)  : Nat → Int32 → Mem → LMem → Prop
  | 0, _, _, _ => False
  | n_ + 1, v1, M, L => (((M 74 16) ≤ v1 → ((((M 74 16) - (M 74 16) / (Int32.ofInt 4) * (Int32.ofInt 4)) = 0 → K (Int32.ofInt (-6)) M L) ∧ (¬ (((M 74 16) - (M 74 16) / (Int32.ofInt 4) * (Int32.ofInt 4)) = 0) → K (M 74 16) M L))) ∧ (¬ ((M 74 16) ≤ v1) → (vp_in v1 60 ∧ (((v1 - v1 / (Int32.ofInt 4) * (Int32.ofInt 4)) = 0 → (((Int32.ofInt 48) ≤ v1 → K v1 M L) ∧ (¬ ((Int32.ofInt 48) ≤ v1) → (((f_X10_isLetter M (M 84 v1.toNatClampNeg)) = 0 → K v1 M L) ∧ (¬ ((f_X10_isLetter M (M 84 v1.toNatClampNeg)) = 0) → PL_X10_faultOfHouse_2 K n_ (v1 + Int32.ofInt 1) M L))))) ∧ (¬ ((v1 - v1 / (Int32.ofInt 4) * (Int32.ofInt 4)) = 0) → (((v1 - v1 / (Int32.ofInt 4) * (Int32.ofInt 4)) = (Int32.ofInt 1) → (((f_X10_isKind M (M 84 v1.toNatClampNeg)) = 0 → K v1 M L) ∧ (¬ ((f_X10_isKind M (M 84 v1.toNatClampNeg)) = 0) → PL_X10_faultOfHouse_2 K n_ (v1 + Int32.ofInt 1) M L))) ∧ (¬ ((v1 - v1 / (Int32.ofInt 4) * (Int32.ofInt 4)) = (Int32.ofInt 1)) → (((v1 - v1 / (Int32.ofInt 4) * (Int32.ofInt 4)) = (Int32.ofInt 2) → (((f_X10_isLetter M (M 84 v1.toNatClampNeg)) = 0 → K v1 M L) ∧ (¬ ((f_X10_isLetter M (M 84 v1.toNatClampNeg)) = 0) → (vp_in (v1 - (Int32.ofInt 2)) 60 ∧ (((M 84 v1.toNatClampNeg) = (M 84 ((v1 - (Int32.ofInt 2)).toNatClampNeg)) → K v1 M L) ∧ (¬ ((M 84 v1.toNatClampNeg) = (M 84 ((v1 - (Int32.ofInt 2)).toNatClampNeg))) → PL_X10_faultOfHouse_2 K n_ (v1 + Int32.ofInt 1) M L)))))) ∧ (¬ ((v1 - v1 / (Int32.ofInt 4) * (Int32.ofInt 4)) = (Int32.ofInt 2)) → (((f_X10_in M ((M 84 v1.toNatClampNeg).toInt64) (Int64.ofNat 49) (Int64.ofNat 57)) = 0 → K v1 M L) ∧ (¬ ((f_X10_in M ((M 84 v1.toNatClampNeg).toInt64) (Int64.ofNat 49) (Int64.ofNat 57)) = 0) → PL_X10_faultOfHouse_2 K n_ (v1 + Int32.ofInt 1) M L)))))))))))
theorem tl_X10_faultOfHouse_2 {E : VE} {d : Nat} {Q : QQ} {K : Int32 → Mem → LMem → Prop}  (hK : ∀ (v : Int32) (M : Mem) (L : LMem), K v M L → Q (some (.int v)) M L)  : ∀ (n_ : Nat) (v1 : Int32) (M : Mem) (L : LMem), PL_X10_faultOfHouse_2 K n_ v1 M L → Wp E (d + 2) 102 2 [.ref 74, .int v1, .null, .null, .null] [] M L Q := by
  intro n_
  induction n_ with
  | zero => intro v1 M L hP; exact False.elim hP
  | succ n_ ih =>
    intro v1 M L hP
    unfold PL_X10_faultOfHouse_2 at hP
    refine wp_seg (pc' := 7) [.iload 1, .aload 0, .getfield 656] (by decide +kernel) (?_ : Wp E (d + 2) 102 7 [.ref 74, .int v1, .null, .null, .null] [.int (M 74 16), .int v1] M L Q)
    refine wp_icmpge (off := 109) 116 (by decide +kernel) (by decide) (fun c_1 => ?_) (fun c_1 => ?_)
    · have hP := hP.1 c_1
      refine wp_seg (pc' := 122) [.aload 0, .getfield 656, .iconst 4, .irem] (by decide +kernel) (show ¬ (Int32.ofInt 4) = 0 ∧ Wp E (d + 2) 102 122 [.ref 74, .int v1, .null, .null, .null] [.int ((M 74 16) - (M 74 16) / (Int32.ofInt 4) * (Int32.ofInt 4))] M L Q from ⟨(by decide), ?_⟩)
      refine wp_ifne (off := 8) 130 (by decide +kernel) (by decide) (fun c_2 => ?_) (fun c_2 => ?_)
      · have hP := hP.2 c_2
        refine wp_seg (pc' := 134) [.aload 0, .getfield 656] (by decide +kernel) (?_ : Wp E (d + 2) 102 134 [.ref 74, .int v1, .null, .null, .null] [.int (M 74 16)] M L Q)
        exact wp_iret (by decide +kernel) rfl (hK _ _ _ hP)
      · have hP := hP.1 c_2
        refine wp_seg (pc' := 134) [.iconst (-6), .goto 0] (by decide +kernel) (?_ : Wp E (d + 2) 102 134 [.ref 74, .int v1, .null, .null, .null] [.int (Int32.ofInt (-6))] M L Q)
        exact wp_iret (by decide +kernel) rfl (hK _ _ _ hP)
    · have hP := hP.2 c_1
      obtain ⟨a_3, hP⟩ := hP
      refine wp_seg (pc' := 16) [.aload 0, .getfield 655, .iload 1, .iaload] (by decide +kernel) (show aok 84 0 v1 ∧ Wp E (d + 2) 102 16 [.ref 74, .int v1, .null, .null, .null] [.int (M 84 v1.toNatClampNeg)] M L Q from ⟨⟨rfl, a_3⟩, ?_⟩)
      refine wp_seg (pc' := 20) [.istore 2, .iload 1, .iconst 4, .irem] (by decide +kernel) (show ¬ (Int32.ofInt 4) = 0 ∧ Wp E (d + 2) 102 20 [.ref 74, .int v1, .int (M 84 v1.toNatClampNeg), .null, .null] [.int (v1 - v1 / (Int32.ofInt 4) * (Int32.ofInt 4))] M L Q from ⟨(by decide), ?_⟩)
      refine wp_seg (pc' := 22) [.istore 3, .iload 3] (by decide +kernel) (?_ : Wp E (d + 2) 102 22 [.ref 74, .int v1, .int (M 84 v1.toNatClampNeg), .int (v1 - v1 / (Int32.ofInt 4) * (Int32.ofInt 4)), .null] [.int (v1 - v1 / (Int32.ofInt 4) * (Int32.ofInt 4))] M L Q)
      refine wp_ifne (off := 24) 46 (by decide +kernel) (by decide) (fun c_4 => ?_) (fun c_4 => ?_)
      · have hP := hP.2 c_4
        refine wp_seg (pc' := 48) [.iload 3, .iconst 1] (by decide +kernel) (?_ : Wp E (d + 2) 102 48 [.ref 74, .int v1, .int (M 84 v1.toNatClampNeg), .int (v1 - v1 / (Int32.ofInt 4) * (Int32.ofInt 4)), .null] [.int (Int32.ofInt 1), .int (v1 - v1 / (Int32.ofInt 4) * (Int32.ofInt 4))] M L Q)
        refine wp_icmpne (off := 10) 58 (by decide +kernel) (by decide) (fun c_5 => ?_) (fun c_5 => ?_)
        · have hP := hP.2 c_5
          refine wp_seg (pc' := 60) [.iload 3, .iconst 2] (by decide +kernel) (?_ : Wp E (d + 2) 102 60 [.ref 74, .int v1, .int (M 84 v1.toNatClampNeg), .int (v1 - v1 / (Int32.ofInt 4) * (Int32.ofInt 4)), .null] [.int (Int32.ofInt 2), .int (v1 - v1 / (Int32.ofInt 4) * (Int32.ofInt 4))] M L Q)
          refine wp_icmpne (off := 30) 90 (by decide +kernel) (by decide) (fun c_6 => ?_) (fun c_6 => ?_)
          · have hP := hP.2 c_6
            refine wp_seg (pc' := 98) [.iload 2, .i2l, .ldc2_w 49, .ldc2_w 57] (by decide +kernel) (?_ : Wp E (d + 2) 102 98 [.ref 74, .int v1, .int (M 84 v1.toNatClampNeg), .int (v1 - v1 / (Int32.ofInt 4) * (Int32.ofInt 4)), .null] [.long (Int64.ofNat 57), .long (Int64.ofNat 49), .long ((M 84 v1.toNatClampNeg).toInt64)] M L Q)
            refine wp_callS 94 [.long ((M 84 v1.toNatClampNeg).toInt64), .long (Int64.ofNat 49), .long (Int64.ofNat 57)] (i := 129) (by decide +kernel) (by decide +kernel) (by decide +kernel) rfl rfl rfl (rest := []) rfl rfl ?_
            refine s_X10_in M ((M 84 v1.toNatClampNeg).toInt64) (Int64.ofNat 49) (Int64.ofNat 57)  ?_
            show Wp E (d + 2) 102 101 [.ref 74, .int v1, .int (M 84 v1.toNatClampNeg), .int (v1 - v1 / (Int32.ofInt 4) * (Int32.ofInt 4)), .null] [.int (f_X10_in M ((M 84 v1.toNatClampNeg).toInt64) (Int64.ofNat 49) (Int64.ofNat 57))] M L Q
            refine wp_seg (pc' := 105) [.istore 4, .iload 4] (by decide +kernel) (?_ : Wp E (d + 2) 102 105 [.ref 74, .int v1, .int (M 84 v1.toNatClampNeg), .int (v1 - v1 / (Int32.ofInt 4) * (Int32.ofInt 4)), .int (f_X10_in M ((M 84 v1.toNatClampNeg).toInt64) (Int64.ofNat 49) (Int64.ofNat 57))] [.int (f_X10_in M ((M 84 v1.toNatClampNeg).toInt64) (Int64.ofNat 49) (Int64.ofNat 57))] M L Q)
            refine wp_ifne (off := 5) 110 (by decide +kernel) (by decide) (fun c_7 => ?_) (fun c_7 => ?_)
            · have hP := hP.2 c_7
              refine wp_seg (pc' := 2) [.iinc 1 1, .goto 0] (by decide +kernel) (?_ : Wp E (d + 2) 102 2 [.ref 74, .int (v1 + Int32.ofInt 1), .int (M 84 v1.toNatClampNeg), .int (v1 - v1 / (Int32.ofInt 4) * (Int32.ofInt 4)), .int (f_X10_in M ((M 84 v1.toNatClampNeg).toInt64) (Int64.ofNat 49) (Int64.ofNat 57))] [] M L Q)
              refine wp_drop (lo := [.ref 74, .int (v1 + Int32.ofInt 1), .null, .null, .null]) ⟨Or.inr rfl, Or.inr rfl, Or.inl rfl, Or.inl rfl, Or.inl rfl, trivial⟩ ?_
              exact ih (v1 + Int32.ofInt 1) M L hP
            · have hP := hP.1 c_7
              refine wp_seg (pc' := 109) [.iload 1] (by decide +kernel) (?_ : Wp E (d + 2) 102 109 [.ref 74, .int v1, .int (M 84 v1.toNatClampNeg), .int (v1 - v1 / (Int32.ofInt 4) * (Int32.ofInt 4)), .int (f_X10_in M ((M 84 v1.toNatClampNeg).toInt64) (Int64.ofNat 49) (Int64.ofNat 57))] [.int v1] M L Q)
              exact wp_iret (by decide +kernel) rfl (hK _ _ _ hP)
          · have hP := hP.1 c_6
            refine wp_seg (pc' := 64) [.iload 2] (by decide +kernel) (?_ : Wp E (d + 2) 102 64 [.ref 74, .int v1, .int (M 84 v1.toNatClampNeg), .int (v1 - v1 / (Int32.ofInt 4) * (Int32.ofInt 4)), .null] [.int (M 84 v1.toNatClampNeg)] M L Q)
            refine wp_callS 100 [.int (M 84 v1.toNatClampNeg)] (i := 148) (by decide +kernel) (by decide +kernel) (by decide +kernel) rfl rfl rfl (rest := []) rfl rfl ?_
            refine s_X10_isLetter M (M 84 v1.toNatClampNeg)  ?_
            show Wp E (d + 2) 102 67 [.ref 74, .int v1, .int (M 84 v1.toNatClampNeg), .int (v1 - v1 / (Int32.ofInt 4) * (Int32.ofInt 4)), .null] [.int (f_X10_isLetter M (M 84 v1.toNatClampNeg))] M L Q
            refine wp_ifeq (off := 19) 86 (by decide +kernel) (by decide) (fun c_8 => ?_) (fun c_8 => ?_)
            · have hP := hP.1 c_8
              refine wp_seg (pc' := 105) [.iconst 0, .goto 0, .istore 4, .iload 4] (by decide +kernel) (?_ : Wp E (d + 2) 102 105 [.ref 74, .int v1, .int (M 84 v1.toNatClampNeg), .int (v1 - v1 / (Int32.ofInt 4) * (Int32.ofInt 4)), .int (Int32.ofInt 0)] [.int (Int32.ofInt 0)] M L Q)
              refine wp_ifne (off := 5) 110 (by decide +kernel) (by decide) (fun c_9 => ?_) (fun c_9 => ?_)
              · exact absurd (by decide) c_9
              · skip
                refine wp_seg (pc' := 109) [.iload 1] (by decide +kernel) (?_ : Wp E (d + 2) 102 109 [.ref 74, .int v1, .int (M 84 v1.toNatClampNeg), .int (v1 - v1 / (Int32.ofInt 4) * (Int32.ofInt 4)), .int (Int32.ofInt 0)] [.int v1] M L Q)
                exact wp_iret (by decide +kernel) rfl (hK _ _ _ hP)
            · have hP := hP.2 c_8
              obtain ⟨a_10, hP⟩ := hP
              refine wp_seg (pc' := 79) [.iload 2, .aload 0, .getfield 655, .iload 1, .iconst 2, .isub, .iaload] (by decide +kernel) (show aok 84 0 (v1 - (Int32.ofInt 2)) ∧ Wp E (d + 2) 102 79 [.ref 74, .int v1, .int (M 84 v1.toNatClampNeg), .int (v1 - v1 / (Int32.ofInt 4) * (Int32.ofInt 4)), .null] [.int (M 84 ((v1 - (Int32.ofInt 2)).toNatClampNeg)), .int (M 84 v1.toNatClampNeg)] M L Q from ⟨⟨rfl, a_10⟩, ?_⟩)
              refine wp_icmpeq (off := 7) 86 (by decide +kernel) (by decide) (fun c_11 => ?_) (fun c_11 => ?_)
              · have hP := hP.1 c_11
                refine wp_seg (pc' := 105) [.iconst 0, .goto 0, .istore 4, .iload 4] (by decide +kernel) (?_ : Wp E (d + 2) 102 105 [.ref 74, .int v1, .int (M 84 v1.toNatClampNeg), .int (v1 - v1 / (Int32.ofInt 4) * (Int32.ofInt 4)), .int (Int32.ofInt 0)] [.int (Int32.ofInt 0)] M L Q)
                refine wp_ifne (off := 5) 110 (by decide +kernel) (by decide) (fun c_12 => ?_) (fun c_12 => ?_)
                · exact absurd (by decide) c_12
                · skip
                  refine wp_seg (pc' := 109) [.iload 1] (by decide +kernel) (?_ : Wp E (d + 2) 102 109 [.ref 74, .int v1, .int (M 84 v1.toNatClampNeg), .int (v1 - v1 / (Int32.ofInt 4) * (Int32.ofInt 4)), .int (Int32.ofInt 0)] [.int v1] M L Q)
                  exact wp_iret (by decide +kernel) rfl (hK _ _ _ hP)
              · have hP := hP.2 c_11
                refine wp_seg (pc' := 105) [.iconst 1, .goto 0, .istore 4, .iload 4] (by decide +kernel) (?_ : Wp E (d + 2) 102 105 [.ref 74, .int v1, .int (M 84 v1.toNatClampNeg), .int (v1 - v1 / (Int32.ofInt 4) * (Int32.ofInt 4)), .int (Int32.ofInt 1)] [.int (Int32.ofInt 1)] M L Q)
                refine wp_ifne (off := 5) 110 (by decide +kernel) (by decide) (fun c_13 => ?_) (fun c_13 => ?_)
                · skip
                  refine wp_seg (pc' := 2) [.iinc 1 1, .goto 0] (by decide +kernel) (?_ : Wp E (d + 2) 102 2 [.ref 74, .int (v1 + Int32.ofInt 1), .int (M 84 v1.toNatClampNeg), .int (v1 - v1 / (Int32.ofInt 4) * (Int32.ofInt 4)), .int (Int32.ofInt 1)] [] M L Q)
                  refine wp_drop (lo := [.ref 74, .int (v1 + Int32.ofInt 1), .null, .null, .null]) ⟨Or.inr rfl, Or.inr rfl, Or.inl rfl, Or.inl rfl, Or.inl rfl, trivial⟩ ?_
                  exact ih (v1 + Int32.ofInt 1) M L hP
                · exact absurd c_13 (by decide)
        · have hP := hP.1 c_5
          refine wp_seg (pc' := 52) [.iload 2] (by decide +kernel) (?_ : Wp E (d + 2) 102 52 [.ref 74, .int v1, .int (M 84 v1.toNatClampNeg), .int (v1 - v1 / (Int32.ofInt 4) * (Int32.ofInt 4)), .null] [.int (M 84 v1.toNatClampNeg)] M L Q)
          refine wp_callS 101 [.int (M 84 v1.toNatClampNeg)] (i := 151) (by decide +kernel) (by decide +kernel) (by decide +kernel) rfl rfl rfl (rest := []) rfl rfl ?_
          refine s_X10_isKind M (M 84 v1.toNatClampNeg)  ?_
          show Wp E (d + 2) 102 55 [.ref 74, .int v1, .int (M 84 v1.toNatClampNeg), .int (v1 - v1 / (Int32.ofInt 4) * (Int32.ofInt 4)), .null] [.int (f_X10_isKind M (M 84 v1.toNatClampNeg))] M L Q
          refine wp_seg (pc' := 105) [.goto 0, .istore 4, .iload 4] (by decide +kernel) (?_ : Wp E (d + 2) 102 105 [.ref 74, .int v1, .int (M 84 v1.toNatClampNeg), .int (v1 - v1 / (Int32.ofInt 4) * (Int32.ofInt 4)), .int (f_X10_isKind M (M 84 v1.toNatClampNeg))] [.int (f_X10_isKind M (M 84 v1.toNatClampNeg))] M L Q)
          refine wp_ifne (off := 5) 110 (by decide +kernel) (by decide) (fun c_14 => ?_) (fun c_14 => ?_)
          · have hP := hP.2 c_14
            refine wp_seg (pc' := 2) [.iinc 1 1, .goto 0] (by decide +kernel) (?_ : Wp E (d + 2) 102 2 [.ref 74, .int (v1 + Int32.ofInt 1), .int (M 84 v1.toNatClampNeg), .int (v1 - v1 / (Int32.ofInt 4) * (Int32.ofInt 4)), .int (f_X10_isKind M (M 84 v1.toNatClampNeg))] [] M L Q)
            refine wp_drop (lo := [.ref 74, .int (v1 + Int32.ofInt 1), .null, .null, .null]) ⟨Or.inr rfl, Or.inr rfl, Or.inl rfl, Or.inl rfl, Or.inl rfl, trivial⟩ ?_
            exact ih (v1 + Int32.ofInt 1) M L hP
          · have hP := hP.1 c_14
            refine wp_seg (pc' := 109) [.iload 1] (by decide +kernel) (?_ : Wp E (d + 2) 102 109 [.ref 74, .int v1, .int (M 84 v1.toNatClampNeg), .int (v1 - v1 / (Int32.ofInt 4) * (Int32.ofInt 4)), .int (f_X10_isKind M (M 84 v1.toNatClampNeg))] [.int v1] M L Q)
            exact wp_iret (by decide +kernel) rfl (hK _ _ _ hP)
      · have hP := hP.1 c_4
        refine wp_seg (pc' := 28) [.iload 1, .iconst 48] (by decide +kernel) (?_ : Wp E (d + 2) 102 28 [.ref 74, .int v1, .int (M 84 v1.toNatClampNeg), .int (v1 - v1 / (Int32.ofInt 4) * (Int32.ofInt 4)), .null] [.int (Int32.ofInt 48), .int v1] M L Q)
        refine wp_icmpge (off := 14) 42 (by decide +kernel) (by decide) (fun c_15 => ?_) (fun c_15 => ?_)
        · have hP := hP.1 c_15
          refine wp_seg (pc' := 105) [.iconst 0, .goto 0, .istore 4, .iload 4] (by decide +kernel) (?_ : Wp E (d + 2) 102 105 [.ref 74, .int v1, .int (M 84 v1.toNatClampNeg), .int (v1 - v1 / (Int32.ofInt 4) * (Int32.ofInt 4)), .int (Int32.ofInt 0)] [.int (Int32.ofInt 0)] M L Q)
          refine wp_ifne (off := 5) 110 (by decide +kernel) (by decide) (fun c_16 => ?_) (fun c_16 => ?_)
          · exact absurd (by decide) c_16
          · skip
            refine wp_seg (pc' := 109) [.iload 1] (by decide +kernel) (?_ : Wp E (d + 2) 102 109 [.ref 74, .int v1, .int (M 84 v1.toNatClampNeg), .int (v1 - v1 / (Int32.ofInt 4) * (Int32.ofInt 4)), .int (Int32.ofInt 0)] [.int v1] M L Q)
            exact wp_iret (by decide +kernel) rfl (hK _ _ _ hP)
        · have hP := hP.2 c_15
          refine wp_seg (pc' := 32) [.iload 2] (by decide +kernel) (?_ : Wp E (d + 2) 102 32 [.ref 74, .int v1, .int (M 84 v1.toNatClampNeg), .int (v1 - v1 / (Int32.ofInt 4) * (Int32.ofInt 4)), .null] [.int (M 84 v1.toNatClampNeg)] M L Q)
          refine wp_callS 100 [.int (M 84 v1.toNatClampNeg)] (i := 148) (by decide +kernel) (by decide +kernel) (by decide +kernel) rfl rfl rfl (rest := []) rfl rfl ?_
          refine s_X10_isLetter M (M 84 v1.toNatClampNeg)  ?_
          show Wp E (d + 2) 102 35 [.ref 74, .int v1, .int (M 84 v1.toNatClampNeg), .int (v1 - v1 / (Int32.ofInt 4) * (Int32.ofInt 4)), .null] [.int (f_X10_isLetter M (M 84 v1.toNatClampNeg))] M L Q
          refine wp_ifeq (off := 7) 42 (by decide +kernel) (by decide) (fun c_17 => ?_) (fun c_17 => ?_)
          · have hP := hP.1 c_17
            refine wp_seg (pc' := 105) [.iconst 0, .goto 0, .istore 4, .iload 4] (by decide +kernel) (?_ : Wp E (d + 2) 102 105 [.ref 74, .int v1, .int (M 84 v1.toNatClampNeg), .int (v1 - v1 / (Int32.ofInt 4) * (Int32.ofInt 4)), .int (Int32.ofInt 0)] [.int (Int32.ofInt 0)] M L Q)
            refine wp_ifne (off := 5) 110 (by decide +kernel) (by decide) (fun c_18 => ?_) (fun c_18 => ?_)
            · exact absurd (by decide) c_18
            · skip
              refine wp_seg (pc' := 109) [.iload 1] (by decide +kernel) (?_ : Wp E (d + 2) 102 109 [.ref 74, .int v1, .int (M 84 v1.toNatClampNeg), .int (v1 - v1 / (Int32.ofInt 4) * (Int32.ofInt 4)), .int (Int32.ofInt 0)] [.int v1] M L Q)
              exact wp_iret (by decide +kernel) rfl (hK _ _ _ hP)
          · have hP := hP.2 c_17
            refine wp_seg (pc' := 105) [.iconst 1, .goto 0, .istore 4, .iload 4] (by decide +kernel) (?_ : Wp E (d + 2) 102 105 [.ref 74, .int v1, .int (M 84 v1.toNatClampNeg), .int (v1 - v1 / (Int32.ofInt 4) * (Int32.ofInt 4)), .int (Int32.ofInt 1)] [.int (Int32.ofInt 1)] M L Q)
            refine wp_ifne (off := 5) 110 (by decide +kernel) (by decide) (fun c_19 => ?_) (fun c_19 => ?_)
            · skip
              refine wp_seg (pc' := 2) [.iinc 1 1, .goto 0] (by decide +kernel) (?_ : Wp E (d + 2) 102 2 [.ref 74, .int (v1 + Int32.ofInt 1), .int (M 84 v1.toNatClampNeg), .int (v1 - v1 / (Int32.ofInt 4) * (Int32.ofInt 4)), .int (Int32.ofInt 1)] [] M L Q)
              refine wp_drop (lo := [.ref 74, .int (v1 + Int32.ofInt 1), .null, .null, .null]) ⟨Or.inr rfl, Or.inr rfl, Or.inl rfl, Or.inl rfl, Or.inl rfl, trivial⟩ ?_
              exact ih (v1 + Int32.ofInt 1) M L hP
            · exact absurd c_19 (by decide)
def P_X10_faultOfHouse (M : Mem) (L : LMem) (K : Int32 → Mem → LMem → Prop) : Prop := PL_X10_faultOfHouse_2 K 100000 (Int32.ofInt 0) M L
theorem t_X10_faultOfHouse {E : VE} {d : Nat} {Q : QQ} {K : Int32 → Mem → LMem → Prop} {M : Mem} {L : LMem} (hP : P_X10_faultOfHouse M L K) (hK : ∀ (v : Int32) (M : Mem) (L : LMem), K v M L → Q (some (.int v)) M L) : Wp E (d + 2) 102 0 [.ref 74, .null, .null, .null, .null] [] M L Q := by
  unfold P_X10_faultOfHouse at hP
  refine wp_seg (pc' := 2) [.iconst 0, .istore 1] (by decide +kernel) (?_ : Wp E (d + 2) 102 2 [.ref 74, .int (Int32.ofInt 0), .null, .null, .null] [] M L Q)
  exact tl_X10_faultOfHouse_2 hK 100000 (Int32.ofInt 0) M L hP

def PL_X10_faultOfDay_6 (K : Int32 → Mem → LMem → Prop)  : Nat → Int32 → Int32 → Int32 → Mem → LMem → Prop
  | 0, _, _, _, _, _ => False
  | n_ + 1, v1, v2, v3, M, L => (((M 74 16) ≤ v3 → ((v1 = 0 → K (Int32.ofInt (-6)) M L) ∧ (¬ (v1 = 0) → K (M 74 16) M L))) ∧ (¬ ((M 74 16) ≤ v3) → (vp_in v3 60 ∧ ((v1 = 0 → (((Int32.ofInt 20) ≤ v2 → ((v1 = (Int32.ofInt 1) → (((f_X10_isLetter M (M 84 v3.toNatClampNeg)) = 0 → ((v1 = (Int32.ofInt 2) → (((f_X10_in M ((M 84 v3.toNatClampNeg).toInt64) (Int64.ofNat 49) (Int64.ofNat 57)) = 0 → K v3 M L) ∧ (¬ ((f_X10_in M ((M 84 v3.toNatClampNeg).toInt64) (Int64.ofNat 49) (Int64.ofNat 57)) = 0) → PL_X10_faultOfDay_6 K n_ (Int32.ofInt 0) v2 (v3 + Int32.ofInt 1) M L))) ∧ (¬ (v1 = (Int32.ofInt 2)) → K v3 M L))) ∧ (¬ ((f_X10_isLetter M (M 84 v3.toNatClampNeg)) = 0) → (vp_in (v3 - (Int32.ofInt 1)) 60 ∧ (((M 84 v3.toNatClampNeg) = (M 84 ((v3 - (Int32.ofInt 1)).toNatClampNeg)) → ((v1 = (Int32.ofInt 2) → (((f_X10_in M ((M 84 v3.toNatClampNeg).toInt64) (Int64.ofNat 49) (Int64.ofNat 57)) = 0 → K v3 M L) ∧ (¬ ((f_X10_in M ((M 84 v3.toNatClampNeg).toInt64) (Int64.ofNat 49) (Int64.ofNat 57)) = 0) → PL_X10_faultOfDay_6 K n_ (Int32.ofInt 0) v2 (v3 + Int32.ofInt 1) M L))) ∧ (¬ (v1 = (Int32.ofInt 2)) → K v3 M L))) ∧ (¬ ((M 84 v3.toNatClampNeg) = (M 84 ((v3 - (Int32.ofInt 1)).toNatClampNeg))) → PL_X10_faultOfDay_6 K n_ (Int32.ofInt 2) v2 (v3 + Int32.ofInt 1) M L)))))) ∧ (¬ (v1 = (Int32.ofInt 1)) → ((v1 = (Int32.ofInt 2) → (((f_X10_in M ((M 84 v3.toNatClampNeg).toInt64) (Int64.ofNat 49) (Int64.ofNat 57)) = 0 → K v3 M L) ∧ (¬ ((f_X10_in M ((M 84 v3.toNatClampNeg).toInt64) (Int64.ofNat 49) (Int64.ofNat 57)) = 0) → PL_X10_faultOfDay_6 K n_ (Int32.ofInt 0) v2 (v3 + Int32.ofInt 1) M L))) ∧ (¬ (v1 = (Int32.ofInt 2)) → K v3 M L))))) ∧ (¬ ((Int32.ofInt 20) ≤ v2) → (((f_X10_isLetter M (M 84 v3.toNatClampNeg)) = 0 → (((M 84 v3.toNatClampNeg) = (Int32.ofInt 46) → PL_X10_faultOfDay_6 K n_ (Int32.ofInt 2) (v2 + Int32.ofInt 1) (v3 + Int32.ofInt 1) M L) ∧ (¬ ((M 84 v3.toNatClampNeg) = (Int32.ofInt 46)) → ((v1 = (Int32.ofInt 1) → ((v1 = (Int32.ofInt 2) → (((f_X10_in M ((M 84 v3.toNatClampNeg).toInt64) (Int64.ofNat 49) (Int64.ofNat 57)) = 0 → K v3 M L) ∧ (¬ ((f_X10_in M ((M 84 v3.toNatClampNeg).toInt64) (Int64.ofNat 49) (Int64.ofNat 57)) = 0) → PL_X10_faultOfDay_6 K n_ (Int32.ofInt 0) v2 (v3 + Int32.ofInt 1) M L))) ∧ (¬ (v1 = (Int32.ofInt 2)) → K v3 M L))) ∧ (¬ (v1 = (Int32.ofInt 1)) → ((v1 = (Int32.ofInt 2) → (((f_X10_in M ((M 84 v3.toNatClampNeg).toInt64) (Int64.ofNat 49) (Int64.ofNat 57)) = 0 → K v3 M L) ∧ (¬ ((f_X10_in M ((M 84 v3.toNatClampNeg).toInt64) (Int64.ofNat 49) (Int64.ofNat 57)) = 0) → PL_X10_faultOfDay_6 K n_ (Int32.ofInt 0) v2 (v3 + Int32.ofInt 1) M L))) ∧ (¬ (v1 = (Int32.ofInt 2)) → K v3 M L))))))) ∧ (¬ ((f_X10_isLetter M (M 84 v3.toNatClampNeg)) = 0) → (((M 84 v3.toNatClampNeg) = (Int32.ofInt 46) → PL_X10_faultOfDay_6 K n_ (Int32.ofInt 2) (v2 + Int32.ofInt 1) (v3 + Int32.ofInt 1) M L) ∧ (¬ ((M 84 v3.toNatClampNeg) = (Int32.ofInt 46)) → PL_X10_faultOfDay_6 K n_ (Int32.ofInt 1) (v2 + Int32.ofInt 1) (v3 + Int32.ofInt 1) M L))))))) ∧ (¬ (v1 = 0) → ((v1 = (Int32.ofInt 1) → (((f_X10_isLetter M (M 84 v3.toNatClampNeg)) = 0 → ((v1 = (Int32.ofInt 2) → (((f_X10_in M ((M 84 v3.toNatClampNeg).toInt64) (Int64.ofNat 49) (Int64.ofNat 57)) = 0 → K v3 M L) ∧ (¬ ((f_X10_in M ((M 84 v3.toNatClampNeg).toInt64) (Int64.ofNat 49) (Int64.ofNat 57)) = 0) → PL_X10_faultOfDay_6 K n_ (Int32.ofInt 0) v2 (v3 + Int32.ofInt 1) M L))) ∧ (¬ (v1 = (Int32.ofInt 2)) → K v3 M L))) ∧ (¬ ((f_X10_isLetter M (M 84 v3.toNatClampNeg)) = 0) → (vp_in (v3 - (Int32.ofInt 1)) 60 ∧ (((M 84 v3.toNatClampNeg) = (M 84 ((v3 - (Int32.ofInt 1)).toNatClampNeg)) → ((v1 = (Int32.ofInt 2) → (((f_X10_in M ((M 84 v3.toNatClampNeg).toInt64) (Int64.ofNat 49) (Int64.ofNat 57)) = 0 → K v3 M L) ∧ (¬ ((f_X10_in M ((M 84 v3.toNatClampNeg).toInt64) (Int64.ofNat 49) (Int64.ofNat 57)) = 0) → PL_X10_faultOfDay_6 K n_ (Int32.ofInt 0) v2 (v3 + Int32.ofInt 1) M L))) ∧ (¬ (v1 = (Int32.ofInt 2)) → K v3 M L))) ∧ (¬ ((M 84 v3.toNatClampNeg) = (M 84 ((v3 - (Int32.ofInt 1)).toNatClampNeg))) → PL_X10_faultOfDay_6 K n_ (Int32.ofInt 2) v2 (v3 + Int32.ofInt 1) M L)))))) ∧ (¬ (v1 = (Int32.ofInt 1)) → ((v1 = (Int32.ofInt 2) → (((f_X10_in M ((M 84 v3.toNatClampNeg).toInt64) (Int64.ofNat 49) (Int64.ofNat 57)) = 0 → K v3 M L) ∧ (¬ ((f_X10_in M ((M 84 v3.toNatClampNeg).toInt64) (Int64.ofNat 49) (Int64.ofNat 57)) = 0) → PL_X10_faultOfDay_6 K n_ (Int32.ofInt 0) v2 (v3 + Int32.ofInt 1) M L))) ∧ (¬ (v1 = (Int32.ofInt 2)) → K v3 M L)))))))))
theorem tl_X10_faultOfDay_6 {E : VE} {d : Nat} {Q : QQ} {K : Int32 → Mem → LMem → Prop}  (hK : ∀ (v : Int32) (M : Mem) (L : LMem), K v M L → Q (some (.int v)) M L)  : ∀ (n_ : Nat) (v1 : Int32) (v2 : Int32) (v3 : Int32) (M : Mem) (L : LMem), PL_X10_faultOfDay_6 K n_ v1 v2 v3 M L → Wp E (d + 2) 103 6 [.ref 74, .int v1, .int v2, .int v3, .null] [] M L Q := by
  intro n_
  induction n_ with
  | zero => intro v1 v2 v3 M L hP; exact False.elim hP
  | succ n_ ih =>
    intro v1 v2 v3 M L hP
    unfold PL_X10_faultOfDay_6 at hP
    refine wp_seg (pc' := 11) [.iload 3, .aload 0, .getfield 656] (by decide +kernel) (?_ : Wp E (d + 2) 103 11 [.ref 74, .int v1, .int v2, .int v3, .null] [.int (M 74 16), .int v3] M L Q)
    refine wp_icmpge (off := 119) 130 (by decide +kernel) (by decide) (fun c_1 => ?_) (fun c_1 => ?_)
    · have hP := hP.1 c_1
      refine wp_seg (pc' := 131) [.iload 1] (by decide +kernel) (?_ : Wp E (d + 2) 103 131 [.ref 74, .int v1, .int v2, .int v3, .null] [.int v1] M L Q)
      refine wp_ifne (off := 8) 139 (by decide +kernel) (by decide) (fun c_2 => ?_) (fun c_2 => ?_)
      · have hP := hP.2 c_2
        refine wp_seg (pc' := 143) [.aload 0, .getfield 656] (by decide +kernel) (?_ : Wp E (d + 2) 103 143 [.ref 74, .int v1, .int v2, .int v3, .null] [.int (M 74 16)] M L Q)
        exact wp_iret (by decide +kernel) rfl (hK _ _ _ hP)
      · have hP := hP.1 c_2
        refine wp_seg (pc' := 143) [.iconst (-6), .goto 0] (by decide +kernel) (?_ : Wp E (d + 2) 103 143 [.ref 74, .int v1, .int v2, .int v3, .null] [.int (Int32.ofInt (-6))] M L Q)
        exact wp_iret (by decide +kernel) rfl (hK _ _ _ hP)
    · have hP := hP.2 c_1
      obtain ⟨a_3, hP⟩ := hP
      refine wp_seg (pc' := 20) [.aload 0, .getfield 655, .iload 3, .iaload] (by decide +kernel) (show aok 84 0 v3 ∧ Wp E (d + 2) 103 20 [.ref 74, .int v1, .int v2, .int v3, .null] [.int (M 84 v3.toNatClampNeg)] M L Q from ⟨⟨rfl, a_3⟩, ?_⟩)
      refine wp_seg (pc' := 23) [.istore 4, .iload 1] (by decide +kernel) (?_ : Wp E (d + 2) 103 23 [.ref 74, .int v1, .int v2, .int v3, .int (M 84 v3.toNatClampNeg)] [.int v1] M L Q)
      refine wp_ifne (off := 43) 66 (by decide +kernel) (by decide) (fun c_4 => ?_) (fun c_4 => ?_)
      · have hP := hP.2 c_4
        refine wp_seg (pc' := 68) [.iload 1, .iconst 1] (by decide +kernel) (?_ : Wp E (d + 2) 103 68 [.ref 74, .int v1, .int v2, .int v3, .int (M 84 v3.toNatClampNeg)] [.int (Int32.ofInt 1), .int v1] M L Q)
        refine wp_icmpne (off := 29) 97 (by decide +kernel) (by decide) (fun c_5 => ?_) (fun c_5 => ?_)
        · have hP := hP.2 c_5
          refine wp_seg (pc' := 99) [.iload 1, .iconst 2] (by decide +kernel) (?_ : Wp E (d + 2) 103 99 [.ref 74, .int v1, .int v2, .int v3, .int (M 84 v3.toNatClampNeg)] [.int (Int32.ofInt 2), .int v1] M L Q)
          refine wp_icmpne (off := 23) 122 (by decide +kernel) (by decide) (fun c_6 => ?_) (fun c_6 => ?_)
          · have hP := hP.2 c_6
            refine wp_seg (pc' := 123) [.iload 3] (by decide +kernel) (?_ : Wp E (d + 2) 103 123 [.ref 74, .int v1, .int v2, .int v3, .int (M 84 v3.toNatClampNeg)] [.int v3] M L Q)
            exact wp_iret (by decide +kernel) rfl (hK _ _ _ hP)
          · have hP := hP.1 c_6
            refine wp_seg (pc' := 111) [.iload 4, .i2l, .ldc2_w 49, .ldc2_w 57] (by decide +kernel) (?_ : Wp E (d + 2) 103 111 [.ref 74, .int v1, .int v2, .int v3, .int (M 84 v3.toNatClampNeg)] [.long (Int64.ofNat 57), .long (Int64.ofNat 49), .long ((M 84 v3.toNatClampNeg).toInt64)] M L Q)
            refine wp_callS 94 [.long ((M 84 v3.toNatClampNeg).toInt64), .long (Int64.ofNat 49), .long (Int64.ofNat 57)] (i := 129) (by decide +kernel) (by decide +kernel) (by decide +kernel) rfl rfl rfl (rest := []) rfl rfl ?_
            refine s_X10_in M ((M 84 v3.toNatClampNeg).toInt64) (Int64.ofNat 49) (Int64.ofNat 57)  ?_
            show Wp E (d + 2) 103 114 [.ref 74, .int v1, .int v2, .int v3, .int (M 84 v3.toNatClampNeg)] [.int (f_X10_in M ((M 84 v3.toNatClampNeg).toInt64) (Int64.ofNat 49) (Int64.ofNat 57))] M L Q
            refine wp_ifeq (off := 8) 122 (by decide +kernel) (by decide) (fun c_7 => ?_) (fun c_7 => ?_)
            · have hP := hP.1 c_7
              refine wp_seg (pc' := 123) [.iload 3] (by decide +kernel) (?_ : Wp E (d + 2) 103 123 [.ref 74, .int v1, .int v2, .int v3, .int (M 84 v3.toNatClampNeg)] [.int v3] M L Q)
              exact wp_iret (by decide +kernel) rfl (hK _ _ _ hP)
            · have hP := hP.2 c_7
              refine wp_seg (pc' := 6) [.iconst 0, .istore 1, .goto 0, .iinc 3 1, .goto 0] (by decide +kernel) (?_ : Wp E (d + 2) 103 6 [.ref 74, .int (Int32.ofInt 0), .int v2, .int (v3 + Int32.ofInt 1), .int (M 84 v3.toNatClampNeg)] [] M L Q)
              refine wp_drop (lo := [.ref 74, .int (Int32.ofInt 0), .int v2, .int (v3 + Int32.ofInt 1), .null]) ⟨Or.inr rfl, Or.inr rfl, Or.inr rfl, Or.inr rfl, Or.inl rfl, trivial⟩ ?_
              exact ih (Int32.ofInt 0) v2 (v3 + Int32.ofInt 1) M L hP
        · have hP := hP.1 c_5
          refine wp_seg (pc' := 73) [.iload 4] (by decide +kernel) (?_ : Wp E (d + 2) 103 73 [.ref 74, .int v1, .int v2, .int v3, .int (M 84 v3.toNatClampNeg)] [.int (M 84 v3.toNatClampNeg)] M L Q)
          refine wp_callS 100 [.int (M 84 v3.toNatClampNeg)] (i := 148) (by decide +kernel) (by decide +kernel) (by decide +kernel) rfl rfl rfl (rest := []) rfl rfl ?_
          refine s_X10_isLetter M (M 84 v3.toNatClampNeg)  ?_
          show Wp E (d + 2) 103 76 [.ref 74, .int v1, .int v2, .int v3, .int (M 84 v3.toNatClampNeg)] [.int (f_X10_isLetter M (M 84 v3.toNatClampNeg))] M L Q
          refine wp_ifeq (off := 21) 97 (by decide +kernel) (by decide) (fun c_8 => ?_) (fun c_8 => ?_)
          · have hP := hP.1 c_8
            refine wp_seg (pc' := 99) [.iload 1, .iconst 2] (by decide +kernel) (?_ : Wp E (d + 2) 103 99 [.ref 74, .int v1, .int v2, .int v3, .int (M 84 v3.toNatClampNeg)] [.int (Int32.ofInt 2), .int v1] M L Q)
            refine wp_icmpne (off := 23) 122 (by decide +kernel) (by decide) (fun c_9 => ?_) (fun c_9 => ?_)
            · have hP := hP.2 c_9
              refine wp_seg (pc' := 123) [.iload 3] (by decide +kernel) (?_ : Wp E (d + 2) 103 123 [.ref 74, .int v1, .int v2, .int v3, .int (M 84 v3.toNatClampNeg)] [.int v3] M L Q)
              exact wp_iret (by decide +kernel) rfl (hK _ _ _ hP)
            · have hP := hP.1 c_9
              refine wp_seg (pc' := 111) [.iload 4, .i2l, .ldc2_w 49, .ldc2_w 57] (by decide +kernel) (?_ : Wp E (d + 2) 103 111 [.ref 74, .int v1, .int v2, .int v3, .int (M 84 v3.toNatClampNeg)] [.long (Int64.ofNat 57), .long (Int64.ofNat 49), .long ((M 84 v3.toNatClampNeg).toInt64)] M L Q)
              refine wp_callS 94 [.long ((M 84 v3.toNatClampNeg).toInt64), .long (Int64.ofNat 49), .long (Int64.ofNat 57)] (i := 129) (by decide +kernel) (by decide +kernel) (by decide +kernel) rfl rfl rfl (rest := []) rfl rfl ?_
              refine s_X10_in M ((M 84 v3.toNatClampNeg).toInt64) (Int64.ofNat 49) (Int64.ofNat 57)  ?_
              show Wp E (d + 2) 103 114 [.ref 74, .int v1, .int v2, .int v3, .int (M 84 v3.toNatClampNeg)] [.int (f_X10_in M ((M 84 v3.toNatClampNeg).toInt64) (Int64.ofNat 49) (Int64.ofNat 57))] M L Q
              refine wp_ifeq (off := 8) 122 (by decide +kernel) (by decide) (fun c_10 => ?_) (fun c_10 => ?_)
              · have hP := hP.1 c_10
                refine wp_seg (pc' := 123) [.iload 3] (by decide +kernel) (?_ : Wp E (d + 2) 103 123 [.ref 74, .int v1, .int v2, .int v3, .int (M 84 v3.toNatClampNeg)] [.int v3] M L Q)
                exact wp_iret (by decide +kernel) rfl (hK _ _ _ hP)
              · have hP := hP.2 c_10
                refine wp_seg (pc' := 6) [.iconst 0, .istore 1, .goto 0, .iinc 3 1, .goto 0] (by decide +kernel) (?_ : Wp E (d + 2) 103 6 [.ref 74, .int (Int32.ofInt 0), .int v2, .int (v3 + Int32.ofInt 1), .int (M 84 v3.toNatClampNeg)] [] M L Q)
                refine wp_drop (lo := [.ref 74, .int (Int32.ofInt 0), .int v2, .int (v3 + Int32.ofInt 1), .null]) ⟨Or.inr rfl, Or.inr rfl, Or.inr rfl, Or.inr rfl, Or.inl rfl, trivial⟩ ?_
                exact ih (Int32.ofInt 0) v2 (v3 + Int32.ofInt 1) M L hP
          · have hP := hP.2 c_8
            obtain ⟨a_11, hP⟩ := hP
            refine wp_seg (pc' := 89) [.iload 4, .aload 0, .getfield 655, .iload 3, .iconst 1, .isub, .iaload] (by decide +kernel) (show aok 84 0 (v3 - (Int32.ofInt 1)) ∧ Wp E (d + 2) 103 89 [.ref 74, .int v1, .int v2, .int v3, .int (M 84 v3.toNatClampNeg)] [.int (M 84 ((v3 - (Int32.ofInt 1)).toNatClampNeg)), .int (M 84 v3.toNatClampNeg)] M L Q from ⟨⟨rfl, a_11⟩, ?_⟩)
            refine wp_icmpeq (off := 8) 97 (by decide +kernel) (by decide) (fun c_12 => ?_) (fun c_12 => ?_)
            · have hP := hP.1 c_12
              refine wp_seg (pc' := 99) [.iload 1, .iconst 2] (by decide +kernel) (?_ : Wp E (d + 2) 103 99 [.ref 74, .int v1, .int v2, .int v3, .int (M 84 v3.toNatClampNeg)] [.int (Int32.ofInt 2), .int v1] M L Q)
              refine wp_icmpne (off := 23) 122 (by decide +kernel) (by decide) (fun c_13 => ?_) (fun c_13 => ?_)
              · have hP := hP.2 c_13
                refine wp_seg (pc' := 123) [.iload 3] (by decide +kernel) (?_ : Wp E (d + 2) 103 123 [.ref 74, .int v1, .int v2, .int v3, .int (M 84 v3.toNatClampNeg)] [.int v3] M L Q)
                exact wp_iret (by decide +kernel) rfl (hK _ _ _ hP)
              · have hP := hP.1 c_13
                refine wp_seg (pc' := 111) [.iload 4, .i2l, .ldc2_w 49, .ldc2_w 57] (by decide +kernel) (?_ : Wp E (d + 2) 103 111 [.ref 74, .int v1, .int v2, .int v3, .int (M 84 v3.toNatClampNeg)] [.long (Int64.ofNat 57), .long (Int64.ofNat 49), .long ((M 84 v3.toNatClampNeg).toInt64)] M L Q)
                refine wp_callS 94 [.long ((M 84 v3.toNatClampNeg).toInt64), .long (Int64.ofNat 49), .long (Int64.ofNat 57)] (i := 129) (by decide +kernel) (by decide +kernel) (by decide +kernel) rfl rfl rfl (rest := []) rfl rfl ?_
                refine s_X10_in M ((M 84 v3.toNatClampNeg).toInt64) (Int64.ofNat 49) (Int64.ofNat 57)  ?_
                show Wp E (d + 2) 103 114 [.ref 74, .int v1, .int v2, .int v3, .int (M 84 v3.toNatClampNeg)] [.int (f_X10_in M ((M 84 v3.toNatClampNeg).toInt64) (Int64.ofNat 49) (Int64.ofNat 57))] M L Q
                refine wp_ifeq (off := 8) 122 (by decide +kernel) (by decide) (fun c_14 => ?_) (fun c_14 => ?_)
                · have hP := hP.1 c_14
                  refine wp_seg (pc' := 123) [.iload 3] (by decide +kernel) (?_ : Wp E (d + 2) 103 123 [.ref 74, .int v1, .int v2, .int v3, .int (M 84 v3.toNatClampNeg)] [.int v3] M L Q)
                  exact wp_iret (by decide +kernel) rfl (hK _ _ _ hP)
                · have hP := hP.2 c_14
                  refine wp_seg (pc' := 6) [.iconst 0, .istore 1, .goto 0, .iinc 3 1, .goto 0] (by decide +kernel) (?_ : Wp E (d + 2) 103 6 [.ref 74, .int (Int32.ofInt 0), .int v2, .int (v3 + Int32.ofInt 1), .int (M 84 v3.toNatClampNeg)] [] M L Q)
                  refine wp_drop (lo := [.ref 74, .int (Int32.ofInt 0), .int v2, .int (v3 + Int32.ofInt 1), .null]) ⟨Or.inr rfl, Or.inr rfl, Or.inr rfl, Or.inr rfl, Or.inl rfl, trivial⟩ ?_
                  exact ih (Int32.ofInt 0) v2 (v3 + Int32.ofInt 1) M L hP
            · have hP := hP.2 c_12
              refine wp_seg (pc' := 6) [.iconst 2, .istore 1, .goto 0, .iinc 3 1, .goto 0] (by decide +kernel) (?_ : Wp E (d + 2) 103 6 [.ref 74, .int (Int32.ofInt 2), .int v2, .int (v3 + Int32.ofInt 1), .int (M 84 v3.toNatClampNeg)] [] M L Q)
              refine wp_drop (lo := [.ref 74, .int (Int32.ofInt 2), .int v2, .int (v3 + Int32.ofInt 1), .null]) ⟨Or.inr rfl, Or.inr rfl, Or.inr rfl, Or.inr rfl, Or.inl rfl, trivial⟩ ?_
              exact ih (Int32.ofInt 2) v2 (v3 + Int32.ofInt 1) M L hP
      · have hP := hP.1 c_4
        refine wp_seg (pc' := 29) [.iload 2, .iconst 20] (by decide +kernel) (?_ : Wp E (d + 2) 103 29 [.ref 74, .int v1, .int v2, .int v3, .int (M 84 v3.toNatClampNeg)] [.int (Int32.ofInt 20), .int v2] M L Q)
        refine wp_icmpge (off := 37) 66 (by decide +kernel) (by decide) (fun c_15 => ?_) (fun c_15 => ?_)
        · have hP := hP.1 c_15
          refine wp_seg (pc' := 68) [.iload 1, .iconst 1] (by decide +kernel) (?_ : Wp E (d + 2) 103 68 [.ref 74, .int v1, .int v2, .int v3, .int (M 84 v3.toNatClampNeg)] [.int (Int32.ofInt 1), .int v1] M L Q)
          refine wp_icmpne (off := 29) 97 (by decide +kernel) (by decide) (fun c_16 => ?_) (fun c_16 => ?_)
          · have hP := hP.2 c_16
            refine wp_seg (pc' := 99) [.iload 1, .iconst 2] (by decide +kernel) (?_ : Wp E (d + 2) 103 99 [.ref 74, .int v1, .int v2, .int v3, .int (M 84 v3.toNatClampNeg)] [.int (Int32.ofInt 2), .int v1] M L Q)
            refine wp_icmpne (off := 23) 122 (by decide +kernel) (by decide) (fun c_17 => ?_) (fun c_17 => ?_)
            · have hP := hP.2 c_17
              refine wp_seg (pc' := 123) [.iload 3] (by decide +kernel) (?_ : Wp E (d + 2) 103 123 [.ref 74, .int v1, .int v2, .int v3, .int (M 84 v3.toNatClampNeg)] [.int v3] M L Q)
              exact wp_iret (by decide +kernel) rfl (hK _ _ _ hP)
            · have hP := hP.1 c_17
              refine wp_seg (pc' := 111) [.iload 4, .i2l, .ldc2_w 49, .ldc2_w 57] (by decide +kernel) (?_ : Wp E (d + 2) 103 111 [.ref 74, .int v1, .int v2, .int v3, .int (M 84 v3.toNatClampNeg)] [.long (Int64.ofNat 57), .long (Int64.ofNat 49), .long ((M 84 v3.toNatClampNeg).toInt64)] M L Q)
              refine wp_callS 94 [.long ((M 84 v3.toNatClampNeg).toInt64), .long (Int64.ofNat 49), .long (Int64.ofNat 57)] (i := 129) (by decide +kernel) (by decide +kernel) (by decide +kernel) rfl rfl rfl (rest := []) rfl rfl ?_
              refine s_X10_in M ((M 84 v3.toNatClampNeg).toInt64) (Int64.ofNat 49) (Int64.ofNat 57)  ?_
              show Wp E (d + 2) 103 114 [.ref 74, .int v1, .int v2, .int v3, .int (M 84 v3.toNatClampNeg)] [.int (f_X10_in M ((M 84 v3.toNatClampNeg).toInt64) (Int64.ofNat 49) (Int64.ofNat 57))] M L Q
              refine wp_ifeq (off := 8) 122 (by decide +kernel) (by decide) (fun c_18 => ?_) (fun c_18 => ?_)
              · have hP := hP.1 c_18
                refine wp_seg (pc' := 123) [.iload 3] (by decide +kernel) (?_ : Wp E (d + 2) 103 123 [.ref 74, .int v1, .int v2, .int v3, .int (M 84 v3.toNatClampNeg)] [.int v3] M L Q)
                exact wp_iret (by decide +kernel) rfl (hK _ _ _ hP)
              · have hP := hP.2 c_18
                refine wp_seg (pc' := 6) [.iconst 0, .istore 1, .goto 0, .iinc 3 1, .goto 0] (by decide +kernel) (?_ : Wp E (d + 2) 103 6 [.ref 74, .int (Int32.ofInt 0), .int v2, .int (v3 + Int32.ofInt 1), .int (M 84 v3.toNatClampNeg)] [] M L Q)
                refine wp_drop (lo := [.ref 74, .int (Int32.ofInt 0), .int v2, .int (v3 + Int32.ofInt 1), .null]) ⟨Or.inr rfl, Or.inr rfl, Or.inr rfl, Or.inr rfl, Or.inl rfl, trivial⟩ ?_
                exact ih (Int32.ofInt 0) v2 (v3 + Int32.ofInt 1) M L hP
          · have hP := hP.1 c_16
            refine wp_seg (pc' := 73) [.iload 4] (by decide +kernel) (?_ : Wp E (d + 2) 103 73 [.ref 74, .int v1, .int v2, .int v3, .int (M 84 v3.toNatClampNeg)] [.int (M 84 v3.toNatClampNeg)] M L Q)
            refine wp_callS 100 [.int (M 84 v3.toNatClampNeg)] (i := 148) (by decide +kernel) (by decide +kernel) (by decide +kernel) rfl rfl rfl (rest := []) rfl rfl ?_
            refine s_X10_isLetter M (M 84 v3.toNatClampNeg)  ?_
            show Wp E (d + 2) 103 76 [.ref 74, .int v1, .int v2, .int v3, .int (M 84 v3.toNatClampNeg)] [.int (f_X10_isLetter M (M 84 v3.toNatClampNeg))] M L Q
            refine wp_ifeq (off := 21) 97 (by decide +kernel) (by decide) (fun c_19 => ?_) (fun c_19 => ?_)
            · have hP := hP.1 c_19
              refine wp_seg (pc' := 99) [.iload 1, .iconst 2] (by decide +kernel) (?_ : Wp E (d + 2) 103 99 [.ref 74, .int v1, .int v2, .int v3, .int (M 84 v3.toNatClampNeg)] [.int (Int32.ofInt 2), .int v1] M L Q)
              refine wp_icmpne (off := 23) 122 (by decide +kernel) (by decide) (fun c_20 => ?_) (fun c_20 => ?_)
              · have hP := hP.2 c_20
                refine wp_seg (pc' := 123) [.iload 3] (by decide +kernel) (?_ : Wp E (d + 2) 103 123 [.ref 74, .int v1, .int v2, .int v3, .int (M 84 v3.toNatClampNeg)] [.int v3] M L Q)
                exact wp_iret (by decide +kernel) rfl (hK _ _ _ hP)
              · have hP := hP.1 c_20
                refine wp_seg (pc' := 111) [.iload 4, .i2l, .ldc2_w 49, .ldc2_w 57] (by decide +kernel) (?_ : Wp E (d + 2) 103 111 [.ref 74, .int v1, .int v2, .int v3, .int (M 84 v3.toNatClampNeg)] [.long (Int64.ofNat 57), .long (Int64.ofNat 49), .long ((M 84 v3.toNatClampNeg).toInt64)] M L Q)
                refine wp_callS 94 [.long ((M 84 v3.toNatClampNeg).toInt64), .long (Int64.ofNat 49), .long (Int64.ofNat 57)] (i := 129) (by decide +kernel) (by decide +kernel) (by decide +kernel) rfl rfl rfl (rest := []) rfl rfl ?_
                refine s_X10_in M ((M 84 v3.toNatClampNeg).toInt64) (Int64.ofNat 49) (Int64.ofNat 57)  ?_
                show Wp E (d + 2) 103 114 [.ref 74, .int v1, .int v2, .int v3, .int (M 84 v3.toNatClampNeg)] [.int (f_X10_in M ((M 84 v3.toNatClampNeg).toInt64) (Int64.ofNat 49) (Int64.ofNat 57))] M L Q
                refine wp_ifeq (off := 8) 122 (by decide +kernel) (by decide) (fun c_21 => ?_) (fun c_21 => ?_)
                · have hP := hP.1 c_21
                  refine wp_seg (pc' := 123) [.iload 3] (by decide +kernel) (?_ : Wp E (d + 2) 103 123 [.ref 74, .int v1, .int v2, .int v3, .int (M 84 v3.toNatClampNeg)] [.int v3] M L Q)
                  exact wp_iret (by decide +kernel) rfl (hK _ _ _ hP)
                · have hP := hP.2 c_21
                  refine wp_seg (pc' := 6) [.iconst 0, .istore 1, .goto 0, .iinc 3 1, .goto 0] (by decide +kernel) (?_ : Wp E (d + 2) 103 6 [.ref 74, .int (Int32.ofInt 0), .int v2, .int (v3 + Int32.ofInt 1), .int (M 84 v3.toNatClampNeg)] [] M L Q)
                  refine wp_drop (lo := [.ref 74, .int (Int32.ofInt 0), .int v2, .int (v3 + Int32.ofInt 1), .null]) ⟨Or.inr rfl, Or.inr rfl, Or.inr rfl, Or.inr rfl, Or.inl rfl, trivial⟩ ?_
                  exact ih (Int32.ofInt 0) v2 (v3 + Int32.ofInt 1) M L hP
            · have hP := hP.2 c_19
              obtain ⟨a_22, hP⟩ := hP
              refine wp_seg (pc' := 89) [.iload 4, .aload 0, .getfield 655, .iload 3, .iconst 1, .isub, .iaload] (by decide +kernel) (show aok 84 0 (v3 - (Int32.ofInt 1)) ∧ Wp E (d + 2) 103 89 [.ref 74, .int v1, .int v2, .int v3, .int (M 84 v3.toNatClampNeg)] [.int (M 84 ((v3 - (Int32.ofInt 1)).toNatClampNeg)), .int (M 84 v3.toNatClampNeg)] M L Q from ⟨⟨rfl, a_22⟩, ?_⟩)
              refine wp_icmpeq (off := 8) 97 (by decide +kernel) (by decide) (fun c_23 => ?_) (fun c_23 => ?_)
              · have hP := hP.1 c_23
                refine wp_seg (pc' := 99) [.iload 1, .iconst 2] (by decide +kernel) (?_ : Wp E (d + 2) 103 99 [.ref 74, .int v1, .int v2, .int v3, .int (M 84 v3.toNatClampNeg)] [.int (Int32.ofInt 2), .int v1] M L Q)
                refine wp_icmpne (off := 23) 122 (by decide +kernel) (by decide) (fun c_24 => ?_) (fun c_24 => ?_)
                · have hP := hP.2 c_24
                  refine wp_seg (pc' := 123) [.iload 3] (by decide +kernel) (?_ : Wp E (d + 2) 103 123 [.ref 74, .int v1, .int v2, .int v3, .int (M 84 v3.toNatClampNeg)] [.int v3] M L Q)
                  exact wp_iret (by decide +kernel) rfl (hK _ _ _ hP)
                · have hP := hP.1 c_24
                  refine wp_seg (pc' := 111) [.iload 4, .i2l, .ldc2_w 49, .ldc2_w 57] (by decide +kernel) (?_ : Wp E (d + 2) 103 111 [.ref 74, .int v1, .int v2, .int v3, .int (M 84 v3.toNatClampNeg)] [.long (Int64.ofNat 57), .long (Int64.ofNat 49), .long ((M 84 v3.toNatClampNeg).toInt64)] M L Q)
                  refine wp_callS 94 [.long ((M 84 v3.toNatClampNeg).toInt64), .long (Int64.ofNat 49), .long (Int64.ofNat 57)] (i := 129) (by decide +kernel) (by decide +kernel) (by decide +kernel) rfl rfl rfl (rest := []) rfl rfl ?_
                  refine s_X10_in M ((M 84 v3.toNatClampNeg).toInt64) (Int64.ofNat 49) (Int64.ofNat 57)  ?_
                  show Wp E (d + 2) 103 114 [.ref 74, .int v1, .int v2, .int v3, .int (M 84 v3.toNatClampNeg)] [.int (f_X10_in M ((M 84 v3.toNatClampNeg).toInt64) (Int64.ofNat 49) (Int64.ofNat 57))] M L Q
                  refine wp_ifeq (off := 8) 122 (by decide +kernel) (by decide) (fun c_25 => ?_) (fun c_25 => ?_)
                  · have hP := hP.1 c_25
                    refine wp_seg (pc' := 123) [.iload 3] (by decide +kernel) (?_ : Wp E (d + 2) 103 123 [.ref 74, .int v1, .int v2, .int v3, .int (M 84 v3.toNatClampNeg)] [.int v3] M L Q)
                    exact wp_iret (by decide +kernel) rfl (hK _ _ _ hP)
                  · have hP := hP.2 c_25
                    refine wp_seg (pc' := 6) [.iconst 0, .istore 1, .goto 0, .iinc 3 1, .goto 0] (by decide +kernel) (?_ : Wp E (d + 2) 103 6 [.ref 74, .int (Int32.ofInt 0), .int v2, .int (v3 + Int32.ofInt 1), .int (M 84 v3.toNatClampNeg)] [] M L Q)
                    refine wp_drop (lo := [.ref 74, .int (Int32.ofInt 0), .int v2, .int (v3 + Int32.ofInt 1), .null]) ⟨Or.inr rfl, Or.inr rfl, Or.inr rfl, Or.inr rfl, Or.inl rfl, trivial⟩ ?_
                    exact ih (Int32.ofInt 0) v2 (v3 + Int32.ofInt 1) M L hP
              · have hP := hP.2 c_23
                refine wp_seg (pc' := 6) [.iconst 2, .istore 1, .goto 0, .iinc 3 1, .goto 0] (by decide +kernel) (?_ : Wp E (d + 2) 103 6 [.ref 74, .int (Int32.ofInt 2), .int v2, .int (v3 + Int32.ofInt 1), .int (M 84 v3.toNatClampNeg)] [] M L Q)
                refine wp_drop (lo := [.ref 74, .int (Int32.ofInt 2), .int v2, .int (v3 + Int32.ofInt 1), .null]) ⟨Or.inr rfl, Or.inr rfl, Or.inr rfl, Or.inr rfl, Or.inl rfl, trivial⟩ ?_
                exact ih (Int32.ofInt 2) v2 (v3 + Int32.ofInt 1) M L hP
        · have hP := hP.2 c_15
          refine wp_seg (pc' := 34) [.iload 4] (by decide +kernel) (?_ : Wp E (d + 2) 103 34 [.ref 74, .int v1, .int v2, .int v3, .int (M 84 v3.toNatClampNeg)] [.int (M 84 v3.toNatClampNeg)] M L Q)
          refine wp_callS 100 [.int (M 84 v3.toNatClampNeg)] (i := 148) (by decide +kernel) (by decide +kernel) (by decide +kernel) rfl rfl rfl (rest := []) rfl rfl ?_
          refine s_X10_isLetter M (M 84 v3.toNatClampNeg)  ?_
          show Wp E (d + 2) 103 37 [.ref 74, .int v1, .int v2, .int v3, .int (M 84 v3.toNatClampNeg)] [.int (f_X10_isLetter M (M 84 v3.toNatClampNeg))] M L Q
          refine wp_ifne (off := 10) 47 (by decide +kernel) (by decide) (fun c_26 => ?_) (fun c_26 => ?_)
          · have hP := hP.2 c_26
            refine wp_seg (pc' := 54) [.iinc 2 1, .iload 4, .iconst 46] (by decide +kernel) (?_ : Wp E (d + 2) 103 54 [.ref 74, .int v1, .int (v2 + Int32.ofInt 1), .int v3, .int (M 84 v3.toNatClampNeg)] [.int (Int32.ofInt 46), .int (M 84 v3.toNatClampNeg)] M L Q)
            refine wp_icmpne (off := 7) 61 (by decide +kernel) (by decide) (fun c_27 => ?_) (fun c_27 => ?_)
            · have hP := hP.2 c_27
              refine wp_seg (pc' := 6) [.iconst 1, .istore 1, .goto 0, .iinc 3 1, .goto 0] (by decide +kernel) (?_ : Wp E (d + 2) 103 6 [.ref 74, .int (Int32.ofInt 1), .int (v2 + Int32.ofInt 1), .int (v3 + Int32.ofInt 1), .int (M 84 v3.toNatClampNeg)] [] M L Q)
              refine wp_drop (lo := [.ref 74, .int (Int32.ofInt 1), .int (v2 + Int32.ofInt 1), .int (v3 + Int32.ofInt 1), .null]) ⟨Or.inr rfl, Or.inr rfl, Or.inr rfl, Or.inr rfl, Or.inl rfl, trivial⟩ ?_
              exact ih (Int32.ofInt 1) (v2 + Int32.ofInt 1) (v3 + Int32.ofInt 1) M L hP
            · have hP := hP.1 c_27
              refine wp_seg (pc' := 6) [.iconst 2, .goto 0, .istore 1, .goto 0, .iinc 3 1, .goto 0] (by decide +kernel) (?_ : Wp E (d + 2) 103 6 [.ref 74, .int (Int32.ofInt 2), .int (v2 + Int32.ofInt 1), .int (v3 + Int32.ofInt 1), .int (M 84 v3.toNatClampNeg)] [] M L Q)
              refine wp_drop (lo := [.ref 74, .int (Int32.ofInt 2), .int (v2 + Int32.ofInt 1), .int (v3 + Int32.ofInt 1), .null]) ⟨Or.inr rfl, Or.inr rfl, Or.inr rfl, Or.inr rfl, Or.inl rfl, trivial⟩ ?_
              exact ih (Int32.ofInt 2) (v2 + Int32.ofInt 1) (v3 + Int32.ofInt 1) M L hP
          · have hP := hP.1 c_26
            refine wp_seg (pc' := 44) [.iload 4, .iconst 46] (by decide +kernel) (?_ : Wp E (d + 2) 103 44 [.ref 74, .int v1, .int v2, .int v3, .int (M 84 v3.toNatClampNeg)] [.int (Int32.ofInt 46), .int (M 84 v3.toNatClampNeg)] M L Q)
            refine wp_icmpne (off := 22) 66 (by decide +kernel) (by decide) (fun c_28 => ?_) (fun c_28 => ?_)
            · have hP := hP.2 c_28
              refine wp_seg (pc' := 68) [.iload 1, .iconst 1] (by decide +kernel) (?_ : Wp E (d + 2) 103 68 [.ref 74, .int v1, .int v2, .int v3, .int (M 84 v3.toNatClampNeg)] [.int (Int32.ofInt 1), .int v1] M L Q)
              refine wp_icmpne (off := 29) 97 (by decide +kernel) (by decide) (fun c_29 => ?_) (fun c_29 => ?_)
              · have hP := hP.2 c_29
                refine wp_seg (pc' := 99) [.iload 1, .iconst 2] (by decide +kernel) (?_ : Wp E (d + 2) 103 99 [.ref 74, .int v1, .int v2, .int v3, .int (M 84 v3.toNatClampNeg)] [.int (Int32.ofInt 2), .int v1] M L Q)
                refine wp_icmpne (off := 23) 122 (by decide +kernel) (by decide) (fun c_30 => ?_) (fun c_30 => ?_)
                · have hP := hP.2 c_30
                  refine wp_seg (pc' := 123) [.iload 3] (by decide +kernel) (?_ : Wp E (d + 2) 103 123 [.ref 74, .int v1, .int v2, .int v3, .int (M 84 v3.toNatClampNeg)] [.int v3] M L Q)
                  exact wp_iret (by decide +kernel) rfl (hK _ _ _ hP)
                · have hP := hP.1 c_30
                  refine wp_seg (pc' := 111) [.iload 4, .i2l, .ldc2_w 49, .ldc2_w 57] (by decide +kernel) (?_ : Wp E (d + 2) 103 111 [.ref 74, .int v1, .int v2, .int v3, .int (M 84 v3.toNatClampNeg)] [.long (Int64.ofNat 57), .long (Int64.ofNat 49), .long ((M 84 v3.toNatClampNeg).toInt64)] M L Q)
                  refine wp_callS 94 [.long ((M 84 v3.toNatClampNeg).toInt64), .long (Int64.ofNat 49), .long (Int64.ofNat 57)] (i := 129) (by decide +kernel) (by decide +kernel) (by decide +kernel) rfl rfl rfl (rest := []) rfl rfl ?_
                  refine s_X10_in M ((M 84 v3.toNatClampNeg).toInt64) (Int64.ofNat 49) (Int64.ofNat 57)  ?_
                  show Wp E (d + 2) 103 114 [.ref 74, .int v1, .int v2, .int v3, .int (M 84 v3.toNatClampNeg)] [.int (f_X10_in M ((M 84 v3.toNatClampNeg).toInt64) (Int64.ofNat 49) (Int64.ofNat 57))] M L Q
                  refine wp_ifeq (off := 8) 122 (by decide +kernel) (by decide) (fun c_31 => ?_) (fun c_31 => ?_)
                  · have hP := hP.1 c_31
                    refine wp_seg (pc' := 123) [.iload 3] (by decide +kernel) (?_ : Wp E (d + 2) 103 123 [.ref 74, .int v1, .int v2, .int v3, .int (M 84 v3.toNatClampNeg)] [.int v3] M L Q)
                    exact wp_iret (by decide +kernel) rfl (hK _ _ _ hP)
                  · have hP := hP.2 c_31
                    refine wp_seg (pc' := 6) [.iconst 0, .istore 1, .goto 0, .iinc 3 1, .goto 0] (by decide +kernel) (?_ : Wp E (d + 2) 103 6 [.ref 74, .int (Int32.ofInt 0), .int v2, .int (v3 + Int32.ofInt 1), .int (M 84 v3.toNatClampNeg)] [] M L Q)
                    refine wp_drop (lo := [.ref 74, .int (Int32.ofInt 0), .int v2, .int (v3 + Int32.ofInt 1), .null]) ⟨Or.inr rfl, Or.inr rfl, Or.inr rfl, Or.inr rfl, Or.inl rfl, trivial⟩ ?_
                    exact ih (Int32.ofInt 0) v2 (v3 + Int32.ofInt 1) M L hP
              · have hP := hP.1 c_29
                refine wp_seg (pc' := 73) [.iload 4] (by decide +kernel) (?_ : Wp E (d + 2) 103 73 [.ref 74, .int v1, .int v2, .int v3, .int (M 84 v3.toNatClampNeg)] [.int (M 84 v3.toNatClampNeg)] M L Q)
                refine wp_callS 100 [.int (M 84 v3.toNatClampNeg)] (i := 148) (by decide +kernel) (by decide +kernel) (by decide +kernel) rfl rfl rfl (rest := []) rfl rfl ?_
                refine s_X10_isLetter M (M 84 v3.toNatClampNeg)  ?_
                show Wp E (d + 2) 103 76 [.ref 74, .int v1, .int v2, .int v3, .int (M 84 v3.toNatClampNeg)] [.int (f_X10_isLetter M (M 84 v3.toNatClampNeg))] M L Q
                refine wp_ifeq (off := 21) 97 (by decide +kernel) (by decide) (fun c_32 => ?_) (fun c_32 => ?_)
                · skip
                  refine wp_seg (pc' := 99) [.iload 1, .iconst 2] (by decide +kernel) (?_ : Wp E (d + 2) 103 99 [.ref 74, .int v1, .int v2, .int v3, .int (M 84 v3.toNatClampNeg)] [.int (Int32.ofInt 2), .int v1] M L Q)
                  refine wp_icmpne (off := 23) 122 (by decide +kernel) (by decide) (fun c_33 => ?_) (fun c_33 => ?_)
                  · have hP := hP.2 c_33
                    refine wp_seg (pc' := 123) [.iload 3] (by decide +kernel) (?_ : Wp E (d + 2) 103 123 [.ref 74, .int v1, .int v2, .int v3, .int (M 84 v3.toNatClampNeg)] [.int v3] M L Q)
                    exact wp_iret (by decide +kernel) rfl (hK _ _ _ hP)
                  · have hP := hP.1 c_33
                    refine wp_seg (pc' := 111) [.iload 4, .i2l, .ldc2_w 49, .ldc2_w 57] (by decide +kernel) (?_ : Wp E (d + 2) 103 111 [.ref 74, .int v1, .int v2, .int v3, .int (M 84 v3.toNatClampNeg)] [.long (Int64.ofNat 57), .long (Int64.ofNat 49), .long ((M 84 v3.toNatClampNeg).toInt64)] M L Q)
                    refine wp_callS 94 [.long ((M 84 v3.toNatClampNeg).toInt64), .long (Int64.ofNat 49), .long (Int64.ofNat 57)] (i := 129) (by decide +kernel) (by decide +kernel) (by decide +kernel) rfl rfl rfl (rest := []) rfl rfl ?_
                    refine s_X10_in M ((M 84 v3.toNatClampNeg).toInt64) (Int64.ofNat 49) (Int64.ofNat 57)  ?_
                    show Wp E (d + 2) 103 114 [.ref 74, .int v1, .int v2, .int v3, .int (M 84 v3.toNatClampNeg)] [.int (f_X10_in M ((M 84 v3.toNatClampNeg).toInt64) (Int64.ofNat 49) (Int64.ofNat 57))] M L Q
                    refine wp_ifeq (off := 8) 122 (by decide +kernel) (by decide) (fun c_34 => ?_) (fun c_34 => ?_)
                    · have hP := hP.1 c_34
                      refine wp_seg (pc' := 123) [.iload 3] (by decide +kernel) (?_ : Wp E (d + 2) 103 123 [.ref 74, .int v1, .int v2, .int v3, .int (M 84 v3.toNatClampNeg)] [.int v3] M L Q)
                      exact wp_iret (by decide +kernel) rfl (hK _ _ _ hP)
                    · have hP := hP.2 c_34
                      refine wp_seg (pc' := 6) [.iconst 0, .istore 1, .goto 0, .iinc 3 1, .goto 0] (by decide +kernel) (?_ : Wp E (d + 2) 103 6 [.ref 74, .int (Int32.ofInt 0), .int v2, .int (v3 + Int32.ofInt 1), .int (M 84 v3.toNatClampNeg)] [] M L Q)
                      refine wp_drop (lo := [.ref 74, .int (Int32.ofInt 0), .int v2, .int (v3 + Int32.ofInt 1), .null]) ⟨Or.inr rfl, Or.inr rfl, Or.inr rfl, Or.inr rfl, Or.inl rfl, trivial⟩ ?_
                      exact ih (Int32.ofInt 0) v2 (v3 + Int32.ofInt 1) M L hP
                · exact absurd c_26 c_32
            · have hP := hP.1 c_28
              refine wp_seg (pc' := 54) [.iinc 2 1, .iload 4, .iconst 46] (by decide +kernel) (?_ : Wp E (d + 2) 103 54 [.ref 74, .int v1, .int (v2 + Int32.ofInt 1), .int v3, .int (M 84 v3.toNatClampNeg)] [.int (Int32.ofInt 46), .int (M 84 v3.toNatClampNeg)] M L Q)
              refine wp_icmpne (off := 7) 61 (by decide +kernel) (by decide) (fun c_35 => ?_) (fun c_35 => ?_)
              · exact absurd c_28 c_35
              · skip
                refine wp_seg (pc' := 6) [.iconst 2, .goto 0, .istore 1, .goto 0, .iinc 3 1, .goto 0] (by decide +kernel) (?_ : Wp E (d + 2) 103 6 [.ref 74, .int (Int32.ofInt 2), .int (v2 + Int32.ofInt 1), .int (v3 + Int32.ofInt 1), .int (M 84 v3.toNatClampNeg)] [] M L Q)
                refine wp_drop (lo := [.ref 74, .int (Int32.ofInt 2), .int (v2 + Int32.ofInt 1), .int (v3 + Int32.ofInt 1), .null]) ⟨Or.inr rfl, Or.inr rfl, Or.inr rfl, Or.inr rfl, Or.inl rfl, trivial⟩ ?_
                exact ih (Int32.ofInt 2) (v2 + Int32.ofInt 1) (v3 + Int32.ofInt 1) M L hP
def P_X10_faultOfDay (M : Mem) (L : LMem) (K : Int32 → Mem → LMem → Prop) : Prop := PL_X10_faultOfDay_6 K 100000 (Int32.ofInt 0) (Int32.ofInt 0) (Int32.ofInt 0) M L
theorem t_X10_faultOfDay {E : VE} {d : Nat} {Q : QQ} {K : Int32 → Mem → LMem → Prop} {M : Mem} {L : LMem} (hP : P_X10_faultOfDay M L K) (hK : ∀ (v : Int32) (M : Mem) (L : LMem), K v M L → Q (some (.int v)) M L) : Wp E (d + 2) 103 0 [.ref 74, .null, .null, .null, .null] [] M L Q := by
  unfold P_X10_faultOfDay at hP
  refine wp_seg (pc' := 6) [.iconst 0, .istore 1, .iconst 0, .istore 2, .iconst 0, .istore 3] (by decide +kernel) (?_ : Wp E (d + 2) 103 6 [.ref 74, .int (Int32.ofInt 0), .int (Int32.ofInt 0), .int (Int32.ofInt 0), .null] [] M L Q)
  exact tl_X10_faultOfDay_6 hK 100000 (Int32.ofInt 0) (Int32.ofInt 0) (Int32.ofInt 0) M L hP

def P_X10_fault (x1 : Int32) (M : Mem) (L : LMem) (K : Int32 → Mem → LMem → Prop) : Prop := ((x1 = 0 → P_X10_faultOfHouse M L (fun v_8 M_6 L_7 => K v_8 M_6 L_7)) ∧ (¬ (x1 = 0) → ((x1 = (Int32.ofInt 1) → P_X10_faultOfDay M L (fun v_5 M_3 L_4 => K v_5 M_3 L_4)) ∧ (¬ (x1 = (Int32.ofInt 1)) → K (Int32.ofInt (-2)) M L))))
theorem t_X10_fault {E : VE} {d : Nat} {Q : QQ} {K : Int32 → Mem → LMem → Prop} {x1 : Int32} {M : Mem} {L : LMem} (hP : P_X10_fault x1 M L K) (hK : ∀ (v : Int32) (M : Mem) (L : LMem), K v M L → Q (some (.int v)) M L) : Wp E (d + 3) 104 0 [.ref 74, .int x1] [] M L Q := by
  unfold P_X10_fault at hP
  refine wp_seg (pc' := 1) [.iload 1] (by decide +kernel) (?_ : Wp E (d + 3) 104 1 [.ref 74, .int x1] [.int x1] M L Q)
  refine wp_ifne (off := 10) 11 (by decide +kernel) (by decide) (fun c_1 => ?_) (fun c_1 => ?_)
  · have hP := hP.2 c_1
    refine wp_seg (pc' := 13) [.iload 1, .iconst 1] (by decide +kernel) (?_ : Wp E (d + 3) 104 13 [.ref 74, .int x1] [.int (Int32.ofInt 1), .int x1] M L Q)
    refine wp_icmpne (off := 10) 23 (by decide +kernel) (by decide) (fun c_2 => ?_) (fun c_2 => ?_)
    · have hP := hP.2 c_2
      refine wp_seg (pc' := 25) [.iconst (-2)] (by decide +kernel) (?_ : Wp E (d + 3) 104 25 [.ref 74, .int x1] [.int (Int32.ofInt (-2))] M L Q)
      exact wp_iret (by decide +kernel) rfl (hK _ _ _ hP)
    · have hP := hP.1 c_2
      refine wp_seg (pc' := 17) [.aload 0] (by decide +kernel) (?_ : Wp E (d + 3) 104 17 [.ref 74, .int x1] [.ref 74] M L Q)
      refine wp_callV 103 74 [] (i := 162) (by decide +kernel) (by decide +kernel) (by decide +kernel) (by decide +kernel) rfl rfl rfl (rest := []) rfl rfl ?_
      refine t_X10_faultOfDay hP (fun v_5 M_3 L_4 hP => ?_)
      show Wp E (d + 3) 104 20 [.ref 74, .int x1] [.int v_5] M_3 L_4 Q
      refine wp_seg (pc' := 25) [.goto 0] (by decide +kernel) (?_ : Wp E (d + 3) 104 25 [.ref 74, .int x1] [.int v_5] M_3 L_4 Q)
      exact wp_iret (by decide +kernel) rfl (hK _ _ _ hP)
  · have hP := hP.1 c_1
    refine wp_seg (pc' := 5) [.aload 0] (by decide +kernel) (?_ : Wp E (d + 3) 104 5 [.ref 74, .int x1] [.ref 74] M L Q)
    refine wp_callV 102 74 [] (i := 158) (by decide +kernel) (by decide +kernel) (by decide +kernel) (by decide +kernel) rfl rfl rfl (rest := []) rfl rfl ?_
    refine t_X10_faultOfHouse hP (fun v_8 M_6 L_7 hP => ?_)
    show Wp E (d + 3) 104 8 [.ref 74, .int x1] [.int v_8] M_6 L_7 Q
    refine wp_seg (pc' := 25) [.goto 0] (by decide +kernel) (?_ : Wp E (d + 3) 104 25 [.ref 74, .int x1] [.int v_8] M_6 L_7 Q)
    exact wp_iret (by decide +kernel) rfl (hK _ _ _ hP)

def PL_X10_openAll_9 (K : Mem → LMem → Prop)  : Nat → Int32 → Mem → LMem → Prop
  | 0, _, _, _ => False
  | n_ + 1, v1, M, L => (((M 74 4) ≤ v1 → K (mput M 74 14 (Int32.ofInt 0)) L) ∧ (¬ ((M 74 4) ≤ v1) → (vp_in v1 13 ∧ (((M 77 v1.toNatClampNeg) = (Int32.ofInt 120) → PL_X10_openAll_9 K n_ (v1 + Int32.ofInt 1) (mput M 74 13 ((M 74 13) ||| (Int32.ofInt 0))) L) ∧ (¬ ((M 77 v1.toNatClampNeg) = (Int32.ofInt 120)) → PL_X10_openAll_9 K n_ (v1 + Int32.ofInt 1) (mput M 74 13 ((M 74 13) ||| ((Int32.ofInt 1) <<< (v1 &&& 31)))) L)))))
theorem tl_X10_openAll_9 {E : VE} {d : Nat} {Q : QQ} {K : Mem → LMem → Prop}  (hK : ∀ (M : Mem) (L : LMem), K M L → Q none M L)  : ∀ (n_ : Nat) (v1 : Int32) (M : Mem) (L : LMem), PL_X10_openAll_9 K n_ v1 M L → Wp E d 105 9 [.ref 74, .int v1] [] M L Q := by
  intro n_
  induction n_ with
  | zero => intro v1 M L hP; exact False.elim hP
  | succ n_ ih =>
    intro v1 M L hP
    unfold PL_X10_openAll_9 at hP
    refine wp_seg (pc' := 14) [.iload 1, .aload 0, .getfield 644] (by decide +kernel) (?_ : Wp E d 105 14 [.ref 74, .int v1] [.int (M 74 4), .int v1] M L Q)
    refine wp_icmpge (off := 36) 50 (by decide +kernel) (by decide) (fun c_1 => ?_) (fun c_1 => ?_)
    · have hP := hP.1 c_1
      refine wp_seg (pc' := 55) [.aload 0, .iconst 0, .putfield 654] (by decide +kernel) (?_ : Wp E d 105 55 [.ref 74, .int v1] [] (mput M 74 14 (Int32.ofInt 0)) L Q)
      exact wp_vret (by decide +kernel) rfl (hK _ _ hP)
    · have hP := hP.2 c_1
      obtain ⟨a_2, hP⟩ := hP
      refine wp_seg (pc' := 28) [.aload 0, .dup, .getfield 653, .aload 0, .getfield 642, .iload 1, .iaload] (by decide +kernel) (show aok 77 0 v1 ∧ Wp E d 105 28 [.ref 74, .int v1] [.int (M 77 v1.toNatClampNeg), .int (M 74 13), .ref 74] M L Q from ⟨⟨rfl, a_2⟩, ?_⟩)
      refine wp_seg (pc' := 30) [.iconst 120] (by decide +kernel) (?_ : Wp E d 105 30 [.ref 74, .int v1] [.int (Int32.ofInt 120), .int (M 77 v1.toNatClampNeg), .int (M 74 13), .ref 74] M L Q)
      refine wp_icmpne (off := 7) 37 (by decide +kernel) (by decide) (fun c_3 => ?_) (fun c_3 => ?_)
      · have hP := hP.2 c_3
        refine wp_seg (pc' := 9) [.iconst 1, .iload 1, .ishl, .ior, .putfield 653, .iinc 1 1, .goto 0] (by decide +kernel) (?_ : Wp E d 105 9 [.ref 74, .int (v1 + Int32.ofInt 1)] [] (mput M 74 13 ((M 74 13) ||| ((Int32.ofInt 1) <<< (v1 &&& 31)))) L Q)
        exact ih (v1 + Int32.ofInt 1) (mput M 74 13 ((M 74 13) ||| ((Int32.ofInt 1) <<< (v1 &&& 31)))) L hP
      · have hP := hP.1 c_3
        refine wp_seg (pc' := 9) [.iconst 0, .goto 0, .ior, .putfield 653, .iinc 1 1, .goto 0] (by decide +kernel) (?_ : Wp E d 105 9 [.ref 74, .int (v1 + Int32.ofInt 1)] [] (mput M 74 13 ((M 74 13) ||| (Int32.ofInt 0))) L Q)
        exact ih (v1 + Int32.ofInt 1) (mput M 74 13 ((M 74 13) ||| (Int32.ofInt 0))) L hP
def P_X10_openAll (M : Mem) (L : LMem) (K : Mem → LMem → Prop) : Prop := PL_X10_openAll_9 K 100000 (Int32.ofInt 0) (mput M 74 13 (Int32.ofInt 4096)) L
theorem t_X10_openAll {E : VE} {d : Nat} {Q : QQ} {K : Mem → LMem → Prop} {M : Mem} {L : LMem} (hP : P_X10_openAll M L K) (hK : ∀ (M : Mem) (L : LMem), K M L → Q none M L) : Wp E d 105 0 [.ref 74, .null] [] M L Q := by
  unfold P_X10_openAll at hP
  refine wp_seg (pc' := 9) [.aload 0, .iconst 4096, .putfield 653, .iconst 0, .istore 1] (by decide +kernel) (?_ : Wp E d 105 9 [.ref 74, .int (Int32.ofInt 0)] [] (mput M 74 13 (Int32.ofInt 4096)) L Q)
  exact tl_X10_openAll_9 hK 100000 (Int32.ofInt 0) (mput M 74 13 (Int32.ofInt 4096)) L hP

def PL_X10_house_22 (K : Int32 → Mem → LMem → Prop)  : Nat → Int32 → Mem → LMem → Prop
  | 0, _, _, _ => False
  | n_ + 1, v1, M, L => (((M 74 4) ≤ v1 → P_X10_openAll (mput (mput M 74 16 (Int32.ofInt 0)) 74 12 (Int32.ofInt 0)) L (fun M_6 L_7 => K (M_6 74 4) M_6 L_7)) ∧ (¬ ((M 74 4) ≤ v1) → (vp_in ((Int32.ofInt 4) * v1) 60 ∧ (vp_in v1 13 ∧ (vp_in (((Int32.ofInt 4) * v1) + (Int32.ofInt 1)) 60 ∧ (vp_in (((Int32.ofInt 4) * v1) + (Int32.ofInt 2)) 60 ∧ (vp_in (((Int32.ofInt 4) * v1) + (Int32.ofInt 3)) 60 ∧ PL_X10_house_22 K n_ (v1 + Int32.ofInt 1) (mput (mput (mput (mput M 75 v1.toNatClampNeg ((M 84 (((Int32.ofInt 4) * v1).toNatClampNeg)) - (Int32.ofInt 65))) 77 v1.toNatClampNeg (M 84 ((((Int32.ofInt 4) * v1) + (Int32.ofInt 1)).toNatClampNeg))) 76 v1.toNatClampNeg ((M 84 ((((Int32.ofInt 4) * v1) + (Int32.ofInt 2)).toNatClampNeg)) - (Int32.ofInt 65))) 78 v1.toNatClampNeg ((M 84 ((((Int32.ofInt 4) * v1) + (Int32.ofInt 3)).toNatClampNeg)) - (Int32.ofInt 48))) L)))))))
theorem tl_X10_house_22 {E : VE} {d : Nat} {Q : QQ} {K : Int32 → Mem → LMem → Prop}  (hK : ∀ (v : Int32) (M : Mem) (L : LMem), K v M L → Q (some (.int v)) M L)  : ∀ (n_ : Nat) (v1 : Int32) (M : Mem) (L : LMem), PL_X10_house_22 K n_ v1 M L → Wp E (d + 3) 106 22 [.ref 74, .int v1] [] M L Q := by
  intro n_
  induction n_ with
  | zero => intro v1 M L hP; exact False.elim hP
  | succ n_ ih =>
    intro v1 M L hP
    unfold PL_X10_house_22 at hP
    refine wp_seg (pc' := 27) [.iload 1, .aload 0, .getfield 644] (by decide +kernel) (?_ : Wp E (d + 3) 106 27 [.ref 74, .int v1] [.int (M 74 4), .int v1] M L Q)
    refine wp_icmpge (off := 80) 107 (by decide +kernel) (by decide) (fun c_5 => ?_) (fun c_5 => ?_)
    · have hP := hP.1 c_5
      refine wp_seg (pc' := 118) [.aload 0, .iconst 0, .putfield 656, .aload 0, .iconst 0, .putfield 652, .aload 0] (by decide +kernel) (?_ : Wp E (d + 3) 106 118 [.ref 74, .int v1] [.ref 74] (mput (mput M 74 16 (Int32.ofInt 0)) 74 12 (Int32.ofInt 0)) L Q)
      refine wp_callV 105 74 [] (i := 174) (by decide +kernel) (by decide +kernel) (by decide +kernel) (by decide +kernel) rfl rfl rfl (rest := []) rfl rfl ?_
      refine t_X10_openAll hP (fun M_6 L_7 hP => ?_)
      show Wp E (d + 3) 106 121 [.ref 74, .int v1] [] M_6 L_7 Q
      refine wp_seg (pc' := 125) [.aload 0, .getfield 644] (by decide +kernel) (?_ : Wp E (d + 3) 106 125 [.ref 74, .int v1] [.int (M_6 74 4)] M_6 L_7 Q)
      exact wp_iret (by decide +kernel) rfl (hK _ _ _ hP)
    · have hP := hP.2 c_5
      obtain ⟨a_8, hP⟩ := hP
      refine wp_seg (pc' := 43) [.aload 0, .getfield 640, .iload 1, .aload 0, .getfield 655, .iconst 4, .iload 1, .imul, .iaload] (by decide +kernel) (show aok 84 0 ((Int32.ofInt 4) * v1) ∧ Wp E (d + 3) 106 43 [.ref 74, .int v1] [.int (M 84 (((Int32.ofInt 4) * v1).toNatClampNeg)), .int v1, .ref 75] M L Q from ⟨⟨rfl, a_8⟩, ?_⟩)
      obtain ⟨a_9, hP⟩ := hP
      refine wp_seg (pc' := 47) [.iconst 65, .isub, .iastore] (by decide +kernel) (show aok 75 0 v1 ∧ Wp E (d + 3) 106 47 [.ref 74, .int v1] [] (mput M 75 v1.toNatClampNeg ((M 84 (((Int32.ofInt 4) * v1).toNatClampNeg)) - (Int32.ofInt 65))) L Q from ⟨⟨rfl, a_9⟩, ?_⟩)
      obtain ⟨a_10, hP⟩ := hP
      refine wp_seg (pc' := 62) [.aload 0, .getfield 642, .iload 1, .aload 0, .getfield 655, .iconst 4, .iload 1, .imul, .iconst 1, .iadd, .iaload] (by decide +kernel) (show aok 84 0 (((Int32.ofInt 4) * v1) + (Int32.ofInt 1)) ∧ Wp E (d + 3) 106 62 [.ref 74, .int v1] [.int (M 84 ((((Int32.ofInt 4) * v1) + (Int32.ofInt 1)).toNatClampNeg)), .int v1, .ref 77] (mput M 75 v1.toNatClampNeg ((M 84 (((Int32.ofInt 4) * v1).toNatClampNeg)) - (Int32.ofInt 65))) L Q from ⟨⟨rfl, a_10⟩, ?_⟩)
      refine wp_seg (pc' := 63) [.iastore] (by decide +kernel) (show aok 77 0 v1 ∧ Wp E (d + 3) 106 63 [.ref 74, .int v1] [] (mput (mput M 75 v1.toNatClampNeg ((M 84 (((Int32.ofInt 4) * v1).toNatClampNeg)) - (Int32.ofInt 65))) 77 v1.toNatClampNeg (M 84 ((((Int32.ofInt 4) * v1) + (Int32.ofInt 1)).toNatClampNeg))) L Q from ⟨⟨rfl, a_9⟩, ?_⟩)
      obtain ⟨a_11, hP⟩ := hP
      refine wp_seg (pc' := 78) [.aload 0, .getfield 641, .iload 1, .aload 0, .getfield 655, .iconst 4, .iload 1, .imul, .iconst 2, .iadd, .iaload] (by decide +kernel) (show aok 84 0 (((Int32.ofInt 4) * v1) + (Int32.ofInt 2)) ∧ Wp E (d + 3) 106 78 [.ref 74, .int v1] [.int (M 84 ((((Int32.ofInt 4) * v1) + (Int32.ofInt 2)).toNatClampNeg)), .int v1, .ref 76] (mput (mput M 75 v1.toNatClampNeg ((M 84 (((Int32.ofInt 4) * v1).toNatClampNeg)) - (Int32.ofInt 65))) 77 v1.toNatClampNeg (M 84 ((((Int32.ofInt 4) * v1) + (Int32.ofInt 1)).toNatClampNeg))) L Q from ⟨⟨rfl, a_11⟩, ?_⟩)
      refine wp_seg (pc' := 82) [.iconst 65, .isub, .iastore] (by decide +kernel) (show aok 76 0 v1 ∧ Wp E (d + 3) 106 82 [.ref 74, .int v1] [] (mput (mput (mput M 75 v1.toNatClampNeg ((M 84 (((Int32.ofInt 4) * v1).toNatClampNeg)) - (Int32.ofInt 65))) 77 v1.toNatClampNeg (M 84 ((((Int32.ofInt 4) * v1) + (Int32.ofInt 1)).toNatClampNeg))) 76 v1.toNatClampNeg ((M 84 ((((Int32.ofInt 4) * v1) + (Int32.ofInt 2)).toNatClampNeg)) - (Int32.ofInt 65))) L Q from ⟨⟨rfl, a_9⟩, ?_⟩)
      obtain ⟨a_12, hP⟩ := hP
      refine wp_seg (pc' := 97) [.aload 0, .getfield 643, .iload 1, .aload 0, .getfield 655, .iconst 4, .iload 1, .imul, .iconst 3, .iadd, .iaload] (by decide +kernel) (show aok 84 0 (((Int32.ofInt 4) * v1) + (Int32.ofInt 3)) ∧ Wp E (d + 3) 106 97 [.ref 74, .int v1] [.int (M 84 ((((Int32.ofInt 4) * v1) + (Int32.ofInt 3)).toNatClampNeg)), .int v1, .ref 78] (mput (mput (mput M 75 v1.toNatClampNeg ((M 84 (((Int32.ofInt 4) * v1).toNatClampNeg)) - (Int32.ofInt 65))) 77 v1.toNatClampNeg (M 84 ((((Int32.ofInt 4) * v1) + (Int32.ofInt 1)).toNatClampNeg))) 76 v1.toNatClampNeg ((M 84 ((((Int32.ofInt 4) * v1) + (Int32.ofInt 2)).toNatClampNeg)) - (Int32.ofInt 65))) L Q from ⟨⟨rfl, a_12⟩, ?_⟩)
      refine wp_seg (pc' := 101) [.iconst 48, .isub, .iastore] (by decide +kernel) (show aok 78 0 v1 ∧ Wp E (d + 3) 106 101 [.ref 74, .int v1] [] (mput (mput (mput (mput M 75 v1.toNatClampNeg ((M 84 (((Int32.ofInt 4) * v1).toNatClampNeg)) - (Int32.ofInt 65))) 77 v1.toNatClampNeg (M 84 ((((Int32.ofInt 4) * v1) + (Int32.ofInt 1)).toNatClampNeg))) 76 v1.toNatClampNeg ((M 84 ((((Int32.ofInt 4) * v1) + (Int32.ofInt 2)).toNatClampNeg)) - (Int32.ofInt 65))) 78 v1.toNatClampNeg ((M 84 ((((Int32.ofInt 4) * v1) + (Int32.ofInt 3)).toNatClampNeg)) - (Int32.ofInt 48))) L Q from ⟨⟨rfl, a_9⟩, ?_⟩)
      refine wp_seg (pc' := 22) [.iinc 1 1, .goto 0] (by decide +kernel) (?_ : Wp E (d + 3) 106 22 [.ref 74, .int (v1 + Int32.ofInt 1)] [] (mput (mput (mput (mput M 75 v1.toNatClampNeg ((M 84 (((Int32.ofInt 4) * v1).toNatClampNeg)) - (Int32.ofInt 65))) 77 v1.toNatClampNeg (M 84 ((((Int32.ofInt 4) * v1) + (Int32.ofInt 1)).toNatClampNeg))) 76 v1.toNatClampNeg ((M 84 ((((Int32.ofInt 4) * v1) + (Int32.ofInt 2)).toNatClampNeg)) - (Int32.ofInt 65))) 78 v1.toNatClampNeg ((M 84 ((((Int32.ofInt 4) * v1) + (Int32.ofInt 3)).toNatClampNeg)) - (Int32.ofInt 48))) L Q)
      exact ih (v1 + Int32.ofInt 1) (mput (mput (mput (mput M 75 v1.toNatClampNeg ((M 84 (((Int32.ofInt 4) * v1).toNatClampNeg)) - (Int32.ofInt 65))) 77 v1.toNatClampNeg (M 84 ((((Int32.ofInt 4) * v1) + (Int32.ofInt 1)).toNatClampNeg))) 76 v1.toNatClampNeg ((M 84 ((((Int32.ofInt 4) * v1) + (Int32.ofInt 2)).toNatClampNeg)) - (Int32.ofInt 65))) 78 v1.toNatClampNeg ((M 84 ((((Int32.ofInt 4) * v1) + (Int32.ofInt 3)).toNatClampNeg)) - (Int32.ofInt 48))) L hP
def P_X10_house (M : Mem) (L : LMem) (K : Int32 → Mem → LMem → Prop) : Prop := P_X10_faultOfHouse M L (fun v_3 M_1 L_2 => ((v_3 < 0 → PL_X10_house_22 K 100000 (Int32.ofInt 0) (mput M_1 74 4 ((M_1 74 16) / (Int32.ofInt 4))) L_2) ∧ (¬ (v_3 < 0) → K (Int32.ofInt (-5)) M_1 L_2)))
theorem t_X10_house {E : VE} {d : Nat} {Q : QQ} {K : Int32 → Mem → LMem → Prop} {M : Mem} {L : LMem} (hP : P_X10_house M L K) (hK : ∀ (v : Int32) (M : Mem) (L : LMem), K v M L → Q (some (.int v)) M L) : Wp E (d + 3) 106 0 [.ref 74, .null] [] M L Q := by
  unfold P_X10_house at hP
  refine wp_seg (pc' := 1) [.aload 0] (by decide +kernel) (?_ : Wp E (d + 3) 106 1 [.ref 74, .null] [.ref 74] M L Q)
  refine wp_callV 102 74 [] (i := 158) (by decide +kernel) (by decide +kernel) (by decide +kernel) (by decide +kernel) rfl rfl rfl (rest := []) rfl rfl ?_
  refine t_X10_faultOfHouse hP (fun v_3 M_1 L_2 hP => ?_)
  show Wp E (d + 3) 106 4 [.ref 74, .null] [.int v_3] M_1 L_2 Q
  refine wp_iflt (off := 6) 10 (by decide +kernel) (by decide) (fun c_4 => ?_) (fun c_4 => ?_)
  · have hP := hP.1 c_4
    refine wp_seg (pc' := 17) [.aload 0, .aload 0, .getfield 656, .iconst 4, .idiv] (by decide +kernel) (show ¬ (Int32.ofInt 4) = 0 ∧ Wp E (d + 3) 106 17 [.ref 74, .null] [.int ((M_1 74 16) / (Int32.ofInt 4)), .ref 74] M_1 L_2 Q from ⟨(by decide), ?_⟩)
    refine wp_seg (pc' := 22) [.putfield 644, .iconst 0, .istore 1] (by decide +kernel) (?_ : Wp E (d + 3) 106 22 [.ref 74, .int (Int32.ofInt 0)] [] (mput M_1 74 4 ((M_1 74 16) / (Int32.ofInt 4))) L_2 Q)
    exact tl_X10_house_22 hK 100000 (Int32.ofInt 0) (mput M_1 74 4 ((M_1 74 16) / (Int32.ofInt 4))) L_2 hP
  · have hP := hP.2 c_4
    refine wp_seg (pc' := 9) [.iconst (-5)] (by decide +kernel) (?_ : Wp E (d + 3) 106 9 [.ref 74, .null] [.int (Int32.ofInt (-5))] M_1 L_2 Q)
    exact wp_iret (by decide +kernel) rfl (hK _ _ _ hP)

def PL_X10_findOff_43 (K : Mem → LMem → Prop) (C_34 : Int32 → Int32 → Int32 → Mem → LMem → Prop) : Nat → Int32 → Int32 → Int32 → Int32 → Mem → LMem → Prop
  | 0, _, _, _, _, _, _ => False
  | n_ + 1, v1, v2, v3, v4, M, L => (((M 74 21) ≤ v4 → C_34 v1 v2 (v3 + Int32.ofInt 1) M L) ∧ (¬ ((M 74 21) ≤ v4) → ((((v2 >>> (v4 &&& 31)) &&& (Int32.ofInt 1)) = 0 → (vp_in v4 13 ∧ (((vp_in v4 13)) ∧ ((¬ ((f_X10_leads M v4 (M 75 v4.toNatClampNeg)) < 0) → vp_in (f_X10_leads M v4 (M 75 v4.toNatClampNeg)) 8) ∧ ((vp_in v4 13) ∧ ((vp_in (M 75 v4.toNatClampNeg) 8) ∧ ((¬ ((f_X10_leads (g_X10_nearer M v4 (M 75 v4.toNatClampNeg)) v4 ((g_X10_nearer M v4 (M 75 v4.toNatClampNeg)) 76 v4.toNatClampNeg)) < 0) → vp_in (f_X10_leads (g_X10_nearer M v4 (M 75 v4.toNatClampNeg)) v4 ((g_X10_nearer M v4 (M 75 v4.toNatClampNeg)) 76 v4.toNatClampNeg)) 8) ∧ ((vp_in ((g_X10_nearer M v4 (M 75 v4.toNatClampNeg)) 76 v4.toNatClampNeg) 8) ∧ PL_X10_findOff_43 K C_34 n_ v1 v2 v3 (v4 + Int32.ofInt 1) (g_X10_nearer (g_X10_nearer M v4 (M 75 v4.toNatClampNeg)) v4 ((g_X10_nearer M v4 (M 75 v4.toNatClampNeg)) 76 v4.toNatClampNeg)) L)))))))) ∧ (¬ (((v2 >>> (v4 &&& 31)) &&& (Int32.ofInt 1)) = 0) → PL_X10_findOff_43 K C_34 n_ v1 v2 v3 (v4 + Int32.ofInt 1) M L))))
theorem tl_X10_findOff_43 {E : VE} {d : Nat} {Q : QQ} {K : Mem → LMem → Prop} {C_34 : Int32 → Int32 → Int32 → Mem → LMem → Prop} (hK : ∀ (M : Mem) (L : LMem), K M L → Q none M L) (hC_34 : ∀ (v1 : Int32) (v2 : Int32) (v3 : Int32) (M : Mem) (L : LMem), C_34 v1 v2 v3 M L → Wp E (d + 2) 110 34 [.ref 74, .int v1, .int v2, .int v3, .null] [] M L Q) : ∀ (n_ : Nat) (v1 : Int32) (v2 : Int32) (v3 : Int32) (v4 : Int32) (M : Mem) (L : LMem), PL_X10_findOff_43 K C_34 n_ v1 v2 v3 v4 M L → Wp E (d + 2) 110 43 [.ref 74, .int v1, .int v2, .int v3, .int v4] [] M L Q := by
  intro n_
  induction n_ with
  | zero => intro v1 v2 v3 v4 M L hP; exact False.elim hP
  | succ n_ ih =>
    intro v1 v2 v3 v4 M L hP
    unfold PL_X10_findOff_43 at hP
    refine wp_seg (pc' := 49) [.iload 4, .aload 0, .getfield 661] (by decide +kernel) (?_ : Wp E (d + 2) 110 49 [.ref 74, .int v1, .int v2, .int v3, .int v4] [.int (M 74 21), .int v4] M L Q)
    refine wp_icmpge (off := 44) 93 (by decide +kernel) (by decide) (fun c_3 => ?_) (fun c_3 => ?_)
    · have hP := hP.1 c_3
      refine wp_seg (pc' := 34) [.iinc 3 1, .goto 0] (by decide +kernel) (?_ : Wp E (d + 2) 110 34 [.ref 74, .int v1, .int v2, .int (v3 + Int32.ofInt 1), .int v4] [] M L Q)
      refine wp_drop (lo := [.ref 74, .int v1, .int v2, .int (v3 + Int32.ofInt 1), .null]) ⟨Or.inr rfl, Or.inr rfl, Or.inr rfl, Or.inr rfl, Or.inl rfl, trivial⟩ ?_
      exact hC_34 v1 v2 (v3 + Int32.ofInt 1) M L hP
    · have hP := hP.2 c_3
      refine wp_seg (pc' := 58) [.iload 2, .iload 4, .ishr, .iconst 1, .iand] (by decide +kernel) (?_ : Wp E (d + 2) 110 58 [.ref 74, .int v1, .int v2, .int v3, .int v4] [.int ((v2 >>> (v4 &&& 31)) &&& (Int32.ofInt 1))] M L Q)
      refine wp_ifne (off := 29) 87 (by decide +kernel) (by decide) (fun c_4 => ?_) (fun c_4 => ?_)
      · have hP := hP.2 c_4
        refine wp_seg (pc' := 43) [.iinc 4 1, .goto 0] (by decide +kernel) (?_ : Wp E (d + 2) 110 43 [.ref 74, .int v1, .int v2, .int v3, .int (v4 + Int32.ofInt 1)] [] M L Q)
        exact ih v1 v2 v3 (v4 + Int32.ofInt 1) M L hP
      · have hP := hP.1 c_4
        obtain ⟨a_5, hP⟩ := hP
        refine wp_seg (pc' := 71) [.aload 0, .iload 4, .aload 0, .getfield 640, .iload 4, .iaload] (by decide +kernel) (show aok 75 0 v4 ∧ Wp E (d + 2) 110 71 [.ref 74, .int v1, .int v2, .int v3, .int v4] [.int (M 75 v4.toNatClampNeg), .int v4, .ref 74] M L Q from ⟨⟨rfl, a_5⟩, ?_⟩)
        refine wp_callV 111 74 [.int v4, .int (M 75 v4.toNatClampNeg)] (i := 184) (by decide +kernel) (by decide +kernel) (by decide +kernel) (by decide +kernel) rfl rfl rfl (rest := []) rfl rfl ?_
        obtain ⟨a_6, hP⟩ := hP
        obtain ⟨a_7, hP⟩ := hP
        obtain ⟨a_8, hP⟩ := hP
        obtain ⟨a_9, hP⟩ := hP
        refine s_X10_nearer M v4 (M 75 v4.toNatClampNeg) a_6 a_7 a_8 a_9 ?_
        show Wp E (d + 2) 110 74 [.ref 74, .int v1, .int v2, .int v3, .int v4] [] (g_X10_nearer M v4 (M 75 v4.toNatClampNeg)) L Q
        refine wp_seg (pc' := 84) [.aload 0, .iload 4, .aload 0, .getfield 641, .iload 4, .iaload] (by decide +kernel) (show aok 76 0 v4 ∧ Wp E (d + 2) 110 84 [.ref 74, .int v1, .int v2, .int v3, .int v4] [.int ((g_X10_nearer M v4 (M 75 v4.toNatClampNeg)) 76 v4.toNatClampNeg), .int v4, .ref 74] (g_X10_nearer M v4 (M 75 v4.toNatClampNeg)) L Q from ⟨⟨rfl, a_5⟩, ?_⟩)
        refine wp_callV 111 74 [.int v4, .int ((g_X10_nearer M v4 (M 75 v4.toNatClampNeg)) 76 v4.toNatClampNeg)] (i := 184) (by decide +kernel) (by decide +kernel) (by decide +kernel) (by decide +kernel) rfl rfl rfl (rest := []) rfl rfl ?_
        obtain ⟨a_10, hP⟩ := hP
        obtain ⟨a_11, hP⟩ := hP
        refine s_X10_nearer (g_X10_nearer M v4 (M 75 v4.toNatClampNeg)) v4 ((g_X10_nearer M v4 (M 75 v4.toNatClampNeg)) 76 v4.toNatClampNeg) a_6 a_10 a_8 a_11 ?_
        show Wp E (d + 2) 110 87 [.ref 74, .int v1, .int v2, .int v3, .int v4] [] (g_X10_nearer (g_X10_nearer M v4 (M 75 v4.toNatClampNeg)) v4 ((g_X10_nearer M v4 (M 75 v4.toNatClampNeg)) 76 v4.toNatClampNeg)) L Q
        refine wp_seg (pc' := 43) [.iinc 4 1, .goto 0] (by decide +kernel) (?_ : Wp E (d + 2) 110 43 [.ref 74, .int v1, .int v2, .int v3, .int (v4 + Int32.ofInt 1)] [] (g_X10_nearer (g_X10_nearer M v4 (M 75 v4.toNatClampNeg)) v4 ((g_X10_nearer M v4 (M 75 v4.toNatClampNeg)) 76 v4.toNatClampNeg)) L Q)
        exact ih v1 v2 v3 (v4 + Int32.ofInt 1) (g_X10_nearer (g_X10_nearer M v4 (M 75 v4.toNatClampNeg)) v4 ((g_X10_nearer M v4 (M 75 v4.toNatClampNeg)) 76 v4.toNatClampNeg)) L hP
def PL_X10_findOff_34 (K : Mem → LMem → Prop)  : Nat → Int32 → Int32 → Int32 → Mem → LMem → Prop
  | 0, _, _, _, _, _ => False
  | n_ + 1, v1, v2, v3, M, L => (((Int32.ofInt 8) ≤ v3 → K M L) ∧ (¬ ((Int32.ofInt 8) ≤ v3) → PL_X10_findOff_43 K (PL_X10_findOff_34 K n_) 100000 v1 v2 v3 (Int32.ofInt 0) M L))
theorem tl_X10_findOff_34 {E : VE} {d : Nat} {Q : QQ} {K : Mem → LMem → Prop}  (hK : ∀ (M : Mem) (L : LMem), K M L → Q none M L)  : ∀ (n_ : Nat) (v1 : Int32) (v2 : Int32) (v3 : Int32) (M : Mem) (L : LMem), PL_X10_findOff_34 K n_ v1 v2 v3 M L → Wp E (d + 2) 110 34 [.ref 74, .int v1, .int v2, .int v3, .null] [] M L Q := by
  intro n_
  induction n_ with
  | zero => intro v1 v2 v3 M L hP; exact False.elim hP
  | succ n_ ih =>
    intro v1 v2 v3 M L hP
    unfold PL_X10_findOff_34 at hP
    refine wp_seg (pc' := 37) [.iload 3, .iconst 8] (by decide +kernel) (?_ : Wp E (d + 2) 110 37 [.ref 74, .int v1, .int v2, .int v3, .null] [.int (Int32.ofInt 8), .int v3] M L Q)
    refine wp_icmpge (off := 62) 99 (by decide +kernel) (by decide) (fun c_2 => ?_) (fun c_2 => ?_)
    · have hP := hP.1 c_2
      exact wp_vret (by decide +kernel) rfl (hK _ _ hP)
    · have hP := hP.2 c_2
      refine wp_seg (pc' := 43) [.iconst 0, .istore 4] (by decide +kernel) (?_ : Wp E (d + 2) 110 43 [.ref 74, .int v1, .int v2, .int v3, .int (Int32.ofInt 0)] [] M L Q)
      exact tl_X10_findOff_43 hK (fun v1 v2 v3 M L hP => ih v1 v2 v3 M L hP) 100000 v1 v2 v3 (Int32.ofInt 0) M L hP
def PL_X10_findOff_2 (K : Mem → LMem → Prop)  : Nat → Int32 → Int32 → Int32 → Mem → LMem → Prop
  | 0, _, _, _, _, _ => False
  | n_ + 1, v1, v2, v3, M, L => (((Int32.ofInt 8) ≤ v3 → PL_X10_findOff_34 K 100000 v1 v2 (Int32.ofInt 0) M L) ∧ (¬ ((Int32.ofInt 8) ≤ v3) → ((v3 = v1 → (vp_in v3 8 ∧ PL_X10_findOff_2 K n_ v1 v2 (v3 + Int32.ofInt 1) (mput M 85 v3.toNatClampNeg (Int32.ofInt 0)) L)) ∧ (¬ (v3 = v1) → (vp_in v3 8 ∧ PL_X10_findOff_2 K n_ v1 v2 (v3 + Int32.ofInt 1) (mput M 85 v3.toNatClampNeg (Int32.ofInt 9999)) L)))))
theorem tl_X10_findOff_2 {E : VE} {d : Nat} {Q : QQ} {K : Mem → LMem → Prop}  (hK : ∀ (M : Mem) (L : LMem), K M L → Q none M L)  : ∀ (n_ : Nat) (v1 : Int32) (v2 : Int32) (v3 : Int32) (M : Mem) (L : LMem), PL_X10_findOff_2 K n_ v1 v2 v3 M L → Wp E (d + 2) 110 2 [.ref 74, .int v1, .int v2, .int v3, .null] [] M L Q := by
  intro n_
  induction n_ with
  | zero => intro v1 v2 v3 M L hP; exact False.elim hP
  | succ n_ ih =>
    intro v1 v2 v3 M L hP
    unfold PL_X10_findOff_2 at hP
    refine wp_seg (pc' := 5) [.iload 3, .iconst 8] (by decide +kernel) (?_ : Wp E (d + 2) 110 5 [.ref 74, .int v1, .int v2, .int v3, .null] [.int (Int32.ofInt 8), .int v3] M L Q)
    refine wp_icmpge (off := 27) 32 (by decide +kernel) (by decide) (fun c_1 => ?_) (fun c_1 => ?_)
    · have hP := hP.1 c_1
      refine wp_seg (pc' := 34) [.iconst 0, .istore 3] (by decide +kernel) (?_ : Wp E (d + 2) 110 34 [.ref 74, .int v1, .int v2, .int (Int32.ofInt 0), .null] [] M L Q)
      exact tl_X10_findOff_34 hK 100000 v1 v2 (Int32.ofInt 0) M L hP
    · have hP := hP.2 c_1
      refine wp_seg (pc' := 15) [.aload 0, .getfield 657, .iload 3, .iload 3, .iload 1] (by decide +kernel) (?_ : Wp E (d + 2) 110 15 [.ref 74, .int v1, .int v2, .int v3, .null] [.int v1, .int v3, .int v3, .ref 85] M L Q)
      refine wp_icmpne (off := 7) 22 (by decide +kernel) (by decide) (fun c_12 => ?_) (fun c_12 => ?_)
      · have hP := hP.2 c_12
        obtain ⟨a_13, hP⟩ := hP
        refine wp_seg (pc' := 26) [.iconst 9999, .iastore] (by decide +kernel) (show aok 85 0 v3 ∧ Wp E (d + 2) 110 26 [.ref 74, .int v1, .int v2, .int v3, .null] [] (mput M 85 v3.toNatClampNeg (Int32.ofInt 9999)) L Q from ⟨⟨rfl, a_13⟩, ?_⟩)
        refine wp_seg (pc' := 2) [.iinc 3 1, .goto 0] (by decide +kernel) (?_ : Wp E (d + 2) 110 2 [.ref 74, .int v1, .int v2, .int (v3 + Int32.ofInt 1), .null] [] (mput M 85 v3.toNatClampNeg (Int32.ofInt 9999)) L Q)
        exact ih v1 v2 (v3 + Int32.ofInt 1) (mput M 85 v3.toNatClampNeg (Int32.ofInt 9999)) L hP
      · have hP := hP.1 c_12
        obtain ⟨a_14, hP⟩ := hP
        refine wp_seg (pc' := 26) [.iconst 0, .goto 0, .iastore] (by decide +kernel) (show aok 85 0 v3 ∧ Wp E (d + 2) 110 26 [.ref 74, .int v1, .int v2, .int v3, .null] [] (mput M 85 v3.toNatClampNeg (Int32.ofInt 0)) L Q from ⟨⟨rfl, a_14⟩, ?_⟩)
        refine wp_seg (pc' := 2) [.iinc 3 1, .goto 0] (by decide +kernel) (?_ : Wp E (d + 2) 110 2 [.ref 74, .int v1, .int v2, .int (v3 + Int32.ofInt 1), .null] [] (mput M 85 v3.toNatClampNeg (Int32.ofInt 0)) L Q)
        exact ih v1 v2 (v3 + Int32.ofInt 1) (mput M 85 v3.toNatClampNeg (Int32.ofInt 0)) L hP
def P_X10_findOff (x1 : Int32) (x2 : Int32) (M : Mem) (L : LMem) (K : Mem → LMem → Prop) : Prop := PL_X10_findOff_2 K 100000 x1 x2 (Int32.ofInt 0) M L
theorem t_X10_findOff {E : VE} {d : Nat} {Q : QQ} {K : Mem → LMem → Prop} {x1 : Int32} {x2 : Int32} {M : Mem} {L : LMem} (hP : P_X10_findOff x1 x2 M L K) (hK : ∀ (M : Mem) (L : LMem), K M L → Q none M L) : Wp E (d + 2) 110 0 [.ref 74, .int x1, .int x2, .null, .null] [] M L Q := by
  unfold P_X10_findOff at hP
  refine wp_seg (pc' := 2) [.iconst 0, .istore 3] (by decide +kernel) (?_ : Wp E (d + 2) 110 2 [.ref 74, .int x1, .int x2, .int (Int32.ofInt 0), .null] [] M L Q)
  exact tl_X10_findOff_2 hK 100000 x1 x2 (Int32.ofInt 0) M L hP

def PL_X10_layWay_56 (K : Int32 → Mem → LMem → Prop) (C_47 : Int32 → Int32 → Int32 → Int32 → Mem → LMem → Prop) : Nat → Int32 → Int32 → Int32 → Int32 → Int32 → Mem → LMem → Prop
  | 0, _, _, _, _, _, _, _ => False
  | n_ + 1, v1, v2, v3, v4, v5, M, L => ((((v3 >>> (v5 &&& 31)) &&& (Int32.ofInt 1)) = (Int32.ofInt 1) → PL_X10_layWay_56 K C_47 n_ v1 v2 v3 v4 (v5 + Int32.ofInt 1) M L) ∧ (¬ (((v3 >>> (v5 &&& 31)) &&& (Int32.ofInt 1)) = (Int32.ofInt 1)) → ((vp_in v5 13) ∧ (((f_X10_leads M v5 v4) < 0 → PL_X10_layWay_56 K C_47 n_ v1 v2 v3 v4 (v5 + Int32.ofInt 1) M L) ∧ (¬ ((f_X10_leads M v5 v4) < 0) → (vp_in (f_X10_leads M v5 v4) 8 ∧ (vp_in v5 13 ∧ (vp_in v4 8 ∧ (((((M 85 ((f_X10_leads M v5 v4).toNatClampNeg)) + ((Int32.ofInt 10) * (M 78 v5.toNatClampNeg))) + (Int32.ofInt 1)) = (M 85 v4.toNatClampNeg) → (vp_in (M 74 20) 8 ∧ (vp_in ((M 74 20) + (Int32.ofInt 1)) 9 ∧ C_47 v1 v2 v3 (f_X10_leads M v5 v4) (mput (mput (mput M 86 ((M 74 20).toNatClampNeg) v5) 74 20 ((M 74 20) + (Int32.ofInt 1))) 87 (((M 74 20) + (Int32.ofInt 1)).toNatClampNeg) (f_X10_leads M v5 v4)) L))) ∧ (¬ ((((M 85 ((f_X10_leads M v5 v4).toNatClampNeg)) + ((Int32.ofInt 10) * (M 78 v5.toNatClampNeg))) + (Int32.ofInt 1)) = (M 85 v4.toNatClampNeg)) → PL_X10_layWay_56 K C_47 n_ v1 v2 v3 v4 (v5 + Int32.ofInt 1) M L))))))))))
theorem tl_X10_layWay_56 {E : VE} {d : Nat} {Q : QQ} {K : Int32 → Mem → LMem → Prop} {C_47 : Int32 → Int32 → Int32 → Int32 → Mem → LMem → Prop} (hK : ∀ (v : Int32) (M : Mem) (L : LMem), K v M L → Q (some (.int v)) M L) (hC_47 : ∀ (v1 : Int32) (v2 : Int32) (v3 : Int32) (v4 : Int32) (M : Mem) (L : LMem), C_47 v1 v2 v3 v4 M L → Wp E (d + 3) 112 47 [.ref 74, .int v1, .int v2, .int v3, .int v4, .null] [] M L Q) : ∀ (n_ : Nat) (v1 : Int32) (v2 : Int32) (v3 : Int32) (v4 : Int32) (v5 : Int32) (M : Mem) (L : LMem), PL_X10_layWay_56 K C_47 n_ v1 v2 v3 v4 v5 M L → Wp E (d + 3) 112 56 [.ref 74, .int v1, .int v2, .int v3, .int v4, .int v5] [] M L Q := by
  intro n_
  induction n_ with
  | zero => intro v1 v2 v3 v4 v5 M L hP; exact False.elim hP
  | succ n_ ih =>
    intro v1 v2 v3 v4 v5 M L hP
    unfold PL_X10_layWay_56 at hP
    refine wp_seg (pc' := 63) [.iload 3, .iload 5, .ishr, .iconst 1, .iand, .iconst 1] (by decide +kernel) (?_ : Wp E (d + 3) 112 63 [.ref 74, .int v1, .int v2, .int v3, .int v4, .int v5] [.int (Int32.ofInt 1), .int ((v3 >>> (v5 &&& 31)) &&& (Int32.ofInt 1))] M L Q)
    refine wp_icmpeq (off := 50) 113 (by decide +kernel) (by decide) (fun c_6 => ?_) (fun c_6 => ?_)
    · have hP := hP.1 c_6
      refine wp_seg (pc' := 56) [.iinc 5 1, .goto 0] (by decide +kernel) (?_ : Wp E (d + 3) 112 56 [.ref 74, .int v1, .int v2, .int v3, .int v4, .int (v5 + Int32.ofInt 1)] [] M L Q)
      exact ih v1 v2 v3 v4 (v5 + Int32.ofInt 1) M L hP
    · have hP := hP.2 c_6
      refine wp_seg (pc' := 71) [.aload 0, .iload 5, .iload 4] (by decide +kernel) (?_ : Wp E (d + 3) 112 71 [.ref 74, .int v1, .int v2, .int v3, .int v4, .int v5] [.int v4, .int v5, .ref 74] M L Q)
      refine wp_callV 109 74 [.int v5, .int v4] (i := 188) (by decide +kernel) (by decide +kernel) (by decide +kernel) (by decide +kernel) rfl rfl rfl (rest := []) rfl rfl ?_
      obtain ⟨a_7, hP⟩ := hP
      refine s_X10_leads M v5 v4 a_7 ?_
      show Wp E (d + 3) 112 74 [.ref 74, .int v1, .int v2, .int v3, .int v4, .int v5] [.int (f_X10_leads M v5 v4)] M L Q
      refine wp_iflt (off := 39) 113 (by decide +kernel) (by decide) (fun c_8 => ?_) (fun c_8 => ?_)
      · have hP := hP.1 c_8
        refine wp_seg (pc' := 56) [.iinc 5 1, .goto 0] (by decide +kernel) (?_ : Wp E (d + 3) 112 56 [.ref 74, .int v1, .int v2, .int v3, .int v4, .int (v5 + Int32.ofInt 1)] [] M L Q)
        exact ih v1 v2 v3 v4 (v5 + Int32.ofInt 1) M L hP
      · have hP := hP.2 c_8
        refine wp_seg (pc' := 86) [.aload 0, .getfield 657, .aload 0, .iload 5, .iload 4] (by decide +kernel) (?_ : Wp E (d + 3) 112 86 [.ref 74, .int v1, .int v2, .int v3, .int v4, .int v5] [.int v4, .int v5, .ref 74, .ref 85] M L Q)
        refine wp_callV 109 74 [.int v5, .int v4] (i := 188) (by decide +kernel) (by decide +kernel) (by decide +kernel) (by decide +kernel) rfl rfl rfl (rest := [.ref 85]) rfl rfl ?_
        refine s_X10_leads M v5 v4 a_7 ?_
        show Wp E (d + 3) 112 89 [.ref 74, .int v1, .int v2, .int v3, .int v4, .int v5] [.int (f_X10_leads M v5 v4), .ref 85] M L Q
        obtain ⟨a_9, hP⟩ := hP
        refine wp_seg (pc' := 90) [.iaload] (by decide +kernel) (show aok 85 0 (f_X10_leads M v5 v4) ∧ Wp E (d + 3) 112 90 [.ref 74, .int v1, .int v2, .int v3, .int v4, .int v5] [.int (M 85 ((f_X10_leads M v5 v4).toNatClampNeg))] M L Q from ⟨⟨rfl, a_9⟩, ?_⟩)
        obtain ⟨a_10, hP⟩ := hP
        refine wp_seg (pc' := 99) [.iconst 10, .aload 0, .getfield 643, .iload 5, .iaload] (by decide +kernel) (show aok 78 0 v5 ∧ Wp E (d + 3) 112 99 [.ref 74, .int v1, .int v2, .int v3, .int v4, .int v5] [.int (M 78 v5.toNatClampNeg), .int (Int32.ofInt 10), .int (M 85 ((f_X10_leads M v5 v4).toNatClampNeg))] M L Q from ⟨⟨rfl, a_10⟩, ?_⟩)
        obtain ⟨a_11, hP⟩ := hP
        refine wp_seg (pc' := 110) [.imul, .iadd, .iconst 1, .iadd, .aload 0, .getfield 657, .iload 4, .iaload] (by decide +kernel) (show aok 85 0 v4 ∧ Wp E (d + 3) 112 110 [.ref 74, .int v1, .int v2, .int v3, .int v4, .int v5] [.int (M 85 v4.toNatClampNeg), .int (((M 85 ((f_X10_leads M v5 v4).toNatClampNeg)) + ((Int32.ofInt 10) * (M 78 v5.toNatClampNeg))) + (Int32.ofInt 1))] M L Q from ⟨⟨rfl, a_11⟩, ?_⟩)
        refine wp_icmpeq (off := 9) 119 (by decide +kernel) (by decide) (fun c_12 => ?_) (fun c_12 => ?_)
        · have hP := hP.1 c_12
          refine wp_seg (pc' := 124) [.aload 0, .iload 5, .iload 4] (by decide +kernel) (?_ : Wp E (d + 3) 112 124 [.ref 74, .int v1, .int v2, .int v3, .int v4, .int v5] [.int v4, .int v5, .ref 74] M L Q)
          refine wp_callV 109 74 [.int v5, .int v4] (i := 188) (by decide +kernel) (by decide +kernel) (by decide +kernel) (by decide +kernel) rfl rfl rfl (rest := []) rfl rfl ?_
          refine s_X10_leads M v5 v4 a_7 ?_
          show Wp E (d + 3) 112 127 [.ref 74, .int v1, .int v2, .int v3, .int v4, .int v5] [.int (f_X10_leads M v5 v4)] M L Q
          obtain ⟨a_13, hP⟩ := hP
          refine wp_seg (pc' := 140) [.istore 4, .aload 0, .getfield 658, .aload 0, .getfield 660, .iload 5, .iastore] (by decide +kernel) (show aok 86 0 (M 74 20) ∧ Wp E (d + 3) 112 140 [.ref 74, .int v1, .int v2, .int v3, .int (f_X10_leads M v5 v4), .int v5] [] (mput M 86 ((M 74 20).toNatClampNeg) v5) L Q from ⟨⟨rfl, a_13⟩, ?_⟩)
          obtain ⟨a_14, hP⟩ := hP
          refine wp_seg (pc' := 161) [.aload 0, .dup, .getfield 660, .iconst 1, .iadd, .putfield 660, .aload 0, .getfield 659, .aload 0, .getfield 660, .iload 4, .iastore] (by decide +kernel) (show aok 87 0 ((M 74 20) + (Int32.ofInt 1)) ∧ Wp E (d + 3) 112 161 [.ref 74, .int v1, .int v2, .int v3, .int (f_X10_leads M v5 v4), .int v5] [] (mput (mput (mput M 86 ((M 74 20).toNatClampNeg) v5) 74 20 ((M 74 20) + (Int32.ofInt 1))) 87 (((M 74 20) + (Int32.ofInt 1)).toNatClampNeg) (f_X10_leads M v5 v4)) L Q from ⟨⟨rfl, a_14⟩, ?_⟩)
          refine wp_seg (pc' := 47) [.goto 0] (by decide +kernel) (?_ : Wp E (d + 3) 112 47 [.ref 74, .int v1, .int v2, .int v3, .int (f_X10_leads M v5 v4), .int v5] [] (mput (mput (mput M 86 ((M 74 20).toNatClampNeg) v5) 74 20 ((M 74 20) + (Int32.ofInt 1))) 87 (((M 74 20) + (Int32.ofInt 1)).toNatClampNeg) (f_X10_leads M v5 v4)) L Q)
          refine wp_drop (lo := [.ref 74, .int v1, .int v2, .int v3, .int (f_X10_leads M v5 v4), .null]) ⟨Or.inr rfl, Or.inr rfl, Or.inr rfl, Or.inr rfl, Or.inr rfl, Or.inl rfl, trivial⟩ ?_
          exact hC_47 v1 v2 v3 (f_X10_leads M v5 v4) (mput (mput (mput M 86 ((M 74 20).toNatClampNeg) v5) 74 20 ((M 74 20) + (Int32.ofInt 1))) 87 (((M 74 20) + (Int32.ofInt 1)).toNatClampNeg) (f_X10_leads M v5 v4)) L hP
        · have hP := hP.2 c_12
          refine wp_seg (pc' := 56) [.iinc 5 1, .goto 0] (by decide +kernel) (?_ : Wp E (d + 3) 112 56 [.ref 74, .int v1, .int v2, .int v3, .int v4, .int (v5 + Int32.ofInt 1)] [] M L Q)
          exact ih v1 v2 v3 v4 (v5 + Int32.ofInt 1) M L hP
def PL_X10_layWay_47 (K : Int32 → Mem → LMem → Prop)  : Nat → Int32 → Int32 → Int32 → Int32 → Mem → LMem → Prop
  | 0, _, _, _, _, _, _ => False
  | n_ + 1, v1, v2, v3, v4, M, L => ((v4 = v2 → K (Int32.ofInt 1) M L) ∧ (¬ (v4 = v2) → PL_X10_layWay_56 K (PL_X10_layWay_47 K n_) 100000 v1 v2 v3 v4 (Int32.ofInt 0) M L))
theorem tl_X10_layWay_47 {E : VE} {d : Nat} {Q : QQ} {K : Int32 → Mem → LMem → Prop}  (hK : ∀ (v : Int32) (M : Mem) (L : LMem), K v M L → Q (some (.int v)) M L)  : ∀ (n_ : Nat) (v1 : Int32) (v2 : Int32) (v3 : Int32) (v4 : Int32) (M : Mem) (L : LMem), PL_X10_layWay_47 K n_ v1 v2 v3 v4 M L → Wp E (d + 3) 112 47 [.ref 74, .int v1, .int v2, .int v3, .int v4, .null] [] M L Q := by
  intro n_
  induction n_ with
  | zero => intro v1 v2 v3 v4 M L hP; exact False.elim hP
  | succ n_ ih =>
    intro v1 v2 v3 v4 M L hP
    unfold PL_X10_layWay_47 at hP
    refine wp_seg (pc' := 50) [.iload 4, .iload 2] (by decide +kernel) (?_ : Wp E (d + 3) 112 50 [.ref 74, .int v1, .int v2, .int v3, .int v4, .null] [.int v2, .int v4] M L Q)
    refine wp_icmpeq (off := 114) 164 (by decide +kernel) (by decide) (fun c_5 => ?_) (fun c_5 => ?_)
    · have hP := hP.1 c_5
      refine wp_seg (pc' := 165) [.iconst 1] (by decide +kernel) (?_ : Wp E (d + 3) 112 165 [.ref 74, .int v1, .int v2, .int v3, .int v4, .null] [.int (Int32.ofInt 1)] M L Q)
      exact wp_zret (by decide +kernel) rfl (by decide) (hK _ _ _ hP)
    · have hP := hP.2 c_5
      refine wp_seg (pc' := 56) [.iconst 0, .istore 5] (by decide +kernel) (?_ : Wp E (d + 3) 112 56 [.ref 74, .int v1, .int v2, .int v3, .int v4, .int (Int32.ofInt 0)] [] M L Q)
      exact tl_X10_layWay_56 hK (fun v1 v2 v3 v4 M L hP => ih v1 v2 v3 v4 M L hP) 100000 v1 v2 v3 v4 (Int32.ofInt 0) M L hP
def P_X10_layWay (x1 : Int32) (x2 : Int32) (x3 : Int32) (M : Mem) (L : LMem) (K : Int32 → Mem → LMem → Prop) : Prop := P_X10_findOff x2 x3 (mput M 74 21 (M 74 4)) L (fun M_1 L_2 => (vp_in x1 8 ∧ ((((M_1 85 x1.toNatClampNeg) / (Int32.ofInt 10)) ≤ (M_1 74 5) → PL_X10_layWay_47 K 100000 x1 x2 x3 x1 (mput (mput M_1 74 20 (Int32.ofInt 0)) 87 ((Int32.ofInt 0).toNatClampNeg) x1) L_2) ∧ (¬ (((M_1 85 x1.toNatClampNeg) / (Int32.ofInt 10)) ≤ (M_1 74 5)) → K (Int32.ofInt 0) (mput (mput M_1 74 20 (Int32.ofInt 0)) 87 ((Int32.ofInt 0).toNatClampNeg) x1) L_2))))
theorem t_X10_layWay {E : VE} {d : Nat} {Q : QQ} {K : Int32 → Mem → LMem → Prop} {x1 : Int32} {x2 : Int32} {x3 : Int32} {M : Mem} {L : LMem} (hP : P_X10_layWay x1 x2 x3 M L K) (hK : ∀ (v : Int32) (M : Mem) (L : LMem), K v M L → Q (some (.int v)) M L) : Wp E (d + 3) 112 0 [.ref 74, .int x1, .int x2, .int x3, .null, .null] [] M L Q := by
  unfold P_X10_layWay at hP
  refine wp_seg (pc' := 11) [.aload 0, .aload 0, .getfield 644, .putfield 661, .aload 0, .iload 2, .iload 3] (by decide +kernel) (?_ : Wp E (d + 3) 112 11 [.ref 74, .int x1, .int x2, .int x3, .null, .null] [.int x3, .int x2, .ref 74] (mput M 74 21 (M 74 4)) L Q)
  refine wp_callV 110 74 [.int x2, .int x3] (i := 192) (by decide +kernel) (by decide +kernel) (by decide +kernel) (by decide +kernel) rfl rfl rfl (rest := []) rfl rfl ?_
  refine t_X10_findOff hP (fun M_1 L_2 hP => ?_)
  show Wp E (d + 3) 112 14 [.ref 74, .int x1, .int x2, .int x3, .null, .null] [] M_1 L_2 Q
  refine wp_seg (pc' := 26) [.aload 0, .iconst 0, .putfield 660, .aload 0, .getfield 659, .iconst 0, .iload 1, .iastore] (by decide +kernel) (show aok 87 0 (Int32.ofInt 0) ∧ Wp E (d + 3) 112 26 [.ref 74, .int x1, .int x2, .int x3, .null, .null] [] (mput (mput M_1 74 20 (Int32.ofInt 0)) 87 ((Int32.ofInt 0).toNatClampNeg) x1) L_2 Q from ⟨⟨rfl, (vp_lit 0 9 (by decide))⟩, ?_⟩)
  obtain ⟨a_3, hP⟩ := hP
  refine wp_seg (pc' := 32) [.aload 0, .getfield 657, .iload 1, .iaload] (by decide +kernel) (show aok 85 0 x1 ∧ Wp E (d + 3) 112 32 [.ref 74, .int x1, .int x2, .int x3, .null, .null] [.int (M_1 85 x1.toNatClampNeg)] (mput (mput M_1 74 20 (Int32.ofInt 0)) 87 ((Int32.ofInt 0).toNatClampNeg) x1) L_2 Q from ⟨⟨rfl, a_3⟩, ?_⟩)
  refine wp_seg (pc' := 35) [.iconst 10, .idiv] (by decide +kernel) (show ¬ (Int32.ofInt 10) = 0 ∧ Wp E (d + 3) 112 35 [.ref 74, .int x1, .int x2, .int x3, .null, .null] [.int ((M_1 85 x1.toNatClampNeg) / (Int32.ofInt 10))] (mput (mput M_1 74 20 (Int32.ofInt 0)) 87 ((Int32.ofInt 0).toNatClampNeg) x1) L_2 Q from ⟨(by decide), ?_⟩)
  refine wp_seg (pc' := 39) [.aload 0, .getfield 645] (by decide +kernel) (?_ : Wp E (d + 3) 112 39 [.ref 74, .int x1, .int x2, .int x3, .null, .null] [.int (M_1 74 5), .int ((M_1 85 x1.toNatClampNeg) / (Int32.ofInt 10))] (mput (mput M_1 74 20 (Int32.ofInt 0)) 87 ((Int32.ofInt 0).toNatClampNeg) x1) L_2 Q)
  refine wp_icmple (off := 5) 44 (by decide +kernel) (by decide) (fun c_4 => ?_) (fun c_4 => ?_)
  · have hP := hP.1 c_4
    refine wp_seg (pc' := 47) [.iload 1, .istore 4] (by decide +kernel) (?_ : Wp E (d + 3) 112 47 [.ref 74, .int x1, .int x2, .int x3, .int x1, .null] [] (mput (mput M_1 74 20 (Int32.ofInt 0)) 87 ((Int32.ofInt 0).toNatClampNeg) x1) L_2 Q)
    exact tl_X10_layWay_47 hK 100000 x1 x2 x3 x1 (mput (mput M_1 74 20 (Int32.ofInt 0)) 87 ((Int32.ofInt 0).toNatClampNeg) x1) L_2 hP
  · have hP := hP.2 c_4
    refine wp_seg (pc' := 43) [.iconst 0] (by decide +kernel) (?_ : Wp E (d + 3) 112 43 [.ref 74, .int x1, .int x2, .int x3, .null, .null] [.int (Int32.ofInt 0)] (mput (mput M_1 74 20 (Int32.ofInt 0)) 87 ((Int32.ofInt 0).toNatClampNeg) x1) L_2 Q)
    exact wp_zret (by decide +kernel) rfl (by decide) (hK _ _ _ hP)

def PL_X10_wayLength_4 (K : Int32 → Mem → LMem → Prop)  : Nat → Int32 → Int32 → Mem → LMem → Prop
  | 0, _, _, _, _ => False
  | n_ + 1, v1, v2, M, L => (((M 74 20) ≤ v2 → K v1 M L) ∧ (¬ ((M 74 20) ≤ v2) → (vp_in v2 8 ∧ (vp_in (M 86 v2.toNatClampNeg) 13 ∧ PL_X10_wayLength_4 K n_ (v1 + (M 78 ((M 86 v2.toNatClampNeg).toNatClampNeg))) (v2 + Int32.ofInt 1) M L))))
theorem tl_X10_wayLength_4 {E : VE} {d : Nat} {Q : QQ} {K : Int32 → Mem → LMem → Prop}  (hK : ∀ (v : Int32) (M : Mem) (L : LMem), K v M L → Q (some (.int v)) M L)  : ∀ (n_ : Nat) (v1 : Int32) (v2 : Int32) (M : Mem) (L : LMem), PL_X10_wayLength_4 K n_ v1 v2 M L → Wp E d 113 4 [.ref 74, .int v1, .int v2] [] M L Q := by
  intro n_
  induction n_ with
  | zero => intro v1 v2 M L hP; exact False.elim hP
  | succ n_ ih =>
    intro v1 v2 M L hP
    unfold PL_X10_wayLength_4 at hP
    refine wp_seg (pc' := 9) [.iload 2, .aload 0, .getfield 660] (by decide +kernel) (?_ : Wp E d 113 9 [.ref 74, .int v1, .int v2] [.int (M 74 20), .int v2] M L Q)
    refine wp_icmpge (off := 23) 32 (by decide +kernel) (by decide) (fun c_1 => ?_) (fun c_1 => ?_)
    · have hP := hP.1 c_1
      refine wp_seg (pc' := 33) [.iload 1] (by decide +kernel) (?_ : Wp E d 113 33 [.ref 74, .int v1, .int v2] [.int v1] M L Q)
      exact wp_iret (by decide +kernel) rfl (hK _ _ _ hP)
    · have hP := hP.2 c_1
      obtain ⟨a_2, hP⟩ := hP
      refine wp_seg (pc' := 23) [.iload 1, .aload 0, .getfield 643, .aload 0, .getfield 658, .iload 2, .iaload] (by decide +kernel) (show aok 86 0 v2 ∧ Wp E d 113 23 [.ref 74, .int v1, .int v2] [.int (M 86 v2.toNatClampNeg), .ref 78, .int v1] M L Q from ⟨⟨rfl, a_2⟩, ?_⟩)
      obtain ⟨a_3, hP⟩ := hP
      refine wp_seg (pc' := 24) [.iaload] (by decide +kernel) (show aok 78 0 (M 86 v2.toNatClampNeg) ∧ Wp E d 113 24 [.ref 74, .int v1, .int v2] [.int (M 78 ((M 86 v2.toNatClampNeg).toNatClampNeg)), .int v1] M L Q from ⟨⟨rfl, a_3⟩, ?_⟩)
      refine wp_seg (pc' := 4) [.iadd, .istore 1, .iinc 2 1, .goto 0] (by decide +kernel) (?_ : Wp E d 113 4 [.ref 74, .int (v1 + (M 78 ((M 86 v2.toNatClampNeg).toNatClampNeg))), .int (v2 + Int32.ofInt 1)] [] M L Q)
      exact ih (v1 + (M 78 ((M 86 v2.toNatClampNeg).toNatClampNeg))) (v2 + Int32.ofInt 1) M L hP
def P_X10_wayLength (M : Mem) (L : LMem) (K : Int32 → Mem → LMem → Prop) : Prop := PL_X10_wayLength_4 K 100000 (Int32.ofInt 0) (Int32.ofInt 0) M L
theorem t_X10_wayLength {E : VE} {d : Nat} {Q : QQ} {K : Int32 → Mem → LMem → Prop} {M : Mem} {L : LMem} (hP : P_X10_wayLength M L K) (hK : ∀ (v : Int32) (M : Mem) (L : LMem), K v M L → Q (some (.int v)) M L) : Wp E d 113 0 [.ref 74, .null, .null] [] M L Q := by
  unfold P_X10_wayLength at hP
  refine wp_seg (pc' := 4) [.iconst 0, .istore 1, .iconst 0, .istore 2] (by decide +kernel) (?_ : Wp E d 113 4 [.ref 74, .int (Int32.ofInt 0), .int (Int32.ofInt 0)] [] M L Q)
  exact tl_X10_wayLength_4 hK 100000 (Int32.ofInt 0) (Int32.ofInt 0) M L hP

def PL_X10_wayBits_4 (K : Int32 → Mem → LMem → Prop)  : Nat → Int32 → Int32 → Mem → LMem → Prop
  | 0, _, _, _, _ => False
  | n_ + 1, v1, v2, M, L => (((M 74 20) ≤ v2 → K v1 M L) ∧ (¬ ((M 74 20) ≤ v2) → (vp_in v2 8 ∧ PL_X10_wayBits_4 K n_ (v1 ||| ((Int32.ofInt 1) <<< ((M 86 v2.toNatClampNeg) &&& 31))) (v2 + Int32.ofInt 1) M L)))
theorem tl_X10_wayBits_4 {E : VE} {d : Nat} {Q : QQ} {K : Int32 → Mem → LMem → Prop}  (hK : ∀ (v : Int32) (M : Mem) (L : LMem), K v M L → Q (some (.int v)) M L)  : ∀ (n_ : Nat) (v1 : Int32) (v2 : Int32) (M : Mem) (L : LMem), PL_X10_wayBits_4 K n_ v1 v2 M L → Wp E d 114 4 [.ref 74, .int v1, .int v2] [] M L Q := by
  intro n_
  induction n_ with
  | zero => intro v1 v2 M L hP; exact False.elim hP
  | succ n_ ih =>
    intro v1 v2 M L hP
    unfold PL_X10_wayBits_4 at hP
    refine wp_seg (pc' := 9) [.iload 2, .aload 0, .getfield 660] (by decide +kernel) (?_ : Wp E d 114 9 [.ref 74, .int v1, .int v2] [.int (M 74 20), .int v2] M L Q)
    refine wp_icmpge (off := 20) 29 (by decide +kernel) (by decide) (fun c_1 => ?_) (fun c_1 => ?_)
    · have hP := hP.1 c_1
      refine wp_seg (pc' := 30) [.iload 1] (by decide +kernel) (?_ : Wp E d 114 30 [.ref 74, .int v1, .int v2] [.int v1] M L Q)
      exact wp_iret (by decide +kernel) rfl (hK _ _ _ hP)
    · have hP := hP.2 c_1
      obtain ⟨a_2, hP⟩ := hP
      refine wp_seg (pc' := 20) [.iload 1, .iconst 1, .aload 0, .getfield 658, .iload 2, .iaload] (by decide +kernel) (show aok 86 0 v2 ∧ Wp E d 114 20 [.ref 74, .int v1, .int v2] [.int (M 86 v2.toNatClampNeg), .int (Int32.ofInt 1), .int v1] M L Q from ⟨⟨rfl, a_2⟩, ?_⟩)
      refine wp_seg (pc' := 4) [.ishl, .ior, .istore 1, .iinc 2 1, .goto 0] (by decide +kernel) (?_ : Wp E d 114 4 [.ref 74, .int (v1 ||| ((Int32.ofInt 1) <<< ((M 86 v2.toNatClampNeg) &&& 31))), .int (v2 + Int32.ofInt 1)] [] M L Q)
      exact ih (v1 ||| ((Int32.ofInt 1) <<< ((M 86 v2.toNatClampNeg) &&& 31))) (v2 + Int32.ofInt 1) M L hP
def P_X10_wayBits (M : Mem) (L : LMem) (K : Int32 → Mem → LMem → Prop) : Prop := PL_X10_wayBits_4 K 100000 (Int32.ofInt 0) (Int32.ofInt 0) M L
theorem t_X10_wayBits {E : VE} {d : Nat} {Q : QQ} {K : Int32 → Mem → LMem → Prop} {M : Mem} {L : LMem} (hP : P_X10_wayBits M L K) (hK : ∀ (v : Int32) (M : Mem) (L : LMem), K v M L → Q (some (.int v)) M L) : Wp E d 114 0 [.ref 74, .null, .null] [] M L Q := by
  unfold P_X10_wayBits at hP
  refine wp_seg (pc' := 4) [.iconst 0, .istore 1, .iconst 0, .istore 2] (by decide +kernel) (?_ : Wp E d 114 4 [.ref 74, .int (Int32.ofInt 0), .int (Int32.ofInt 0)] [] M L Q)
  exact tl_X10_wayBits_4 hK 100000 (Int32.ofInt 0) (Int32.ofInt 0) M L hP

def P_X10_way (x1 : Int32) (x2 : Int32) (x3 : Int32) (M : Mem) (L : LMem) (K : Int32 → Mem → LMem → Prop) : Prop := (((f_X10_areTwo M x1 x2) = 0 → K (Int32.ofInt (-1)) M L) ∧ (¬ ((f_X10_areTwo M x1 x2) = 0) → P_X10_layWay x1 x2 (Int32.ofInt 0) M L (fun v_4 M_2 L_3 => ((v_4 = 0 → K (Int32.ofInt (-6)) M_2 L_3) ∧ (¬ (v_4 = 0) → ((x3 = (Int32.ofInt (-1)) → P_X10_wayLength M_2 L_3 (fun v_12 M_10 L_11 => K v_12 M_10 L_11)) ∧ (¬ (x3 = (Int32.ofInt (-1))) → ((x3 = (Int32.ofInt (-2)) → K (M_2 74 20) M_2 L_3) ∧ (¬ (x3 = (Int32.ofInt (-2))) → (((f_X10_in M_2 x3.toInt64 (Int64.ofNat 0) (((M_2 74 20) - (Int32.ofInt 1)).toInt64)) = 0 → K (Int32.ofInt (-6)) M_2 L_3) ∧ (¬ ((f_X10_in M_2 x3.toInt64 (Int64.ofNat 0) (((M_2 74 20) - (Int32.ofInt 1)).toInt64)) = 0) → (vp_in x3 8 ∧ K (M_2 86 x3.toNatClampNeg) M_2 L_3))))))))))))
theorem t_X10_way {E : VE} {d : Nat} {Q : QQ} {K : Int32 → Mem → LMem → Prop} {x1 : Int32} {x2 : Int32} {x3 : Int32} {M : Mem} {L : LMem} (hP : P_X10_way x1 x2 x3 M L K) (hK : ∀ (v : Int32) (M : Mem) (L : LMem), K v M L → Q (some (.int v)) M L) : Wp E (d + 4) 115 0 [.ref 74, .int x1, .int x2, .int x3] [] M L Q := by
  unfold P_X10_way at hP
  refine wp_seg (pc' := 2) [.iload 1, .iload 2] (by decide +kernel) (?_ : Wp E (d + 4) 115 2 [.ref 74, .int x1, .int x2, .int x3] [.int x2, .int x1] M L Q)
  refine wp_callS 96 [.int x1, .int x2] (i := 198) (by decide +kernel) (by decide +kernel) (by decide +kernel) rfl rfl rfl (rest := []) rfl rfl ?_
  refine s_X10_areTwo M x1 x2  ?_
  show Wp E (d + 4) 115 5 [.ref 74, .int x1, .int x2, .int x3] [.int (f_X10_areTwo M x1 x2)] M L Q
  refine wp_ifne (off := 5) 10 (by decide +kernel) (by decide) (fun c_1 => ?_) (fun c_1 => ?_)
  · have hP := hP.2 c_1
    refine wp_seg (pc' := 14) [.aload 0, .iload 1, .iload 2, .iconst 0] (by decide +kernel) (?_ : Wp E (d + 4) 115 14 [.ref 74, .int x1, .int x2, .int x3] [.int (Int32.ofInt 0), .int x2, .int x1, .ref 74] M L Q)
    refine wp_callV 112 74 [.int x1, .int x2, .int (Int32.ofInt 0)] (i := 202) (by decide +kernel) (by decide +kernel) (by decide +kernel) (by decide +kernel) rfl rfl rfl (rest := []) rfl rfl ?_
    refine t_X10_layWay hP (fun v_4 M_2 L_3 hP => ?_)
    show Wp E (d + 4) 115 17 [.ref 74, .int x1, .int x2, .int x3] [.int v_4] M_2 L_3 Q
    refine wp_ifne (off := 6) 23 (by decide +kernel) (by decide) (fun c_5 => ?_) (fun c_5 => ?_)
    · have hP := hP.2 c_5
      refine wp_seg (pc' := 25) [.iload 3, .iconst (-1)] (by decide +kernel) (?_ : Wp E (d + 4) 115 25 [.ref 74, .int x1, .int x2, .int x3] [.int (Int32.ofInt (-1)), .int x3] M_2 L_3 Q)
      refine wp_icmpne (off := 10) 35 (by decide +kernel) (by decide) (fun c_6 => ?_) (fun c_6 => ?_)
      · have hP := hP.2 c_6
        refine wp_seg (pc' := 38) [.iload 3, .iconst (-2)] (by decide +kernel) (?_ : Wp E (d + 4) 115 38 [.ref 74, .int x1, .int x2, .int x3] [.int (Int32.ofInt (-2)), .int x3] M_2 L_3 Q)
        refine wp_icmpne (off := 10) 48 (by decide +kernel) (by decide) (fun c_7 => ?_) (fun c_7 => ?_)
        · have hP := hP.2 c_7
          refine wp_seg (pc' := 58) [.iload 3, .i2l, .ldc2_w 0, .aload 0, .getfield 660, .iconst 1, .isub, .i2l] (by decide +kernel) (?_ : Wp E (d + 4) 115 58 [.ref 74, .int x1, .int x2, .int x3] [.long (((M_2 74 20) - (Int32.ofInt 1)).toInt64), .long (Int64.ofNat 0), .long x3.toInt64] M_2 L_3 Q)
          refine wp_callS 94 [.long x3.toInt64, .long (Int64.ofNat 0), .long (((M_2 74 20) - (Int32.ofInt 1)).toInt64)] (i := 129) (by decide +kernel) (by decide +kernel) (by decide +kernel) rfl rfl rfl (rest := []) rfl rfl ?_
          refine s_X10_in M_2 x3.toInt64 (Int64.ofNat 0) (((M_2 74 20) - (Int32.ofInt 1)).toInt64)  ?_
          show Wp E (d + 4) 115 61 [.ref 74, .int x1, .int x2, .int x3] [.int (f_X10_in M_2 x3.toInt64 (Int64.ofNat 0) (((M_2 74 20) - (Int32.ofInt 1)).toInt64))] M_2 L_3 Q
          refine wp_ifeq (off := 12) 73 (by decide +kernel) (by decide) (fun c_8 => ?_) (fun c_8 => ?_)
          · have hP := hP.1 c_8
            refine wp_seg (pc' := 75) [.iconst (-6)] (by decide +kernel) (?_ : Wp E (d + 4) 115 75 [.ref 74, .int x1, .int x2, .int x3] [.int (Int32.ofInt (-6))] M_2 L_3 Q)
            exact wp_iret (by decide +kernel) rfl (hK _ _ _ hP)
          · have hP := hP.2 c_8
            obtain ⟨a_9, hP⟩ := hP
            refine wp_seg (pc' := 70) [.aload 0, .getfield 658, .iload 3, .iaload] (by decide +kernel) (show aok 86 0 x3 ∧ Wp E (d + 4) 115 70 [.ref 74, .int x1, .int x2, .int x3] [.int (M_2 86 x3.toNatClampNeg)] M_2 L_3 Q from ⟨⟨rfl, a_9⟩, ?_⟩)
            refine wp_seg (pc' := 75) [.goto 0] (by decide +kernel) (?_ : Wp E (d + 4) 115 75 [.ref 74, .int x1, .int x2, .int x3] [.int (M_2 86 x3.toNatClampNeg)] M_2 L_3 Q)
            exact wp_iret (by decide +kernel) rfl (hK _ _ _ hP)
        · have hP := hP.1 c_7
          refine wp_seg (pc' := 75) [.aload 0, .getfield 660, .goto 0] (by decide +kernel) (?_ : Wp E (d + 4) 115 75 [.ref 74, .int x1, .int x2, .int x3] [.int (M_2 74 20)] M_2 L_3 Q)
          exact wp_iret (by decide +kernel) rfl (hK _ _ _ hP)
      · have hP := hP.1 c_6
        refine wp_seg (pc' := 29) [.aload 0] (by decide +kernel) (?_ : Wp E (d + 4) 115 29 [.ref 74, .int x1, .int x2, .int x3] [.ref 74] M_2 L_3 Q)
        refine wp_callV 113 74 [] (i := 206) (by decide +kernel) (by decide +kernel) (by decide +kernel) (by decide +kernel) rfl rfl rfl (rest := []) rfl rfl ?_
        refine t_X10_wayLength hP (fun v_12 M_10 L_11 hP => ?_)
        show Wp E (d + 4) 115 32 [.ref 74, .int x1, .int x2, .int x3] [.int v_12] M_10 L_11 Q
        refine wp_seg (pc' := 75) [.goto 0] (by decide +kernel) (?_ : Wp E (d + 4) 115 75 [.ref 74, .int x1, .int x2, .int x3] [.int v_12] M_10 L_11 Q)
        exact wp_iret (by decide +kernel) rfl (hK _ _ _ hP)
    · have hP := hP.1 c_5
      refine wp_seg (pc' := 22) [.iconst (-6)] (by decide +kernel) (?_ : Wp E (d + 4) 115 22 [.ref 74, .int x1, .int x2, .int x3] [.int (Int32.ofInt (-6))] M_2 L_3 Q)
      exact wp_iret (by decide +kernel) rfl (hK _ _ _ hP)
  · have hP := hP.1 c_1
    refine wp_seg (pc' := 9) [.iconst (-1)] (by decide +kernel) (?_ : Wp E (d + 4) 115 9 [.ref 74, .int x1, .int x2, .int x3] [.int (Int32.ofInt (-1))] M L Q)
    exact wp_iret (by decide +kernel) rfl (hK _ _ _ hP)

def PL_X10_loud_39 (K : Int32 → Mem → LMem → Prop)  : Nat → Int32 → Int32 → Int32 → Int32 → Int32 → Mem → LMem → Prop
  | 0, _, _, _, _, _, _, _ => False
  | n_ + 1, v1, v2, v3, v4, v5, M, L => (((M 74 20) < v5 → K (Int32.ofInt (-6)) M L) ∧ (¬ ((M 74 20) < v5) → (vp_in v5 9 ∧ (((M 87 v5.toNatClampNeg) = v3 → K v4 M L) ∧ (¬ ((M 87 v5.toNatClampNeg) = v3) → (((M 74 20) ≤ v5 → PL_X10_loud_39 K n_ v1 v2 v3 (v4 - (Int32.ofInt 0)) (v5 + Int32.ofInt 1) M L) ∧ (¬ ((M 74 20) ≤ v5) → (vp_in v5 8 ∧ (vp_in (M 86 v5.toNatClampNeg) 13 ∧ PL_X10_loud_39 K n_ v1 v2 v3 (v4 - (M 78 ((M 86 v5.toNatClampNeg).toNatClampNeg))) (v5 + Int32.ofInt 1) M L)))))))))
theorem tl_X10_loud_39 {E : VE} {d : Nat} {Q : QQ} {K : Int32 → Mem → LMem → Prop}  (hK : ∀ (v : Int32) (M : Mem) (L : LMem), K v M L → Q (some (.int v)) M L)  : ∀ (n_ : Nat) (v1 : Int32) (v2 : Int32) (v3 : Int32) (v4 : Int32) (v5 : Int32) (M : Mem) (L : LMem), PL_X10_loud_39 K n_ v1 v2 v3 v4 v5 M L → Wp E (d + 4) 116 39 [.ref 74, .int v1, .int v2, .int v3, .int v4, .int v5] [] M L Q := by
  intro n_
  induction n_ with
  | zero => intro v1 v2 v3 v4 v5 M L hP; exact False.elim hP
  | succ n_ ih =>
    intro v1 v2 v3 v4 v5 M L hP
    unfold PL_X10_loud_39 at hP
    refine wp_seg (pc' := 45) [.iload 5, .aload 0, .getfield 660] (by decide +kernel) (?_ : Wp E (d + 4) 116 45 [.ref 74, .int v1, .int v2, .int v3, .int v4, .int v5] [.int (M 74 20), .int v5] M L Q)
    refine wp_icmpgt (off := 53) 98 (by decide +kernel) (by decide) (fun c_7 => ?_) (fun c_7 => ?_)
    · have hP := hP.1 c_7
      refine wp_seg (pc' := 100) [.iconst (-6)] (by decide +kernel) (?_ : Wp E (d + 4) 116 100 [.ref 74, .int v1, .int v2, .int v3, .int v4, .int v5] [.int (Int32.ofInt (-6))] M L Q)
      exact wp_iret (by decide +kernel) rfl (hK _ _ _ hP)
    · have hP := hP.2 c_7
      obtain ⟨a_8, hP⟩ := hP
      refine wp_seg (pc' := 55) [.aload 0, .getfield 659, .iload 5, .iaload] (by decide +kernel) (show aok 87 0 v5 ∧ Wp E (d + 4) 116 55 [.ref 74, .int v1, .int v2, .int v3, .int v4, .int v5] [.int (M 87 v5.toNatClampNeg)] M L Q from ⟨⟨rfl, a_8⟩, ?_⟩)
      refine wp_seg (pc' := 56) [.iload 3] (by decide +kernel) (?_ : Wp E (d + 4) 116 56 [.ref 74, .int v1, .int v2, .int v3, .int v4, .int v5] [.int v3, .int (M 87 v5.toNatClampNeg)] M L Q)
      refine wp_icmpne (off := 6) 62 (by decide +kernel) (by decide) (fun c_9 => ?_) (fun c_9 => ?_)
      · have hP := hP.2 c_9
        refine wp_seg (pc' := 70) [.iload 4, .iload 5, .aload 0, .getfield 660] (by decide +kernel) (?_ : Wp E (d + 4) 116 70 [.ref 74, .int v1, .int v2, .int v3, .int v4, .int v5] [.int (M 74 20), .int v5, .int v4] M L Q)
        refine wp_icmpge (off := 18) 88 (by decide +kernel) (by decide) (fun c_10 => ?_) (fun c_10 => ?_)
        · have hP := hP.1 c_10
          refine wp_seg (pc' := 39) [.iconst 0, .isub, .istore 4, .iinc 5 1, .goto 0] (by decide +kernel) (?_ : Wp E (d + 4) 116 39 [.ref 74, .int v1, .int v2, .int v3, .int (v4 - (Int32.ofInt 0)), .int (v5 + Int32.ofInt 1)] [] M L Q)
          exact ih v1 v2 v3 (v4 - (Int32.ofInt 0)) (v5 + Int32.ofInt 1) M L hP
        · have hP := hP.2 c_10
          obtain ⟨a_11, hP⟩ := hP
          refine wp_seg (pc' := 84) [.aload 0, .getfield 643, .aload 0, .getfield 658, .iload 5, .iaload] (by decide +kernel) (show aok 86 0 v5 ∧ Wp E (d + 4) 116 84 [.ref 74, .int v1, .int v2, .int v3, .int v4, .int v5] [.int (M 86 v5.toNatClampNeg), .ref 78, .int v4] M L Q from ⟨⟨rfl, a_11⟩, ?_⟩)
          obtain ⟨a_12, hP⟩ := hP
          refine wp_seg (pc' := 85) [.iaload] (by decide +kernel) (show aok 78 0 (M 86 v5.toNatClampNeg) ∧ Wp E (d + 4) 116 85 [.ref 74, .int v1, .int v2, .int v3, .int v4, .int v5] [.int (M 78 ((M 86 v5.toNatClampNeg).toNatClampNeg)), .int v4] M L Q from ⟨⟨rfl, a_12⟩, ?_⟩)
          refine wp_seg (pc' := 39) [.goto 0, .isub, .istore 4, .iinc 5 1, .goto 0] (by decide +kernel) (?_ : Wp E (d + 4) 116 39 [.ref 74, .int v1, .int v2, .int v3, .int (v4 - (M 78 ((M 86 v5.toNatClampNeg).toNatClampNeg))), .int (v5 + Int32.ofInt 1)] [] M L Q)
          exact ih v1 v2 v3 (v4 - (M 78 ((M 86 v5.toNatClampNeg).toNatClampNeg))) (v5 + Int32.ofInt 1) M L hP
      · have hP := hP.1 c_9
        refine wp_seg (pc' := 61) [.iload 4] (by decide +kernel) (?_ : Wp E (d + 4) 116 61 [.ref 74, .int v1, .int v2, .int v3, .int v4, .int v5] [.int v4] M L Q)
        exact wp_iret (by decide +kernel) rfl (hK _ _ _ hP)
def P_X10_loud (x1 : Int32) (x2 : Int32) (x3 : Int32) (M : Mem) (L : LMem) (K : Int32 → Mem → LMem → Prop) : Prop := (((f_X10_areTwo M x1 x2) = 0 → K (Int32.ofInt (-1)) M L) ∧ (¬ ((f_X10_areTwo M x1 x2) = 0) → (((f_X10_isRoom M x3) = 0 → K (Int32.ofInt (-1)) M L) ∧ (¬ ((f_X10_isRoom M x3) = 0) → P_X10_layWay x1 x2 (Int32.ofInt 0) M L (fun v_5 M_3 L_4 => ((v_5 = 0 → K (Int32.ofInt (-6)) M_3 L_4) ∧ (¬ (v_5 = 0) → PL_X10_loud_39 K 100000 x1 x2 x3 (M_3 74 5) (Int32.ofInt 0) M_3 L_4)))))))
theorem t_X10_loud {E : VE} {d : Nat} {Q : QQ} {K : Int32 → Mem → LMem → Prop} {x1 : Int32} {x2 : Int32} {x3 : Int32} {M : Mem} {L : LMem} (hP : P_X10_loud x1 x2 x3 M L K) (hK : ∀ (v : Int32) (M : Mem) (L : LMem), K v M L → Q (some (.int v)) M L) : Wp E (d + 4) 116 0 [.ref 74, .int x1, .int x2, .int x3, .null, .null] [] M L Q := by
  unfold P_X10_loud at hP
  refine wp_seg (pc' := 2) [.iload 1, .iload 2] (by decide +kernel) (?_ : Wp E (d + 4) 116 2 [.ref 74, .int x1, .int x2, .int x3, .null, .null] [.int x2, .int x1] M L Q)
  refine wp_callS 96 [.int x1, .int x2] (i := 198) (by decide +kernel) (by decide +kernel) (by decide +kernel) rfl rfl rfl (rest := []) rfl rfl ?_
  refine s_X10_areTwo M x1 x2  ?_
  show Wp E (d + 4) 116 5 [.ref 74, .int x1, .int x2, .int x3, .null, .null] [.int (f_X10_areTwo M x1 x2)] M L Q
  refine wp_ifeq (off := 10) 15 (by decide +kernel) (by decide) (fun c_1 => ?_) (fun c_1 => ?_)
  · have hP := hP.1 c_1
    refine wp_seg (pc' := 16) [.iconst (-1)] (by decide +kernel) (?_ : Wp E (d + 4) 116 16 [.ref 74, .int x1, .int x2, .int x3, .null, .null] [.int (Int32.ofInt (-1))] M L Q)
    exact wp_iret (by decide +kernel) rfl (hK _ _ _ hP)
  · have hP := hP.2 c_1
    refine wp_seg (pc' := 9) [.iload 3] (by decide +kernel) (?_ : Wp E (d + 4) 116 9 [.ref 74, .int x1, .int x2, .int x3, .null, .null] [.int x3] M L Q)
    refine wp_callS 95 [.int x3] (i := 133) (by decide +kernel) (by decide +kernel) (by decide +kernel) rfl rfl rfl (rest := []) rfl rfl ?_
    refine s_X10_isRoom M x3  ?_
    show Wp E (d + 4) 116 12 [.ref 74, .int x1, .int x2, .int x3, .null, .null] [.int (f_X10_isRoom M x3)] M L Q
    refine wp_ifne (off := 5) 17 (by decide +kernel) (by decide) (fun c_2 => ?_) (fun c_2 => ?_)
    · have hP := hP.2 c_2
      refine wp_seg (pc' := 21) [.aload 0, .iload 1, .iload 2, .iconst 0] (by decide +kernel) (?_ : Wp E (d + 4) 116 21 [.ref 74, .int x1, .int x2, .int x3, .null, .null] [.int (Int32.ofInt 0), .int x2, .int x1, .ref 74] M L Q)
      refine wp_callV 112 74 [.int x1, .int x2, .int (Int32.ofInt 0)] (i := 202) (by decide +kernel) (by decide +kernel) (by decide +kernel) (by decide +kernel) rfl rfl rfl (rest := []) rfl rfl ?_
      refine t_X10_layWay hP (fun v_5 M_3 L_4 hP => ?_)
      show Wp E (d + 4) 116 24 [.ref 74, .int x1, .int x2, .int x3, .null, .null] [.int v_5] M_3 L_4 Q
      refine wp_ifne (off := 6) 30 (by decide +kernel) (by decide) (fun c_6 => ?_) (fun c_6 => ?_)
      · have hP := hP.2 c_6
        refine wp_seg (pc' := 39) [.aload 0, .getfield 645, .istore 4, .iconst 0, .istore 5] (by decide +kernel) (?_ : Wp E (d + 4) 116 39 [.ref 74, .int x1, .int x2, .int x3, .int (M_3 74 5), .int (Int32.ofInt 0)] [] M_3 L_4 Q)
        exact tl_X10_loud_39 hK 100000 x1 x2 x3 (M_3 74 5) (Int32.ofInt 0) M_3 L_4 hP
      · have hP := hP.1 c_6
        refine wp_seg (pc' := 29) [.iconst (-6)] (by decide +kernel) (?_ : Wp E (d + 4) 116 29 [.ref 74, .int x1, .int x2, .int x3, .null, .null] [.int (Int32.ofInt (-6))] M_3 L_4 Q)
        exact wp_iret (by decide +kernel) rfl (hK _ _ _ hP)
    · have hP := hP.1 c_2
      refine wp_seg (pc' := 16) [.iconst (-1)] (by decide +kernel) (?_ : Wp E (d + 4) 116 16 [.ref 74, .int x1, .int x2, .int x3, .null, .null] [.int (Int32.ofInt (-1))] M L Q)
      exact wp_iret (by decide +kernel) rfl (hK _ _ _ hP)

def PL_X10_heardBy_14 (K : Int32 → Mem → LMem → Prop)  : Nat → Int32 → Int32 → Int32 → Mem → LMem → Prop
  | 0, _, _, _, _, _ => False
  | n_ + 1, v1, v2, v3, M, L => (((M 74 20) ≤ v3 → K v2 M L) ∧ (¬ ((M 74 20) ≤ v3) → ((v3 ≤ 0 → (vp_in v3 8 ∧ (vp_in (M 86 v3.toNatClampNeg) 13 ∧ (((M 77 ((M 86 v3.toNatClampNeg).toNatClampNeg)) = (Int32.ofInt 126) → (vp_in v3 9 ∧ (vp_in (v3 + (Int32.ofInt 1)) 9 ∧ PL_X10_heardBy_14 K n_ v1 ((v2 ||| (Int32.ofInt 0)) ||| (((Int32.ofInt 1) <<< ((M 87 v3.toNatClampNeg) &&& 31)) ||| ((Int32.ofInt 1) <<< ((M 87 ((v3 + (Int32.ofInt 1)).toNatClampNeg)) &&& 31)))) (v3 + Int32.ofInt 1) M L))) ∧ (¬ ((M 77 ((M 86 v3.toNatClampNeg).toNatClampNeg)) = (Int32.ofInt 126)) → PL_X10_heardBy_14 K n_ v1 ((v2 ||| (Int32.ofInt 0)) ||| (Int32.ofInt 0)) (v3 + Int32.ofInt 1) M L))))) ∧ (¬ (v3 ≤ 0) → (vp_in v3 9 ∧ ((((v1 >>> ((M 87 v3.toNatClampNeg) &&& 31)) &&& (Int32.ofInt 1)) = 0 → (vp_in v3 8 ∧ (vp_in (M 86 v3.toNatClampNeg) 13 ∧ (((M 77 ((M 86 v3.toNatClampNeg).toNatClampNeg)) = (Int32.ofInt 126) → (vp_in (v3 + (Int32.ofInt 1)) 9 ∧ PL_X10_heardBy_14 K n_ v1 ((v2 ||| ((Int32.ofInt 1) <<< ((M 87 v3.toNatClampNeg) &&& 31))) ||| (((Int32.ofInt 1) <<< ((M 87 v3.toNatClampNeg) &&& 31)) ||| ((Int32.ofInt 1) <<< ((M 87 ((v3 + (Int32.ofInt 1)).toNatClampNeg)) &&& 31)))) (v3 + Int32.ofInt 1) M L)) ∧ (¬ ((M 77 ((M 86 v3.toNatClampNeg).toNatClampNeg)) = (Int32.ofInt 126)) → PL_X10_heardBy_14 K n_ v1 ((v2 ||| ((Int32.ofInt 1) <<< ((M 87 v3.toNatClampNeg) &&& 31))) ||| (Int32.ofInt 0)) (v3 + Int32.ofInt 1) M L))))) ∧ (¬ (((v1 >>> ((M 87 v3.toNatClampNeg) &&& 31)) &&& (Int32.ofInt 1)) = 0) → (vp_in v3 8 ∧ (vp_in (M 86 v3.toNatClampNeg) 13 ∧ (((M 77 ((M 86 v3.toNatClampNeg).toNatClampNeg)) = (Int32.ofInt 126) → (vp_in (v3 + (Int32.ofInt 1)) 9 ∧ PL_X10_heardBy_14 K n_ v1 ((v2 ||| (Int32.ofInt 0)) ||| (((Int32.ofInt 1) <<< ((M 87 v3.toNatClampNeg) &&& 31)) ||| ((Int32.ofInt 1) <<< ((M 87 ((v3 + (Int32.ofInt 1)).toNatClampNeg)) &&& 31)))) (v3 + Int32.ofInt 1) M L)) ∧ (¬ ((M 77 ((M 86 v3.toNatClampNeg).toNatClampNeg)) = (Int32.ofInt 126)) → PL_X10_heardBy_14 K n_ v1 ((v2 ||| (Int32.ofInt 0)) ||| (Int32.ofInt 0)) (v3 + Int32.ofInt 1) M L)))))))))))
theorem tl_X10_heardBy_14 {E : VE} {d : Nat} {Q : QQ} {K : Int32 → Mem → LMem → Prop}  (hK : ∀ (v : Int32) (M : Mem) (L : LMem), K v M L → Q (some (.int v)) M L)  : ∀ (n_ : Nat) (v1 : Int32) (v2 : Int32) (v3 : Int32) (M : Mem) (L : LMem), PL_X10_heardBy_14 K n_ v1 v2 v3 M L → Wp E d 117 14 [.ref 74, .int v1, .int v2, .int v3] [] M L Q := by
  intro n_
  induction n_ with
  | zero => intro v1 v2 v3 M L hP; exact False.elim hP
  | succ n_ ih =>
    intro v1 v2 v3 M L hP
    unfold PL_X10_heardBy_14 at hP
    refine wp_seg (pc' := 19) [.iload 3, .aload 0, .getfield 660] (by decide +kernel) (?_ : Wp E d 117 19 [.ref 74, .int v1, .int v2, .int v3] [.int (M 74 20), .int v3] M L Q)
    refine wp_icmpge (off := 83) 102 (by decide +kernel) (by decide) (fun c_2 => ?_) (fun c_2 => ?_)
    · have hP := hP.1 c_2
      refine wp_seg (pc' := 103) [.iload 2] (by decide +kernel) (?_ : Wp E d 117 103 [.ref 74, .int v1, .int v2, .int v3] [.int v2] M L Q)
      exact wp_iret (by decide +kernel) rfl (hK _ _ _ hP)
    · have hP := hP.2 c_2
      refine wp_seg (pc' := 24) [.iload 2, .iload 3] (by decide +kernel) (?_ : Wp E d 117 24 [.ref 74, .int v1, .int v2, .int v3] [.int v3, .int v2] M L Q)
      refine wp_ifle (off := 27) 51 (by decide +kernel) (by decide) (fun c_3 => ?_) (fun c_3 => ?_)
      · have hP := hP.1 c_3
        obtain ⟨a_4, hP⟩ := hP
        refine wp_seg (pc' := 65) [.iconst 0, .ior, .istore 2, .iload 2, .aload 0, .getfield 642, .aload 0, .getfield 658, .iload 3, .iaload] (by decide +kernel) (show aok 86 0 v3 ∧ Wp E d 117 65 [.ref 74, .int v1, .int (v2 ||| (Int32.ofInt 0)), .int v3] [.int (M 86 v3.toNatClampNeg), .ref 77, .int (v2 ||| (Int32.ofInt 0))] M L Q from ⟨⟨rfl, a_4⟩, ?_⟩)
        obtain ⟨a_5, hP⟩ := hP
        refine wp_seg (pc' := 66) [.iaload] (by decide +kernel) (show aok 77 0 (M 86 v3.toNatClampNeg) ∧ Wp E d 117 66 [.ref 74, .int v1, .int (v2 ||| (Int32.ofInt 0)), .int v3] [.int (M 77 ((M 86 v3.toNatClampNeg).toNatClampNeg)), .int (v2 ||| (Int32.ofInt 0))] M L Q from ⟨⟨rfl, a_5⟩, ?_⟩)
        refine wp_seg (pc' := 68) [.iconst 126] (by decide +kernel) (?_ : Wp E d 117 68 [.ref 74, .int v1, .int (v2 ||| (Int32.ofInt 0)), .int v3] [.int (Int32.ofInt 126), .int (M 77 ((M 86 v3.toNatClampNeg).toNatClampNeg)), .int (v2 ||| (Int32.ofInt 0))] M L Q)
        refine wp_icmpne (off := 25) 93 (by decide +kernel) (by decide) (fun c_6 => ?_) (fun c_6 => ?_)
        · have hP := hP.2 c_6
          refine wp_seg (pc' := 14) [.iconst 0, .ior, .istore 2, .iinc 3 1, .goto 0] (by decide +kernel) (?_ : Wp E d 117 14 [.ref 74, .int v1, .int ((v2 ||| (Int32.ofInt 0)) ||| (Int32.ofInt 0)), .int (v3 + Int32.ofInt 1)] [] M L Q)
          exact ih v1 ((v2 ||| (Int32.ofInt 0)) ||| (Int32.ofInt 0)) (v3 + Int32.ofInt 1) M L hP
        · have hP := hP.1 c_6
          obtain ⟨a_7, hP⟩ := hP
          refine wp_seg (pc' := 78) [.iconst 1, .aload 0, .getfield 659, .iload 3, .iaload] (by decide +kernel) (show aok 87 0 v3 ∧ Wp E d 117 78 [.ref 74, .int v1, .int (v2 ||| (Int32.ofInt 0)), .int v3] [.int (M 87 v3.toNatClampNeg), .int (Int32.ofInt 1), .int (v2 ||| (Int32.ofInt 0))] M L Q from ⟨⟨rfl, a_7⟩, ?_⟩)
          obtain ⟨a_8, hP⟩ := hP
          refine wp_seg (pc' := 88) [.ishl, .iconst 1, .aload 0, .getfield 659, .iload 3, .iconst 1, .iadd, .iaload] (by decide +kernel) (show aok 87 0 (v3 + (Int32.ofInt 1)) ∧ Wp E d 117 88 [.ref 74, .int v1, .int (v2 ||| (Int32.ofInt 0)), .int v3] [.int (M 87 ((v3 + (Int32.ofInt 1)).toNatClampNeg)), .int (Int32.ofInt 1), .int ((Int32.ofInt 1) <<< ((M 87 v3.toNatClampNeg) &&& 31)), .int (v2 ||| (Int32.ofInt 0))] M L Q from ⟨⟨rfl, a_8⟩, ?_⟩)
          refine wp_seg (pc' := 14) [.ishl, .ior, .goto 0, .ior, .istore 2, .iinc 3 1, .goto 0] (by decide +kernel) (?_ : Wp E d 117 14 [.ref 74, .int v1, .int ((v2 ||| (Int32.ofInt 0)) ||| (((Int32.ofInt 1) <<< ((M 87 v3.toNatClampNeg) &&& 31)) ||| ((Int32.ofInt 1) <<< ((M 87 ((v3 + (Int32.ofInt 1)).toNatClampNeg)) &&& 31)))), .int (v3 + Int32.ofInt 1)] [] M L Q)
          exact ih v1 ((v2 ||| (Int32.ofInt 0)) ||| (((Int32.ofInt 1) <<< ((M 87 v3.toNatClampNeg) &&& 31)) ||| ((Int32.ofInt 1) <<< ((M 87 ((v3 + (Int32.ofInt 1)).toNatClampNeg)) &&& 31)))) (v3 + Int32.ofInt 1) M L hP
      · have hP := hP.2 c_3
        obtain ⟨a_9, hP⟩ := hP
        refine wp_seg (pc' := 34) [.iload 1, .aload 0, .getfield 659, .iload 3, .iaload] (by decide +kernel) (show aok 87 0 v3 ∧ Wp E d 117 34 [.ref 74, .int v1, .int v2, .int v3] [.int (M 87 v3.toNatClampNeg), .int v1, .int v2] M L Q from ⟨⟨rfl, a_9⟩, ?_⟩)
        refine wp_seg (pc' := 37) [.ishr, .iconst 1, .iand] (by decide +kernel) (?_ : Wp E d 117 37 [.ref 74, .int v1, .int v2, .int v3] [.int ((v1 >>> ((M 87 v3.toNatClampNeg) &&& 31)) &&& (Int32.ofInt 1)), .int v2] M L Q)
        refine wp_ifne (off := 14) 51 (by decide +kernel) (by decide) (fun c_10 => ?_) (fun c_10 => ?_)
        · have hP := hP.2 c_10
          obtain ⟨a_11, hP⟩ := hP
          refine wp_seg (pc' := 65) [.iconst 0, .ior, .istore 2, .iload 2, .aload 0, .getfield 642, .aload 0, .getfield 658, .iload 3, .iaload] (by decide +kernel) (show aok 86 0 v3 ∧ Wp E d 117 65 [.ref 74, .int v1, .int (v2 ||| (Int32.ofInt 0)), .int v3] [.int (M 86 v3.toNatClampNeg), .ref 77, .int (v2 ||| (Int32.ofInt 0))] M L Q from ⟨⟨rfl, a_11⟩, ?_⟩)
          obtain ⟨a_12, hP⟩ := hP
          refine wp_seg (pc' := 66) [.iaload] (by decide +kernel) (show aok 77 0 (M 86 v3.toNatClampNeg) ∧ Wp E d 117 66 [.ref 74, .int v1, .int (v2 ||| (Int32.ofInt 0)), .int v3] [.int (M 77 ((M 86 v3.toNatClampNeg).toNatClampNeg)), .int (v2 ||| (Int32.ofInt 0))] M L Q from ⟨⟨rfl, a_12⟩, ?_⟩)
          refine wp_seg (pc' := 68) [.iconst 126] (by decide +kernel) (?_ : Wp E d 117 68 [.ref 74, .int v1, .int (v2 ||| (Int32.ofInt 0)), .int v3] [.int (Int32.ofInt 126), .int (M 77 ((M 86 v3.toNatClampNeg).toNatClampNeg)), .int (v2 ||| (Int32.ofInt 0))] M L Q)
          refine wp_icmpne (off := 25) 93 (by decide +kernel) (by decide) (fun c_13 => ?_) (fun c_13 => ?_)
          · have hP := hP.2 c_13
            refine wp_seg (pc' := 14) [.iconst 0, .ior, .istore 2, .iinc 3 1, .goto 0] (by decide +kernel) (?_ : Wp E d 117 14 [.ref 74, .int v1, .int ((v2 ||| (Int32.ofInt 0)) ||| (Int32.ofInt 0)), .int (v3 + Int32.ofInt 1)] [] M L Q)
            exact ih v1 ((v2 ||| (Int32.ofInt 0)) ||| (Int32.ofInt 0)) (v3 + Int32.ofInt 1) M L hP
          · have hP := hP.1 c_13
            refine wp_seg (pc' := 78) [.iconst 1, .aload 0, .getfield 659, .iload 3, .iaload] (by decide +kernel) (show aok 87 0 v3 ∧ Wp E d 117 78 [.ref 74, .int v1, .int (v2 ||| (Int32.ofInt 0)), .int v3] [.int (M 87 v3.toNatClampNeg), .int (Int32.ofInt 1), .int (v2 ||| (Int32.ofInt 0))] M L Q from ⟨⟨rfl, a_9⟩, ?_⟩)
            obtain ⟨a_14, hP⟩ := hP
            refine wp_seg (pc' := 88) [.ishl, .iconst 1, .aload 0, .getfield 659, .iload 3, .iconst 1, .iadd, .iaload] (by decide +kernel) (show aok 87 0 (v3 + (Int32.ofInt 1)) ∧ Wp E d 117 88 [.ref 74, .int v1, .int (v2 ||| (Int32.ofInt 0)), .int v3] [.int (M 87 ((v3 + (Int32.ofInt 1)).toNatClampNeg)), .int (Int32.ofInt 1), .int ((Int32.ofInt 1) <<< ((M 87 v3.toNatClampNeg) &&& 31)), .int (v2 ||| (Int32.ofInt 0))] M L Q from ⟨⟨rfl, a_14⟩, ?_⟩)
            refine wp_seg (pc' := 14) [.ishl, .ior, .goto 0, .ior, .istore 2, .iinc 3 1, .goto 0] (by decide +kernel) (?_ : Wp E d 117 14 [.ref 74, .int v1, .int ((v2 ||| (Int32.ofInt 0)) ||| (((Int32.ofInt 1) <<< ((M 87 v3.toNatClampNeg) &&& 31)) ||| ((Int32.ofInt 1) <<< ((M 87 ((v3 + (Int32.ofInt 1)).toNatClampNeg)) &&& 31)))), .int (v3 + Int32.ofInt 1)] [] M L Q)
            exact ih v1 ((v2 ||| (Int32.ofInt 0)) ||| (((Int32.ofInt 1) <<< ((M 87 v3.toNatClampNeg) &&& 31)) ||| ((Int32.ofInt 1) <<< ((M 87 ((v3 + (Int32.ofInt 1)).toNatClampNeg)) &&& 31)))) (v3 + Int32.ofInt 1) M L hP
        · have hP := hP.1 c_10
          refine wp_seg (pc' := 47) [.iconst 1, .aload 0, .getfield 659, .iload 3, .iaload] (by decide +kernel) (show aok 87 0 v3 ∧ Wp E d 117 47 [.ref 74, .int v1, .int v2, .int v3] [.int (M 87 v3.toNatClampNeg), .int (Int32.ofInt 1), .int v2] M L Q from ⟨⟨rfl, a_9⟩, ?_⟩)
          obtain ⟨a_15, hP⟩ := hP
          refine wp_seg (pc' := 65) [.ishl, .goto 0, .ior, .istore 2, .iload 2, .aload 0, .getfield 642, .aload 0, .getfield 658, .iload 3, .iaload] (by decide +kernel) (show aok 86 0 v3 ∧ Wp E d 117 65 [.ref 74, .int v1, .int (v2 ||| ((Int32.ofInt 1) <<< ((M 87 v3.toNatClampNeg) &&& 31))), .int v3] [.int (M 86 v3.toNatClampNeg), .ref 77, .int (v2 ||| ((Int32.ofInt 1) <<< ((M 87 v3.toNatClampNeg) &&& 31)))] M L Q from ⟨⟨rfl, a_15⟩, ?_⟩)
          obtain ⟨a_16, hP⟩ := hP
          refine wp_seg (pc' := 66) [.iaload] (by decide +kernel) (show aok 77 0 (M 86 v3.toNatClampNeg) ∧ Wp E d 117 66 [.ref 74, .int v1, .int (v2 ||| ((Int32.ofInt 1) <<< ((M 87 v3.toNatClampNeg) &&& 31))), .int v3] [.int (M 77 ((M 86 v3.toNatClampNeg).toNatClampNeg)), .int (v2 ||| ((Int32.ofInt 1) <<< ((M 87 v3.toNatClampNeg) &&& 31)))] M L Q from ⟨⟨rfl, a_16⟩, ?_⟩)
          refine wp_seg (pc' := 68) [.iconst 126] (by decide +kernel) (?_ : Wp E d 117 68 [.ref 74, .int v1, .int (v2 ||| ((Int32.ofInt 1) <<< ((M 87 v3.toNatClampNeg) &&& 31))), .int v3] [.int (Int32.ofInt 126), .int (M 77 ((M 86 v3.toNatClampNeg).toNatClampNeg)), .int (v2 ||| ((Int32.ofInt 1) <<< ((M 87 v3.toNatClampNeg) &&& 31)))] M L Q)
          refine wp_icmpne (off := 25) 93 (by decide +kernel) (by decide) (fun c_17 => ?_) (fun c_17 => ?_)
          · have hP := hP.2 c_17
            refine wp_seg (pc' := 14) [.iconst 0, .ior, .istore 2, .iinc 3 1, .goto 0] (by decide +kernel) (?_ : Wp E d 117 14 [.ref 74, .int v1, .int ((v2 ||| ((Int32.ofInt 1) <<< ((M 87 v3.toNatClampNeg) &&& 31))) ||| (Int32.ofInt 0)), .int (v3 + Int32.ofInt 1)] [] M L Q)
            exact ih v1 ((v2 ||| ((Int32.ofInt 1) <<< ((M 87 v3.toNatClampNeg) &&& 31))) ||| (Int32.ofInt 0)) (v3 + Int32.ofInt 1) M L hP
          · have hP := hP.1 c_17
            refine wp_seg (pc' := 78) [.iconst 1, .aload 0, .getfield 659, .iload 3, .iaload] (by decide +kernel) (show aok 87 0 v3 ∧ Wp E d 117 78 [.ref 74, .int v1, .int (v2 ||| ((Int32.ofInt 1) <<< ((M 87 v3.toNatClampNeg) &&& 31))), .int v3] [.int (M 87 v3.toNatClampNeg), .int (Int32.ofInt 1), .int (v2 ||| ((Int32.ofInt 1) <<< ((M 87 v3.toNatClampNeg) &&& 31)))] M L Q from ⟨⟨rfl, a_9⟩, ?_⟩)
            obtain ⟨a_18, hP⟩ := hP
            refine wp_seg (pc' := 88) [.ishl, .iconst 1, .aload 0, .getfield 659, .iload 3, .iconst 1, .iadd, .iaload] (by decide +kernel) (show aok 87 0 (v3 + (Int32.ofInt 1)) ∧ Wp E d 117 88 [.ref 74, .int v1, .int (v2 ||| ((Int32.ofInt 1) <<< ((M 87 v3.toNatClampNeg) &&& 31))), .int v3] [.int (M 87 ((v3 + (Int32.ofInt 1)).toNatClampNeg)), .int (Int32.ofInt 1), .int ((Int32.ofInt 1) <<< ((M 87 v3.toNatClampNeg) &&& 31)), .int (v2 ||| ((Int32.ofInt 1) <<< ((M 87 v3.toNatClampNeg) &&& 31)))] M L Q from ⟨⟨rfl, a_18⟩, ?_⟩)
            refine wp_seg (pc' := 14) [.ishl, .ior, .goto 0, .ior, .istore 2, .iinc 3 1, .goto 0] (by decide +kernel) (?_ : Wp E d 117 14 [.ref 74, .int v1, .int ((v2 ||| ((Int32.ofInt 1) <<< ((M 87 v3.toNatClampNeg) &&& 31))) ||| (((Int32.ofInt 1) <<< ((M 87 v3.toNatClampNeg) &&& 31)) ||| ((Int32.ofInt 1) <<< ((M 87 ((v3 + (Int32.ofInt 1)).toNatClampNeg)) &&& 31)))), .int (v3 + Int32.ofInt 1)] [] M L Q)
            exact ih v1 ((v2 ||| ((Int32.ofInt 1) <<< ((M 87 v3.toNatClampNeg) &&& 31))) ||| (((Int32.ofInt 1) <<< ((M 87 v3.toNatClampNeg) &&& 31)) ||| ((Int32.ofInt 1) <<< ((M 87 ((v3 + (Int32.ofInt 1)).toNatClampNeg)) &&& 31)))) (v3 + Int32.ofInt 1) M L hP
def P_X10_heardBy (x1 : Int32) (M : Mem) (L : LMem) (K : Int32 → Mem → LMem → Prop) : Prop := (vp_in (M 74 20) 9 ∧ PL_X10_heardBy_14 K 100000 x1 ((Int32.ofInt 1) <<< ((M 87 ((M 74 20).toNatClampNeg)) &&& 31)) (Int32.ofInt 0) M L)
theorem t_X10_heardBy {E : VE} {d : Nat} {Q : QQ} {K : Int32 → Mem → LMem → Prop} {x1 : Int32} {M : Mem} {L : LMem} (hP : P_X10_heardBy x1 M L K) (hK : ∀ (v : Int32) (M : Mem) (L : LMem), K v M L → Q (some (.int v)) M L) : Wp E d 117 0 [.ref 74, .int x1, .null, .null] [] M L Q := by
  unfold P_X10_heardBy at hP
  obtain ⟨a_1, hP⟩ := hP
  refine wp_seg (pc' := 10) [.iconst 1, .aload 0, .getfield 659, .aload 0, .getfield 660, .iaload] (by decide +kernel) (show aok 87 0 (M 74 20) ∧ Wp E d 117 10 [.ref 74, .int x1, .null, .null] [.int (M 87 ((M 74 20).toNatClampNeg)), .int (Int32.ofInt 1)] M L Q from ⟨⟨rfl, a_1⟩, ?_⟩)
  refine wp_seg (pc' := 14) [.ishl, .istore 2, .iconst 0, .istore 3] (by decide +kernel) (?_ : Wp E d 117 14 [.ref 74, .int x1, .int ((Int32.ofInt 1) <<< ((M 87 ((M 74 20).toNatClampNeg)) &&& 31)), .int (Int32.ofInt 0)] [] M L Q)
  exact tl_X10_heardBy_14 hK 100000 x1 ((Int32.ofInt 1) <<< ((M 87 ((M 74 20).toNatClampNeg)) &&& 31)) (Int32.ofInt 0) M L hP

def P_X10_heard (x1 : Int32) (x2 : Int32) (M : Mem) (L : LMem) (K : Int32 → Mem → LMem → Prop) : Prop := (((f_X10_areTwo M x1 x2) = 0 → K (Int32.ofInt (-1)) M L) ∧ (¬ ((f_X10_areTwo M x1 x2) = 0) → P_X10_layWay x1 x2 (Int32.ofInt 0) M L (fun v_4 M_2 L_3 => ((v_4 = 0 → K (Int32.ofInt (-6)) M_2 L_3) ∧ (¬ (v_4 = 0) → P_X10_heardBy (M_2 74 6) M_2 L_3 (fun v_8 M_6 L_7 => K v_8 M_6 L_7))))))
theorem t_X10_heard {E : VE} {d : Nat} {Q : QQ} {K : Int32 → Mem → LMem → Prop} {x1 : Int32} {x2 : Int32} {M : Mem} {L : LMem} (hP : P_X10_heard x1 x2 M L K) (hK : ∀ (v : Int32) (M : Mem) (L : LMem), K v M L → Q (some (.int v)) M L) : Wp E (d + 4) 118 0 [.ref 74, .int x1, .int x2] [] M L Q := by
  unfold P_X10_heard at hP
  refine wp_seg (pc' := 2) [.iload 1, .iload 2] (by decide +kernel) (?_ : Wp E (d + 4) 118 2 [.ref 74, .int x1, .int x2] [.int x2, .int x1] M L Q)
  refine wp_callS 96 [.int x1, .int x2] (i := 198) (by decide +kernel) (by decide +kernel) (by decide +kernel) rfl rfl rfl (rest := []) rfl rfl ?_
  refine s_X10_areTwo M x1 x2  ?_
  show Wp E (d + 4) 118 5 [.ref 74, .int x1, .int x2] [.int (f_X10_areTwo M x1 x2)] M L Q
  refine wp_ifne (off := 5) 10 (by decide +kernel) (by decide) (fun c_1 => ?_) (fun c_1 => ?_)
  · have hP := hP.2 c_1
    refine wp_seg (pc' := 14) [.aload 0, .iload 1, .iload 2, .iconst 0] (by decide +kernel) (?_ : Wp E (d + 4) 118 14 [.ref 74, .int x1, .int x2] [.int (Int32.ofInt 0), .int x2, .int x1, .ref 74] M L Q)
    refine wp_callV 112 74 [.int x1, .int x2, .int (Int32.ofInt 0)] (i := 202) (by decide +kernel) (by decide +kernel) (by decide +kernel) (by decide +kernel) rfl rfl rfl (rest := []) rfl rfl ?_
    refine t_X10_layWay hP (fun v_4 M_2 L_3 hP => ?_)
    show Wp E (d + 4) 118 17 [.ref 74, .int x1, .int x2] [.int v_4] M_2 L_3 Q
    refine wp_ifeq (off := 14) 31 (by decide +kernel) (by decide) (fun c_5 => ?_) (fun c_5 => ?_)
    · have hP := hP.1 c_5
      refine wp_seg (pc' := 33) [.iconst (-6)] (by decide +kernel) (?_ : Wp E (d + 4) 118 33 [.ref 74, .int x1, .int x2] [.int (Int32.ofInt (-6))] M_2 L_3 Q)
      exact wp_iret (by decide +kernel) rfl (hK _ _ _ hP)
    · have hP := hP.2 c_5
      refine wp_seg (pc' := 25) [.aload 0, .aload 0, .getfield 646] (by decide +kernel) (?_ : Wp E (d + 4) 118 25 [.ref 74, .int x1, .int x2] [.int (M_2 74 6), .ref 74] M_2 L_3 Q)
      refine wp_callV 117 74 [.int (M_2 74 6)] (i := 209) (by decide +kernel) (by decide +kernel) (by decide +kernel) (by decide +kernel) rfl rfl rfl (rest := []) rfl rfl ?_
      refine t_X10_heardBy hP (fun v_8 M_6 L_7 hP => ?_)
      show Wp E (d + 4) 118 28 [.ref 74, .int x1, .int x2] [.int v_8] M_6 L_7 Q
      refine wp_seg (pc' := 33) [.goto 0] (by decide +kernel) (?_ : Wp E (d + 4) 118 33 [.ref 74, .int x1, .int x2] [.int v_8] M_6 L_7 Q)
      exact wp_iret (by decide +kernel) rfl (hK _ _ _ hP)
  · have hP := hP.1 c_1
    refine wp_seg (pc' := 9) [.iconst (-1)] (by decide +kernel) (?_ : Wp E (d + 4) 118 9 [.ref 74, .int x1, .int x2] [.int (Int32.ofInt (-1))] M L Q)
    exact wp_iret (by decide +kernel) rfl (hK _ _ _ hP)

def PL_X10_add_97_2 (K : Mem → LMem → Prop)  : Nat → Int32 → Int32 → Int32 → Mem → LMem → Prop
  | 0, _, _, _, _, _ => False
  | n_ + 1, v1, v2, v3, M, L => (((Int32.ofInt 8) ≤ v3 → K M L) ∧ (¬ ((Int32.ofInt 8) ≤ v3) → (vp_in v3 8 ∧ ((((v1 >>> (v3 &&& 31)) &&& (Int32.ofInt 1)) = (Int32.ofInt 1) → PL_X10_add_97_2 K n_ v1 v2 (v3 + Int32.ofInt 1) (mput M 97 v3.toNatClampNeg ((M 97 v3.toNatClampNeg) ||| v2)) L) ∧ (¬ (((v1 >>> (v3 &&& 31)) &&& (Int32.ofInt 1)) = (Int32.ofInt 1)) → PL_X10_add_97_2 K n_ v1 v2 (v3 + Int32.ofInt 1) (mput M 97 v3.toNatClampNeg ((M 97 v3.toNatClampNeg) ||| (Int32.ofInt 0))) L)))))
theorem tl_X10_add_97_2 {E : VE} {d : Nat} {Q : QQ} {K : Mem → LMem → Prop}  (hK : ∀ (M : Mem) (L : LMem), K M L → Q none M L)  : ∀ (n_ : Nat) (v1 : Int32) (v2 : Int32) (v3 : Int32) (M : Mem) (L : LMem), PL_X10_add_97_2 K n_ v1 v2 v3 M L → Wp E d 119 2 [.ref 97, .int v1, .int v2, .int v3] [] M L Q := by
  intro n_
  induction n_ with
  | zero => intro v1 v2 v3 M L hP; exact False.elim hP
  | succ n_ ih =>
    intro v1 v2 v3 M L hP
    unfold PL_X10_add_97_2 at hP
    refine wp_seg (pc' := 5) [.iload 3, .iconst 8] (by decide +kernel) (?_ : Wp E d 119 5 [.ref 97, .int v1, .int v2, .int v3] [.int (Int32.ofInt 8), .int v3] M L Q)
    refine wp_icmpge (off := 29) 34 (by decide +kernel) (by decide) (fun c_1 => ?_) (fun c_1 => ?_)
    · have hP := hP.1 c_1
      exact wp_vret (by decide +kernel) rfl (hK _ _ hP)
    · have hP := hP.2 c_1
      obtain ⟨a_2, hP⟩ := hP
      refine wp_seg (pc' := 12) [.aload 0, .iload 3, .dup2, .iaload] (by decide +kernel) (show aok 97 0 v3 ∧ Wp E d 119 12 [.ref 97, .int v1, .int v2, .int v3] [.int (M 97 v3.toNatClampNeg), .int v3, .ref 97] M L Q from ⟨⟨rfl, a_2⟩, ?_⟩)
      refine wp_seg (pc' := 18) [.iload 1, .iload 3, .ishr, .iconst 1, .iand, .iconst 1] (by decide +kernel) (?_ : Wp E d 119 18 [.ref 97, .int v1, .int v2, .int v3] [.int (Int32.ofInt 1), .int ((v1 >>> (v3 &&& 31)) &&& (Int32.ofInt 1)), .int (M 97 v3.toNatClampNeg), .int v3, .ref 97] M L Q)
      refine wp_icmpne (off := 7) 25 (by decide +kernel) (by decide) (fun c_3 => ?_) (fun c_3 => ?_)
      · have hP := hP.2 c_3
        refine wp_seg (pc' := 28) [.iconst 0, .ior, .iastore] (by decide +kernel) (show aok 97 0 v3 ∧ Wp E d 119 28 [.ref 97, .int v1, .int v2, .int v3] [] (mput M 97 v3.toNatClampNeg ((M 97 v3.toNatClampNeg) ||| (Int32.ofInt 0))) L Q from ⟨⟨rfl, a_2⟩, ?_⟩)
        refine wp_seg (pc' := 2) [.iinc 3 1, .goto 0] (by decide +kernel) (?_ : Wp E d 119 2 [.ref 97, .int v1, .int v2, .int (v3 + Int32.ofInt 1)] [] (mput M 97 v3.toNatClampNeg ((M 97 v3.toNatClampNeg) ||| (Int32.ofInt 0))) L Q)
        exact ih v1 v2 (v3 + Int32.ofInt 1) (mput M 97 v3.toNatClampNeg ((M 97 v3.toNatClampNeg) ||| (Int32.ofInt 0))) L hP
      · have hP := hP.1 c_3
        refine wp_seg (pc' := 28) [.iload 2, .goto 0, .ior, .iastore] (by decide +kernel) (show aok 97 0 v3 ∧ Wp E d 119 28 [.ref 97, .int v1, .int v2, .int v3] [] (mput M 97 v3.toNatClampNeg ((M 97 v3.toNatClampNeg) ||| v2)) L Q from ⟨⟨rfl, a_2⟩, ?_⟩)
        refine wp_seg (pc' := 2) [.iinc 3 1, .goto 0] (by decide +kernel) (?_ : Wp E d 119 2 [.ref 97, .int v1, .int v2, .int (v3 + Int32.ofInt 1)] [] (mput M 97 v3.toNatClampNeg ((M 97 v3.toNatClampNeg) ||| v2)) L Q)
        exact ih v1 v2 (v3 + Int32.ofInt 1) (mput M 97 v3.toNatClampNeg ((M 97 v3.toNatClampNeg) ||| v2)) L hP
def P_X10_add_97 (x2 : Int32) (x3 : Int32) (M : Mem) (L : LMem) (K : Mem → LMem → Prop) : Prop := PL_X10_add_97_2 K 100000 x2 x3 (Int32.ofInt 0) M L
theorem t_X10_add_97 {E : VE} {d : Nat} {Q : QQ} {K : Mem → LMem → Prop} {x2 : Int32} {x3 : Int32} {M : Mem} {L : LMem} (hP : P_X10_add_97 x2 x3 M L K) (hK : ∀ (M : Mem) (L : LMem), K M L → Q none M L) : Wp E d 119 0 [.ref 97, .int x2, .int x3, .null] [] M L Q := by
  unfold P_X10_add_97 at hP
  refine wp_seg (pc' := 2) [.iconst 0, .istore 3] (by decide +kernel) (?_ : Wp E d 119 2 [.ref 97, .int x2, .int x3, .int (Int32.ofInt 0)] [] M L Q)
  exact tl_X10_add_97_2 hK 100000 x2 x3 (Int32.ofInt 0) M L hP

def PL_X10_add_98_2 (K : Mem → LMem → Prop)  : Nat → Int32 → Int32 → Int32 → Mem → LMem → Prop
  | 0, _, _, _, _, _ => False
  | n_ + 1, v1, v2, v3, M, L => (((Int32.ofInt 8) ≤ v3 → K M L) ∧ (¬ ((Int32.ofInt 8) ≤ v3) → (vp_in v3 8 ∧ ((((v1 >>> (v3 &&& 31)) &&& (Int32.ofInt 1)) = (Int32.ofInt 1) → PL_X10_add_98_2 K n_ v1 v2 (v3 + Int32.ofInt 1) (mput M 98 v3.toNatClampNeg ((M 98 v3.toNatClampNeg) ||| v2)) L) ∧ (¬ (((v1 >>> (v3 &&& 31)) &&& (Int32.ofInt 1)) = (Int32.ofInt 1)) → PL_X10_add_98_2 K n_ v1 v2 (v3 + Int32.ofInt 1) (mput M 98 v3.toNatClampNeg ((M 98 v3.toNatClampNeg) ||| (Int32.ofInt 0))) L)))))
theorem tl_X10_add_98_2 {E : VE} {d : Nat} {Q : QQ} {K : Mem → LMem → Prop}  (hK : ∀ (M : Mem) (L : LMem), K M L → Q none M L)  : ∀ (n_ : Nat) (v1 : Int32) (v2 : Int32) (v3 : Int32) (M : Mem) (L : LMem), PL_X10_add_98_2 K n_ v1 v2 v3 M L → Wp E d 119 2 [.ref 98, .int v1, .int v2, .int v3] [] M L Q := by
  intro n_
  induction n_ with
  | zero => intro v1 v2 v3 M L hP; exact False.elim hP
  | succ n_ ih =>
    intro v1 v2 v3 M L hP
    unfold PL_X10_add_98_2 at hP
    refine wp_seg (pc' := 5) [.iload 3, .iconst 8] (by decide +kernel) (?_ : Wp E d 119 5 [.ref 98, .int v1, .int v2, .int v3] [.int (Int32.ofInt 8), .int v3] M L Q)
    refine wp_icmpge (off := 29) 34 (by decide +kernel) (by decide) (fun c_1 => ?_) (fun c_1 => ?_)
    · have hP := hP.1 c_1
      exact wp_vret (by decide +kernel) rfl (hK _ _ hP)
    · have hP := hP.2 c_1
      obtain ⟨a_2, hP⟩ := hP
      refine wp_seg (pc' := 12) [.aload 0, .iload 3, .dup2, .iaload] (by decide +kernel) (show aok 98 0 v3 ∧ Wp E d 119 12 [.ref 98, .int v1, .int v2, .int v3] [.int (M 98 v3.toNatClampNeg), .int v3, .ref 98] M L Q from ⟨⟨rfl, a_2⟩, ?_⟩)
      refine wp_seg (pc' := 18) [.iload 1, .iload 3, .ishr, .iconst 1, .iand, .iconst 1] (by decide +kernel) (?_ : Wp E d 119 18 [.ref 98, .int v1, .int v2, .int v3] [.int (Int32.ofInt 1), .int ((v1 >>> (v3 &&& 31)) &&& (Int32.ofInt 1)), .int (M 98 v3.toNatClampNeg), .int v3, .ref 98] M L Q)
      refine wp_icmpne (off := 7) 25 (by decide +kernel) (by decide) (fun c_3 => ?_) (fun c_3 => ?_)
      · have hP := hP.2 c_3
        refine wp_seg (pc' := 28) [.iconst 0, .ior, .iastore] (by decide +kernel) (show aok 98 0 v3 ∧ Wp E d 119 28 [.ref 98, .int v1, .int v2, .int v3] [] (mput M 98 v3.toNatClampNeg ((M 98 v3.toNatClampNeg) ||| (Int32.ofInt 0))) L Q from ⟨⟨rfl, a_2⟩, ?_⟩)
        refine wp_seg (pc' := 2) [.iinc 3 1, .goto 0] (by decide +kernel) (?_ : Wp E d 119 2 [.ref 98, .int v1, .int v2, .int (v3 + Int32.ofInt 1)] [] (mput M 98 v3.toNatClampNeg ((M 98 v3.toNatClampNeg) ||| (Int32.ofInt 0))) L Q)
        exact ih v1 v2 (v3 + Int32.ofInt 1) (mput M 98 v3.toNatClampNeg ((M 98 v3.toNatClampNeg) ||| (Int32.ofInt 0))) L hP
      · have hP := hP.1 c_3
        refine wp_seg (pc' := 28) [.iload 2, .goto 0, .ior, .iastore] (by decide +kernel) (show aok 98 0 v3 ∧ Wp E d 119 28 [.ref 98, .int v1, .int v2, .int v3] [] (mput M 98 v3.toNatClampNeg ((M 98 v3.toNatClampNeg) ||| v2)) L Q from ⟨⟨rfl, a_2⟩, ?_⟩)
        refine wp_seg (pc' := 2) [.iinc 3 1, .goto 0] (by decide +kernel) (?_ : Wp E d 119 2 [.ref 98, .int v1, .int v2, .int (v3 + Int32.ofInt 1)] [] (mput M 98 v3.toNatClampNeg ((M 98 v3.toNatClampNeg) ||| v2)) L Q)
        exact ih v1 v2 (v3 + Int32.ofInt 1) (mput M 98 v3.toNatClampNeg ((M 98 v3.toNatClampNeg) ||| v2)) L hP
def P_X10_add_98 (x2 : Int32) (x3 : Int32) (M : Mem) (L : LMem) (K : Mem → LMem → Prop) : Prop := PL_X10_add_98_2 K 100000 x2 x3 (Int32.ofInt 0) M L
theorem t_X10_add_98 {E : VE} {d : Nat} {Q : QQ} {K : Mem → LMem → Prop} {x2 : Int32} {x3 : Int32} {M : Mem} {L : LMem} (hP : P_X10_add_98 x2 x3 M L K) (hK : ∀ (M : Mem) (L : LMem), K M L → Q none M L) : Wp E d 119 0 [.ref 98, .int x2, .int x3, .null] [] M L Q := by
  unfold P_X10_add_98 at hP
  refine wp_seg (pc' := 2) [.iconst 0, .istore 3] (by decide +kernel) (?_ : Wp E d 119 2 [.ref 98, .int x2, .int x3, .int (Int32.ofInt 0)] [] M L Q)
  exact tl_X10_add_98_2 hK 100000 x2 x3 (Int32.ofInt 0) M L hP

def PL_X10_tellBy_2 (K : Mem → LMem → Prop)  : Nat → Int32 → Int32 → Mem → LMem → Prop
  | 0, _, _, _, _ => False
  | n_ + 1, v1, v2, M, L => (((M 74 31) ≤ v2 → K M L) ∧ (¬ ((M 74 31) ≤ v2) → (vp_in v2 20 ∧ (((M 96 v2.toNatClampNeg) = 0 → ((v1 < (M 89 v2.toNatClampNeg) → PL_X10_tellBy_2 K n_ v1 (v2 + Int32.ofInt 1) M L) ∧ (¬ (v1 < (M 89 v2.toNatClampNeg)) → P_X10_add_97 ((M 92 v2.toNatClampNeg) ||| (M 90 v2.toNatClampNeg)) (M 94 v2.toNatClampNeg) (mput M 96 v2.toNatClampNeg (vp_nar .boolean (Int32.ofInt 1))) L (fun M_5 L_6 => P_X10_add_98 ((M_5 93 v2.toNatClampNeg) ||| (M_5 90 v2.toNatClampNeg)) (M_5 95 v2.toNatClampNeg) M_5 L_6 (fun M_7 L_8 => PL_X10_tellBy_2 K n_ v1 (v2 + Int32.ofInt 1) M_7 L_8))))) ∧ (¬ ((M 96 v2.toNatClampNeg) = 0) → PL_X10_tellBy_2 K n_ v1 (v2 + Int32.ofInt 1) M L)))))
theorem tl_X10_tellBy_2 {E : VE} {d : Nat} {Q : QQ} {K : Mem → LMem → Prop}  (hK : ∀ (M : Mem) (L : LMem), K M L → Q none M L)  : ∀ (n_ : Nat) (v1 : Int32) (v2 : Int32) (M : Mem) (L : LMem), PL_X10_tellBy_2 K n_ v1 v2 M L → Wp E (d + 1) 120 2 [.ref 74, .int v1, .int v2] [] M L Q := by
  intro n_
  induction n_ with
  | zero => intro v1 v2 M L hP; exact False.elim hP
  | succ n_ ih =>
    intro v1 v2 M L hP
    unfold PL_X10_tellBy_2 at hP
    refine wp_seg (pc' := 7) [.iload 2, .aload 0, .getfield 671] (by decide +kernel) (?_ : Wp E (d + 1) 120 7 [.ref 74, .int v1, .int v2] [.int (M 74 31), .int v2] M L Q)
    refine wp_icmpge (off := 87) 94 (by decide +kernel) (by decide) (fun c_1 => ?_) (fun c_1 => ?_)
    · have hP := hP.1 c_1
      exact wp_vret (by decide +kernel) rfl (hK _ _ hP)
    · have hP := hP.2 c_1
      obtain ⟨a_2, hP⟩ := hP
      refine wp_seg (pc' := 16) [.aload 0, .getfield 670, .iload 2, .baload] (by decide +kernel) (show (aok 96 1 v2 ∨ aok 96 3 v2) ∧ Wp E (d + 1) 120 16 [.ref 74, .int v1, .int v2] [.int (M 96 v2.toNatClampNeg)] M L Q from ⟨Or.inl ⟨rfl, a_2⟩, ?_⟩)
      refine wp_ifne (off := 72) 88 (by decide +kernel) (by decide) (fun c_3 => ?_) (fun c_3 => ?_)
      · have hP := hP.2 c_3
        refine wp_seg (pc' := 2) [.iinc 2 1, .goto 0] (by decide +kernel) (?_ : Wp E (d + 1) 120 2 [.ref 74, .int v1, .int (v2 + Int32.ofInt 1)] [] M L Q)
        exact ih v1 (v2 + Int32.ofInt 1) M L hP
      · have hP := hP.1 c_3
        refine wp_seg (pc' := 25) [.aload 0, .getfield 663, .iload 2, .iaload] (by decide +kernel) (show aok 89 0 v2 ∧ Wp E (d + 1) 120 25 [.ref 74, .int v1, .int v2] [.int (M 89 v2.toNatClampNeg)] M L Q from ⟨⟨rfl, a_2⟩, ?_⟩)
        refine wp_seg (pc' := 26) [.iload 1] (by decide +kernel) (?_ : Wp E (d + 1) 120 26 [.ref 74, .int v1, .int v2] [.int v1, .int (M 89 v2.toNatClampNeg)] M L Q)
        refine wp_icmpgt (off := 62) 88 (by decide +kernel) (by decide) (fun c_4 => ?_) (fun c_4 => ?_)
        · have hP := hP.1 c_4
          refine wp_seg (pc' := 2) [.iinc 2 1, .goto 0] (by decide +kernel) (?_ : Wp E (d + 1) 120 2 [.ref 74, .int v1, .int (v2 + Int32.ofInt 1)] [] M L Q)
          exact ih v1 (v2 + Int32.ofInt 1) M L hP
        · have hP := hP.2 c_4
          refine wp_seg (pc' := 36) [.aload 0, .getfield 670, .iload 2, .iconst 1, .bastore] (by decide +kernel) (Or.inl (show aok 96 1 v2 ∧ Wp E (d + 1) 120 36 [.ref 74, .int v1, .int v2] [] (mput M 96 v2.toNatClampNeg (vp_nar .boolean (Int32.ofInt 1))) L Q from ⟨⟨rfl, a_2⟩, ?_⟩))
          refine wp_seg (pc' := 46) [.aload 0, .getfield 674, .aload 0, .getfield 666, .iload 2, .iaload] (by decide +kernel) (show aok 92 0 v2 ∧ Wp E (d + 1) 120 46 [.ref 74, .int v1, .int v2] [.int (M 92 v2.toNatClampNeg), .ref 97] (mput M 96 v2.toNatClampNeg (vp_nar .boolean (Int32.ofInt 1))) L Q from ⟨⟨rfl, a_2⟩, ?_⟩)
          refine wp_seg (pc' := 52) [.aload 0, .getfield 664, .iload 2, .iaload] (by decide +kernel) (show aok 90 0 v2 ∧ Wp E (d + 1) 120 52 [.ref 74, .int v1, .int v2] [.int (M 90 v2.toNatClampNeg), .int (M 92 v2.toNatClampNeg), .ref 97] (mput M 96 v2.toNatClampNeg (vp_nar .boolean (Int32.ofInt 1))) L Q from ⟨⟨rfl, a_2⟩, ?_⟩)
          refine wp_seg (pc' := 59) [.ior, .aload 0, .getfield 668, .iload 2, .iaload] (by decide +kernel) (show aok 94 0 v2 ∧ Wp E (d + 1) 120 59 [.ref 74, .int v1, .int v2] [.int (M 94 v2.toNatClampNeg), .int ((M 92 v2.toNatClampNeg) ||| (M 90 v2.toNatClampNeg)), .ref 97] (mput M 96 v2.toNatClampNeg (vp_nar .boolean (Int32.ofInt 1))) L Q from ⟨⟨rfl, a_2⟩, ?_⟩)
          refine wp_callS 119 [.ref 97, .int ((M 92 v2.toNatClampNeg) ||| (M 90 v2.toNatClampNeg)), .int (M 94 v2.toNatClampNeg)] (i := 216) (by decide +kernel) (by decide +kernel) (by decide +kernel) rfl rfl rfl (rest := []) rfl rfl ?_
          refine t_X10_add_97 hP (fun M_5 L_6 hP => ?_)
          show Wp E (d + 1) 120 62 [.ref 74, .int v1, .int v2] [] M_5 L_6 Q
          refine wp_seg (pc' := 72) [.aload 0, .getfield 675, .aload 0, .getfield 667, .iload 2, .iaload] (by decide +kernel) (show aok 93 0 v2 ∧ Wp E (d + 1) 120 72 [.ref 74, .int v1, .int v2] [.int (M_5 93 v2.toNatClampNeg), .ref 98] M_5 L_6 Q from ⟨⟨rfl, a_2⟩, ?_⟩)
          refine wp_seg (pc' := 78) [.aload 0, .getfield 664, .iload 2, .iaload] (by decide +kernel) (show aok 90 0 v2 ∧ Wp E (d + 1) 120 78 [.ref 74, .int v1, .int v2] [.int (M_5 90 v2.toNatClampNeg), .int (M_5 93 v2.toNatClampNeg), .ref 98] M_5 L_6 Q from ⟨⟨rfl, a_2⟩, ?_⟩)
          refine wp_seg (pc' := 85) [.ior, .aload 0, .getfield 669, .iload 2, .iaload] (by decide +kernel) (show aok 95 0 v2 ∧ Wp E (d + 1) 120 85 [.ref 74, .int v1, .int v2] [.int (M_5 95 v2.toNatClampNeg), .int ((M_5 93 v2.toNatClampNeg) ||| (M_5 90 v2.toNatClampNeg)), .ref 98] M_5 L_6 Q from ⟨⟨rfl, a_2⟩, ?_⟩)
          refine wp_callS 119 [.ref 98, .int ((M_5 93 v2.toNatClampNeg) ||| (M_5 90 v2.toNatClampNeg)), .int (M_5 95 v2.toNatClampNeg)] (i := 216) (by decide +kernel) (by decide +kernel) (by decide +kernel) rfl rfl rfl (rest := []) rfl rfl ?_
          refine t_X10_add_98 hP (fun M_7 L_8 hP => ?_)
          show Wp E (d + 1) 120 88 [.ref 74, .int v1, .int v2] [] M_7 L_8 Q
          refine wp_seg (pc' := 2) [.iinc 2 1, .goto 0] (by decide +kernel) (?_ : Wp E (d + 1) 120 2 [.ref 74, .int v1, .int (v2 + Int32.ofInt 1)] [] M_7 L_8 Q)
          exact ih v1 (v2 + Int32.ofInt 1) M_7 L_8 hP
def P_X10_tellBy (x1 : Int32) (M : Mem) (L : LMem) (K : Mem → LMem → Prop) : Prop := PL_X10_tellBy_2 K 100000 x1 (Int32.ofInt 0) M L
theorem t_X10_tellBy {E : VE} {d : Nat} {Q : QQ} {K : Mem → LMem → Prop} {x1 : Int32} {M : Mem} {L : LMem} (hP : P_X10_tellBy x1 M L K) (hK : ∀ (M : Mem) (L : LMem), K M L → Q none M L) : Wp E (d + 1) 120 0 [.ref 74, .int x1, .null] [] M L Q := by
  unfold P_X10_tellBy at hP
  refine wp_seg (pc' := 2) [.iconst 0, .istore 2] (by decide +kernel) (?_ : Wp E (d + 1) 120 2 [.ref 74, .int x1, .int (Int32.ofInt 0)] [] M L Q)
  exact tl_X10_tellBy_2 hK 100000 x1 (Int32.ofInt 0) M L hP

def PL_X10_roomsAt_4 (K : Int32 → Mem → LMem → Prop)  : Nat → Int32 → Int32 → Int32 → Mem → LMem → Prop
  | 0, _, _, _, _, _ => False
  | n_ + 1, v1, v2, v3, M, L => (((M 74 31) ≤ v3 → K v2 M L) ∧ (¬ ((M 74 31) ≤ v3) → (vp_in v3 20 ∧ (((M 89 v3.toNatClampNeg) ≤ v1 → PL_X10_roomsAt_4 K n_ v1 (v2 ||| (Int32.ofInt 0)) (v3 + Int32.ofInt 1) M L) ∧ (¬ ((M 89 v3.toNatClampNeg) ≤ v1) → PL_X10_roomsAt_4 K n_ v1 (v2 ||| (M 90 v3.toNatClampNeg)) (v3 + Int32.ofInt 1) M L)))))
theorem tl_X10_roomsAt_4 {E : VE} {d : Nat} {Q : QQ} {K : Int32 → Mem → LMem → Prop}  (hK : ∀ (v : Int32) (M : Mem) (L : LMem), K v M L → Q (some (.int v)) M L)  : ∀ (n_ : Nat) (v1 : Int32) (v2 : Int32) (v3 : Int32) (M : Mem) (L : LMem), PL_X10_roomsAt_4 K n_ v1 v2 v3 M L → Wp E d 121 4 [.ref 74, .int v1, .int v2, .int v3] [] M L Q := by
  intro n_
  induction n_ with
  | zero => intro v1 v2 v3 M L hP; exact False.elim hP
  | succ n_ ih =>
    intro v1 v2 v3 M L hP
    unfold PL_X10_roomsAt_4 at hP
    refine wp_seg (pc' := 9) [.iload 3, .aload 0, .getfield 671] (by decide +kernel) (?_ : Wp E d 121 9 [.ref 74, .int v1, .int v2, .int v3] [.int (M 74 31), .int v3] M L Q)
    refine wp_icmpge (off := 32) 41 (by decide +kernel) (by decide) (fun c_1 => ?_) (fun c_1 => ?_)
    · have hP := hP.1 c_1
      refine wp_seg (pc' := 42) [.iload 2] (by decide +kernel) (?_ : Wp E d 121 42 [.ref 74, .int v1, .int v2, .int v3] [.int v2] M L Q)
      exact wp_iret (by decide +kernel) rfl (hK _ _ _ hP)
    · have hP := hP.2 c_1
      obtain ⟨a_2, hP⟩ := hP
      refine wp_seg (pc' := 19) [.iload 2, .aload 0, .getfield 663, .iload 3, .iaload] (by decide +kernel) (show aok 89 0 v3 ∧ Wp E d 121 19 [.ref 74, .int v1, .int v2, .int v3] [.int (M 89 v3.toNatClampNeg), .int v2] M L Q from ⟨⟨rfl, a_2⟩, ?_⟩)
      refine wp_seg (pc' := 20) [.iload 1] (by decide +kernel) (?_ : Wp E d 121 20 [.ref 74, .int v1, .int v2, .int v3] [.int v1, .int (M 89 v3.toNatClampNeg), .int v2] M L Q)
      refine wp_icmple (off := 12) 32 (by decide +kernel) (by decide) (fun c_3 => ?_) (fun c_3 => ?_)
      · have hP := hP.1 c_3
        refine wp_seg (pc' := 4) [.iconst 0, .ior, .istore 2, .iinc 3 1, .goto 0] (by decide +kernel) (?_ : Wp E d 121 4 [.ref 74, .int v1, .int (v2 ||| (Int32.ofInt 0)), .int (v3 + Int32.ofInt 1)] [] M L Q)
        exact ih v1 (v2 ||| (Int32.ofInt 0)) (v3 + Int32.ofInt 1) M L hP
      · have hP := hP.2 c_3
        refine wp_seg (pc' := 29) [.aload 0, .getfield 664, .iload 3, .iaload] (by decide +kernel) (show aok 90 0 v3 ∧ Wp E d 121 29 [.ref 74, .int v1, .int v2, .int v3] [.int (M 90 v3.toNatClampNeg), .int v2] M L Q from ⟨⟨rfl, a_2⟩, ?_⟩)
        refine wp_seg (pc' := 4) [.goto 0, .ior, .istore 2, .iinc 3 1, .goto 0] (by decide +kernel) (?_ : Wp E d 121 4 [.ref 74, .int v1, .int (v2 ||| (M 90 v3.toNatClampNeg)), .int (v3 + Int32.ofInt 1)] [] M L Q)
        exact ih v1 (v2 ||| (M 90 v3.toNatClampNeg)) (v3 + Int32.ofInt 1) M L hP
def P_X10_roomsAt (x1 : Int32) (M : Mem) (L : LMem) (K : Int32 → Mem → LMem → Prop) : Prop := PL_X10_roomsAt_4 K 100000 x1 (Int32.ofInt 0) (Int32.ofInt 0) M L
theorem t_X10_roomsAt {E : VE} {d : Nat} {Q : QQ} {K : Int32 → Mem → LMem → Prop} {x1 : Int32} {M : Mem} {L : LMem} (hP : P_X10_roomsAt x1 M L K) (hK : ∀ (v : Int32) (M : Mem) (L : LMem), K v M L → Q (some (.int v)) M L) : Wp E d 121 0 [.ref 74, .int x1, .null, .null] [] M L Q := by
  unfold P_X10_roomsAt at hP
  refine wp_seg (pc' := 4) [.iconst 0, .istore 2, .iconst 0, .istore 3] (by decide +kernel) (?_ : Wp E d 121 4 [.ref 74, .int x1, .int (Int32.ofInt 0), .int (Int32.ofInt 0)] [] M L Q)
  exact tl_X10_roomsAt_4 hK 100000 x1 (Int32.ofInt 0) (Int32.ofInt 0) M L hP

def PL_X10_fullAt_18 (K : Int32 → Mem → LMem → Prop) (C_4 : Int32 → Int32 → Int32 → Mem → LMem → Prop) : Nat → Int32 → Int32 → Int32 → Int32 → Int32 → Mem → LMem → Prop
  | 0, _, _, _, _, _, _, _ => False
  | n_ + 1, v1, v2, v3, v4, v5, M, L => (((M 74 31) ≤ v5 → (vp_in v3 13 ∧ (((M 77 v3.toNatClampNeg) = (Int32.ofInt 61) → ((v4 < (Int32.ofInt 2) → C_4 v1 (v2 ||| (Int32.ofInt 0)) (v3 + Int32.ofInt 1) M L) ∧ (¬ (v4 < (Int32.ofInt 2)) → C_4 v1 (v2 ||| ((Int32.ofInt 1) <<< (v3 &&& 31))) (v3 + Int32.ofInt 1) M L))) ∧ (¬ ((M 77 v3.toNatClampNeg) = (Int32.ofInt 61)) → ((v4 < (Int32.ofInt 1) → C_4 v1 (v2 ||| (Int32.ofInt 0)) (v3 + Int32.ofInt 1) M L) ∧ (¬ (v4 < (Int32.ofInt 1)) → C_4 v1 (v2 ||| ((Int32.ofInt 1) <<< (v3 &&& 31))) (v3 + Int32.ofInt 1) M L)))))) ∧ (¬ ((M 74 31) ≤ v5) → (vp_in v5 20 ∧ (((M 89 v5.toNatClampNeg) ≤ v1 → PL_X10_fullAt_18 K C_4 n_ v1 v2 v3 (v4 + (Int32.ofInt 0)) (v5 + Int32.ofInt 1) M L) ∧ (¬ ((M 89 v5.toNatClampNeg) ≤ v1) → PL_X10_fullAt_18 K C_4 n_ v1 v2 v3 (v4 + (((M 91 v5.toNatClampNeg) >>> (v3 &&& 31)) &&& (Int32.ofInt 1))) (v5 + Int32.ofInt 1) M L)))))
theorem tl_X10_fullAt_18 {E : VE} {d : Nat} {Q : QQ} {K : Int32 → Mem → LMem → Prop} {C_4 : Int32 → Int32 → Int32 → Mem → LMem → Prop} (hK : ∀ (v : Int32) (M : Mem) (L : LMem), K v M L → Q (some (.int v)) M L) (hC_4 : ∀ (v1 : Int32) (v2 : Int32) (v3 : Int32) (M : Mem) (L : LMem), C_4 v1 v2 v3 M L → Wp E d 122 4 [.ref 74, .int v1, .int v2, .int v3, .null, .null] [] M L Q) : ∀ (n_ : Nat) (v1 : Int32) (v2 : Int32) (v3 : Int32) (v4 : Int32) (v5 : Int32) (M : Mem) (L : LMem), PL_X10_fullAt_18 K C_4 n_ v1 v2 v3 v4 v5 M L → Wp E d 122 18 [.ref 74, .int v1, .int v2, .int v3, .int v4, .int v5] [] M L Q := by
  intro n_
  induction n_ with
  | zero => intro v1 v2 v3 v4 v5 M L hP; exact False.elim hP
  | succ n_ ih =>
    intro v1 v2 v3 v4 v5 M L hP
    unfold PL_X10_fullAt_18 at hP
    refine wp_seg (pc' := 24) [.iload 5, .aload 0, .getfield 671] (by decide +kernel) (?_ : Wp E d 122 24 [.ref 74, .int v1, .int v2, .int v3, .int v4, .int v5] [.int (M 74 31), .int v5] M L Q)
    refine wp_icmpge (off := 40) 64 (by decide +kernel) (by decide) (fun c_2 => ?_) (fun c_2 => ?_)
    · have hP := hP.1 c_2
      obtain ⟨a_3, hP⟩ := hP
      refine wp_seg (pc' := 73) [.iload 2, .iload 4, .aload 0, .getfield 642, .iload 3, .iaload] (by decide +kernel) (show aok 77 0 v3 ∧ Wp E d 122 73 [.ref 74, .int v1, .int v2, .int v3, .int v4, .int v5] [.int (M 77 v3.toNatClampNeg), .int v4, .int v2] M L Q from ⟨⟨rfl, a_3⟩, ?_⟩)
      refine wp_seg (pc' := 75) [.iconst 61] (by decide +kernel) (?_ : Wp E d 122 75 [.ref 74, .int v1, .int v2, .int v3, .int v4, .int v5] [.int (Int32.ofInt 61), .int (M 77 v3.toNatClampNeg), .int v4, .int v2] M L Q)
      refine wp_icmpne (off := 7) 82 (by decide +kernel) (by decide) (fun c_4 => ?_) (fun c_4 => ?_)
      · have hP := hP.2 c_4
        refine wp_seg (pc' := 83) [.iconst 1] (by decide +kernel) (?_ : Wp E d 122 83 [.ref 74, .int v1, .int v2, .int v3, .int v4, .int v5] [.int (Int32.ofInt 1), .int v4, .int v2] M L Q)
        refine wp_icmplt (off := 9) 92 (by decide +kernel) (by decide) (fun c_5 => ?_) (fun c_5 => ?_)
        · have hP := hP.1 c_5
          refine wp_seg (pc' := 4) [.iconst 0, .ior, .istore 2, .iinc 3 1, .goto 0] (by decide +kernel) (?_ : Wp E d 122 4 [.ref 74, .int v1, .int (v2 ||| (Int32.ofInt 0)), .int (v3 + Int32.ofInt 1), .int v4, .int v5] [] M L Q)
          refine wp_drop (lo := [.ref 74, .int v1, .int (v2 ||| (Int32.ofInt 0)), .int (v3 + Int32.ofInt 1), .null, .null]) ⟨Or.inr rfl, Or.inr rfl, Or.inr rfl, Or.inr rfl, Or.inl rfl, Or.inl rfl, trivial⟩ ?_
          exact hC_4 v1 (v2 ||| (Int32.ofInt 0)) (v3 + Int32.ofInt 1) M L hP
        · have hP := hP.2 c_5
          refine wp_seg (pc' := 4) [.iconst 1, .iload 3, .ishl, .goto 0, .ior, .istore 2, .iinc 3 1, .goto 0] (by decide +kernel) (?_ : Wp E d 122 4 [.ref 74, .int v1, .int (v2 ||| ((Int32.ofInt 1) <<< (v3 &&& 31))), .int (v3 + Int32.ofInt 1), .int v4, .int v5] [] M L Q)
          refine wp_drop (lo := [.ref 74, .int v1, .int (v2 ||| ((Int32.ofInt 1) <<< (v3 &&& 31))), .int (v3 + Int32.ofInt 1), .null, .null]) ⟨Or.inr rfl, Or.inr rfl, Or.inr rfl, Or.inr rfl, Or.inl rfl, Or.inl rfl, trivial⟩ ?_
          exact hC_4 v1 (v2 ||| ((Int32.ofInt 1) <<< (v3 &&& 31))) (v3 + Int32.ofInt 1) M L hP
      · have hP := hP.1 c_4
        refine wp_seg (pc' := 83) [.iconst 2, .goto 0] (by decide +kernel) (?_ : Wp E d 122 83 [.ref 74, .int v1, .int v2, .int v3, .int v4, .int v5] [.int (Int32.ofInt 2), .int v4, .int v2] M L Q)
        refine wp_icmplt (off := 9) 92 (by decide +kernel) (by decide) (fun c_6 => ?_) (fun c_6 => ?_)
        · have hP := hP.1 c_6
          refine wp_seg (pc' := 4) [.iconst 0, .ior, .istore 2, .iinc 3 1, .goto 0] (by decide +kernel) (?_ : Wp E d 122 4 [.ref 74, .int v1, .int (v2 ||| (Int32.ofInt 0)), .int (v3 + Int32.ofInt 1), .int v4, .int v5] [] M L Q)
          refine wp_drop (lo := [.ref 74, .int v1, .int (v2 ||| (Int32.ofInt 0)), .int (v3 + Int32.ofInt 1), .null, .null]) ⟨Or.inr rfl, Or.inr rfl, Or.inr rfl, Or.inr rfl, Or.inl rfl, Or.inl rfl, trivial⟩ ?_
          exact hC_4 v1 (v2 ||| (Int32.ofInt 0)) (v3 + Int32.ofInt 1) M L hP
        · have hP := hP.2 c_6
          refine wp_seg (pc' := 4) [.iconst 1, .iload 3, .ishl, .goto 0, .ior, .istore 2, .iinc 3 1, .goto 0] (by decide +kernel) (?_ : Wp E d 122 4 [.ref 74, .int v1, .int (v2 ||| ((Int32.ofInt 1) <<< (v3 &&& 31))), .int (v3 + Int32.ofInt 1), .int v4, .int v5] [] M L Q)
          refine wp_drop (lo := [.ref 74, .int v1, .int (v2 ||| ((Int32.ofInt 1) <<< (v3 &&& 31))), .int (v3 + Int32.ofInt 1), .null, .null]) ⟨Or.inr rfl, Or.inr rfl, Or.inr rfl, Or.inr rfl, Or.inl rfl, Or.inl rfl, trivial⟩ ?_
          exact hC_4 v1 (v2 ||| ((Int32.ofInt 1) <<< (v3 &&& 31))) (v3 + Int32.ofInt 1) M L hP
    · have hP := hP.2 c_2
      obtain ⟨a_7, hP⟩ := hP
      refine wp_seg (pc' := 36) [.iload 4, .aload 0, .getfield 663, .iload 5, .iaload] (by decide +kernel) (show aok 89 0 v5 ∧ Wp E d 122 36 [.ref 74, .int v1, .int v2, .int v3, .int v4, .int v5] [.int (M 89 v5.toNatClampNeg), .int v4] M L Q from ⟨⟨rfl, a_7⟩, ?_⟩)
      refine wp_seg (pc' := 37) [.iload 1] (by decide +kernel) (?_ : Wp E d 122 37 [.ref 74, .int v1, .int v2, .int v3, .int v4, .int v5] [.int v1, .int (M 89 v5.toNatClampNeg), .int v4] M L Q)
      refine wp_icmple (off := 17) 54 (by decide +kernel) (by decide) (fun c_8 => ?_) (fun c_8 => ?_)
      · have hP := hP.1 c_8
        refine wp_seg (pc' := 18) [.iconst 0, .iadd, .istore 4, .iinc 5 1, .goto 0] (by decide +kernel) (?_ : Wp E d 122 18 [.ref 74, .int v1, .int v2, .int v3, .int (v4 + (Int32.ofInt 0)), .int (v5 + Int32.ofInt 1)] [] M L Q)
        exact ih v1 v2 v3 (v4 + (Int32.ofInt 0)) (v5 + Int32.ofInt 1) M L hP
      · have hP := hP.2 c_8
        refine wp_seg (pc' := 47) [.aload 0, .getfield 665, .iload 5, .iaload] (by decide +kernel) (show aok 91 0 v5 ∧ Wp E d 122 47 [.ref 74, .int v1, .int v2, .int v3, .int v4, .int v5] [.int (M 91 v5.toNatClampNeg), .int v4] M L Q from ⟨⟨rfl, a_7⟩, ?_⟩)
        refine wp_seg (pc' := 18) [.iload 3, .ishr, .iconst 1, .iand, .goto 0, .iadd, .istore 4, .iinc 5 1, .goto 0] (by decide +kernel) (?_ : Wp E d 122 18 [.ref 74, .int v1, .int v2, .int v3, .int (v4 + (((M 91 v5.toNatClampNeg) >>> (v3 &&& 31)) &&& (Int32.ofInt 1))), .int (v5 + Int32.ofInt 1)] [] M L Q)
        exact ih v1 v2 v3 (v4 + (((M 91 v5.toNatClampNeg) >>> (v3 &&& 31)) &&& (Int32.ofInt 1))) (v5 + Int32.ofInt 1) M L hP
def PL_X10_fullAt_4 (K : Int32 → Mem → LMem → Prop)  : Nat → Int32 → Int32 → Int32 → Mem → LMem → Prop
  | 0, _, _, _, _, _ => False
  | n_ + 1, v1, v2, v3, M, L => (((M 74 4) ≤ v3 → K v2 M L) ∧ (¬ ((M 74 4) ≤ v3) → PL_X10_fullAt_18 K (PL_X10_fullAt_4 K n_) 100000 v1 v2 v3 (Int32.ofInt 0) (Int32.ofInt 0) M L))
theorem tl_X10_fullAt_4 {E : VE} {d : Nat} {Q : QQ} {K : Int32 → Mem → LMem → Prop}  (hK : ∀ (v : Int32) (M : Mem) (L : LMem), K v M L → Q (some (.int v)) M L)  : ∀ (n_ : Nat) (v1 : Int32) (v2 : Int32) (v3 : Int32) (M : Mem) (L : LMem), PL_X10_fullAt_4 K n_ v1 v2 v3 M L → Wp E d 122 4 [.ref 74, .int v1, .int v2, .int v3, .null, .null] [] M L Q := by
  intro n_
  induction n_ with
  | zero => intro v1 v2 v3 M L hP; exact False.elim hP
  | succ n_ ih =>
    intro v1 v2 v3 M L hP
    unfold PL_X10_fullAt_4 at hP
    refine wp_seg (pc' := 9) [.iload 3, .aload 0, .getfield 644] (by decide +kernel) (?_ : Wp E d 122 9 [.ref 74, .int v1, .int v2, .int v3, .null, .null] [.int (M 74 4), .int v3] M L Q)
    refine wp_icmpge (off := 92) 101 (by decide +kernel) (by decide) (fun c_1 => ?_) (fun c_1 => ?_)
    · have hP := hP.1 c_1
      refine wp_seg (pc' := 102) [.iload 2] (by decide +kernel) (?_ : Wp E d 122 102 [.ref 74, .int v1, .int v2, .int v3, .null, .null] [.int v2] M L Q)
      exact wp_iret (by decide +kernel) rfl (hK _ _ _ hP)
    · have hP := hP.2 c_1
      refine wp_seg (pc' := 18) [.iconst 0, .istore 4, .iconst 0, .istore 5] (by decide +kernel) (?_ : Wp E d 122 18 [.ref 74, .int v1, .int v2, .int v3, .int (Int32.ofInt 0), .int (Int32.ofInt 0)] [] M L Q)
      exact tl_X10_fullAt_18 hK (fun v1 v2 v3 M L hP => ih v1 v2 v3 M L hP) 100000 v1 v2 v3 (Int32.ofInt 0) (Int32.ofInt 0) M L hP
def P_X10_fullAt (x1 : Int32) (M : Mem) (L : LMem) (K : Int32 → Mem → LMem → Prop) : Prop := PL_X10_fullAt_4 K 100000 x1 (Int32.ofInt 0) (Int32.ofInt 0) M L
theorem t_X10_fullAt {E : VE} {d : Nat} {Q : QQ} {K : Int32 → Mem → LMem → Prop} {x1 : Int32} {M : Mem} {L : LMem} (hP : P_X10_fullAt x1 M L K) (hK : ∀ (v : Int32) (M : Mem) (L : LMem), K v M L → Q (some (.int v)) M L) : Wp E d 122 0 [.ref 74, .int x1, .null, .null, .null, .null] [] M L Q := by
  unfold P_X10_fullAt at hP
  refine wp_seg (pc' := 4) [.iconst 0, .istore 2, .iconst 0, .istore 3] (by decide +kernel) (?_ : Wp E d 122 4 [.ref 74, .int x1, .int (Int32.ofInt 0), .int (Int32.ofInt 0), .null, .null] [] M L Q)
  exact tl_X10_fullAt_4 hK 100000 x1 (Int32.ofInt 0) (Int32.ofInt 0) M L hP

def P_X10_whyNot (x1 : Int32) (x2 : Int32) (x3 : Int32) (M : Mem) (L : LMem) (K : Int32 → Mem → LMem → Prop) : Prop := P_X10_layWay x1 x2 (Int32.ofInt 0) M L (fun v_3 M_1 L_2 => ((v_3 = 0 → K (Int32.ofInt 1) M_1 L_2) ∧ (¬ (v_3 = 0) → P_X10_roomsAt x3 M_1 L_2 (fun v_7 M_5 L_6 => ((((v_7 >>> (x1 &&& 31)) &&& (Int32.ofInt 1)) = (Int32.ofInt 1) → K (Int32.ofInt 2) M_5 L_6) ∧ (¬ (((v_7 >>> (x1 &&& 31)) &&& (Int32.ofInt 1)) = (Int32.ofInt 1)) → ((((v_7 >>> (x2 &&& 31)) &&& (Int32.ofInt 1)) = (Int32.ofInt 1) → K (Int32.ofInt 3) M_5 L_6) ∧ (¬ (((v_7 >>> (x2 &&& 31)) &&& (Int32.ofInt 1)) = (Int32.ofInt 1)) → P_X10_fullAt x3 M_5 L_6 (fun v_12 M_10 L_11 => P_X10_layWay x1 x2 v_12 M_10 L_11 (fun v_15 M_13 L_14 => ((v_15 = 0 → K (Int32.ofInt 4) M_13 L_14) ∧ (¬ (v_15 = 0) → K (Int32.ofInt (-6)) M_13 L_14))))))))))))
theorem t_X10_whyNot {E : VE} {d : Nat} {Q : QQ} {K : Int32 → Mem → LMem → Prop} {x1 : Int32} {x2 : Int32} {x3 : Int32} {M : Mem} {L : LMem} (hP : P_X10_whyNot x1 x2 x3 M L K) (hK : ∀ (v : Int32) (M : Mem) (L : LMem), K v M L → Q (some (.int v)) M L) : Wp E (d + 4) 123 0 [.ref 74, .int x1, .int x2, .int x3, .null] [] M L Q := by
  unfold P_X10_whyNot at hP
  refine wp_seg (pc' := 4) [.aload 0, .iload 1, .iload 2, .iconst 0] (by decide +kernel) (?_ : Wp E (d + 4) 123 4 [.ref 74, .int x1, .int x2, .int x3, .null] [.int (Int32.ofInt 0), .int x2, .int x1, .ref 74] M L Q)
  refine wp_callV 112 74 [.int x1, .int x2, .int (Int32.ofInt 0)] (i := 202) (by decide +kernel) (by decide +kernel) (by decide +kernel) (by decide +kernel) rfl rfl rfl (rest := []) rfl rfl ?_
  refine t_X10_layWay hP (fun v_3 M_1 L_2 hP => ?_)
  show Wp E (d + 4) 123 7 [.ref 74, .int x1, .int x2, .int x3, .null] [.int v_3] M_1 L_2 Q
  refine wp_ifne (off := 5) 12 (by decide +kernel) (by decide) (fun c_4 => ?_) (fun c_4 => ?_)
  · have hP := hP.2 c_4
    refine wp_seg (pc' := 14) [.aload 0, .iload 3] (by decide +kernel) (?_ : Wp E (d + 4) 123 14 [.ref 74, .int x1, .int x2, .int x3, .null] [.int x3, .ref 74] M_1 L_2 Q)
    refine wp_callV 121 74 [.int x3] (i := 220) (by decide +kernel) (by decide +kernel) (by decide +kernel) (by decide +kernel) rfl rfl rfl (rest := []) rfl rfl ?_
    refine t_X10_roomsAt hP (fun v_7 M_5 L_6 hP => ?_)
    show Wp E (d + 4) 123 17 [.ref 74, .int x1, .int x2, .int x3, .null] [.int v_7] M_5 L_6 Q
    refine wp_seg (pc' := 26) [.istore 4, .iload 4, .iload 1, .ishr, .iconst 1, .iand, .iconst 1] (by decide +kernel) (?_ : Wp E (d + 4) 123 26 [.ref 74, .int x1, .int x2, .int x3, .int v_7] [.int (Int32.ofInt 1), .int ((v_7 >>> (x1 &&& 31)) &&& (Int32.ofInt 1))] M_5 L_6 Q)
    refine wp_icmpne (off := 5) 31 (by decide +kernel) (by decide) (fun c_8 => ?_) (fun c_8 => ?_)
    · have hP := hP.2 c_8
      refine wp_seg (pc' := 38) [.iload 4, .iload 2, .ishr, .iconst 1, .iand, .iconst 1] (by decide +kernel) (?_ : Wp E (d + 4) 123 38 [.ref 74, .int x1, .int x2, .int x3, .int v_7] [.int (Int32.ofInt 1), .int ((v_7 >>> (x2 &&& 31)) &&& (Int32.ofInt 1))] M_5 L_6 Q)
      refine wp_icmpne (off := 5) 43 (by decide +kernel) (by decide) (fun c_9 => ?_) (fun c_9 => ?_)
      · have hP := hP.2 c_9
        refine wp_seg (pc' := 48) [.aload 0, .iload 1, .iload 2, .aload 0, .iload 3] (by decide +kernel) (?_ : Wp E (d + 4) 123 48 [.ref 74, .int x1, .int x2, .int x3, .int v_7] [.int x3, .ref 74, .int x2, .int x1, .ref 74] M_5 L_6 Q)
        refine wp_callV 122 74 [.int x3] (i := 223) (by decide +kernel) (by decide +kernel) (by decide +kernel) (by decide +kernel) rfl rfl rfl (rest := [.int x2, .int x1, .ref 74]) rfl rfl ?_
        refine t_X10_fullAt hP (fun v_12 M_10 L_11 hP => ?_)
        show Wp E (d + 4) 123 51 [.ref 74, .int x1, .int x2, .int x3, .int v_7] [.int v_12, .int x2, .int x1, .ref 74] M_10 L_11 Q
        refine wp_callV 112 74 [.int x1, .int x2, .int v_12] (i := 202) (by decide +kernel) (by decide +kernel) (by decide +kernel) (by decide +kernel) rfl rfl rfl (rest := []) rfl rfl ?_
        refine t_X10_layWay hP (fun v_15 M_13 L_14 hP => ?_)
        show Wp E (d + 4) 123 54 [.ref 74, .int x1, .int x2, .int x3, .int v_7] [.int v_15] M_13 L_14 Q
        refine wp_ifeq (off := 8) 62 (by decide +kernel) (by decide) (fun c_16 => ?_) (fun c_16 => ?_)
        · have hP := hP.1 c_16
          refine wp_seg (pc' := 63) [.iconst 4] (by decide +kernel) (?_ : Wp E (d + 4) 123 63 [.ref 74, .int x1, .int x2, .int x3, .int v_7] [.int (Int32.ofInt 4)] M_13 L_14 Q)
          exact wp_iret (by decide +kernel) rfl (hK _ _ _ hP)
        · have hP := hP.2 c_16
          refine wp_seg (pc' := 63) [.iconst (-6), .goto 0] (by decide +kernel) (?_ : Wp E (d + 4) 123 63 [.ref 74, .int x1, .int x2, .int x3, .int v_7] [.int (Int32.ofInt (-6))] M_13 L_14 Q)
          exact wp_iret (by decide +kernel) rfl (hK _ _ _ hP)
      · have hP := hP.1 c_9
        refine wp_seg (pc' := 42) [.iconst 3] (by decide +kernel) (?_ : Wp E (d + 4) 123 42 [.ref 74, .int x1, .int x2, .int x3, .int v_7] [.int (Int32.ofInt 3)] M_5 L_6 Q)
        exact wp_iret (by decide +kernel) rfl (hK _ _ _ hP)
    · have hP := hP.1 c_8
      refine wp_seg (pc' := 30) [.iconst 2] (by decide +kernel) (?_ : Wp E (d + 4) 123 30 [.ref 74, .int x1, .int x2, .int x3, .int v_7] [.int (Int32.ofInt 2)] M_5 L_6 Q)
      exact wp_iret (by decide +kernel) rfl (hK _ _ _ hP)
  · have hP := hP.1 c_4
    refine wp_seg (pc' := 11) [.iconst 1] (by decide +kernel) (?_ : Wp E (d + 4) 123 11 [.ref 74, .int x1, .int x2, .int x3, .null] [.int (Int32.ofInt 1)] M_1 L_2 Q)
    exact wp_iret (by decide +kernel) rfl (hK _ _ _ hP)

def PL_X10_begin_139 (K : Mem → LMem → Prop)  : Nat → Int32 → Int32 → Int32 → Int32 → Int32 → Int32 → Mem → LMem → Prop
  | 0, _, _, _, _, _, _, _, _ => False
  | n_ + 1, v1, v2, v3, v4, v5, v6, M, L => (((M 74 31) ≤ v6 → ((v5 ≤ (M 74 36) → K (mput M 74 36 (M 74 36)) L) ∧ (¬ (v5 ≤ (M 74 36)) → K (mput M 74 36 v5) L))) ∧ (¬ ((M 74 31) ≤ v6) → (vp_in v6 20 ∧ (((M 89 v6.toNatClampNeg) ≤ v3 → PL_X10_begin_139 K n_ v1 v2 v3 v4 (v5 + (Int32.ofInt 0)) (v6 + Int32.ofInt 1) M L) ∧ (¬ ((M 89 v6.toNatClampNeg) ≤ v3) → PL_X10_begin_139 K n_ v1 v2 v3 v4 (v5 + (Int32.ofInt 1)) (v6 + Int32.ofInt 1) M L)))))
theorem tl_X10_begin_139 {E : VE} {d : Nat} {Q : QQ} {K : Mem → LMem → Prop}  (hK : ∀ (M : Mem) (L : LMem), K M L → Q none M L)  : ∀ (n_ : Nat) (v1 : Int32) (v2 : Int32) (v3 : Int32) (v4 : Int32) (v5 : Int32) (v6 : Int32) (M : Mem) (L : LMem), PL_X10_begin_139 K n_ v1 v2 v3 v4 v5 v6 M L → Wp E (d + 1) 124 139 [.ref 74, .int v1, .int v2, .int v3, .int v4, .int v5, .int v6] [] M L Q := by
  intro n_
  induction n_ with
  | zero => intro v1 v2 v3 v4 v5 v6 M L hP; exact False.elim hP
  | succ n_ ih =>
    intro v1 v2 v3 v4 v5 v6 M L hP
    unfold PL_X10_begin_139 at hP
    refine wp_seg (pc' := 145) [.iload 6, .aload 0, .getfield 671] (by decide +kernel) (?_ : Wp E (d + 1) 124 145 [.ref 74, .int v1, .int v2, .int v3, .int v4, .int v5, .int v6] [.int (M 74 31), .int v6] M L Q)
    refine wp_icmpge (off := 30) 175 (by decide +kernel) (by decide) (fun c_15 => ?_) (fun c_15 => ?_)
    · have hP := hP.1 c_15
      refine wp_seg (pc' := 182) [.aload 0, .iload 5, .aload 0, .getfield 676] (by decide +kernel) (?_ : Wp E (d + 1) 124 182 [.ref 74, .int v1, .int v2, .int v3, .int v4, .int v5, .int v6] [.int (M 74 36), .int v5, .ref 74] M L Q)
      refine wp_icmple (off := 8) 190 (by decide +kernel) (by decide) (fun c_16 => ?_) (fun c_16 => ?_)
      · have hP := hP.1 c_16
        refine wp_seg (pc' := 197) [.aload 0, .getfield 676, .putfield 676] (by decide +kernel) (?_ : Wp E (d + 1) 124 197 [.ref 74, .int v1, .int v2, .int v3, .int v4, .int v5, .int v6] [] (mput M 74 36 (M 74 36)) L Q)
        exact wp_vret (by decide +kernel) rfl (hK _ _ hP)
      · have hP := hP.2 c_16
        refine wp_seg (pc' := 197) [.iload 5, .goto 0, .putfield 676] (by decide +kernel) (?_ : Wp E (d + 1) 124 197 [.ref 74, .int v1, .int v2, .int v3, .int v4, .int v5, .int v6] [] (mput M 74 36 v5) L Q)
        exact wp_vret (by decide +kernel) rfl (hK _ _ hP)
    · have hP := hP.2 c_15
      obtain ⟨a_17, hP⟩ := hP
      refine wp_seg (pc' := 157) [.iload 5, .aload 0, .getfield 663, .iload 6, .iaload] (by decide +kernel) (show aok 89 0 v6 ∧ Wp E (d + 1) 124 157 [.ref 74, .int v1, .int v2, .int v3, .int v4, .int v5, .int v6] [.int (M 89 v6.toNatClampNeg), .int v5] M L Q from ⟨⟨rfl, a_17⟩, ?_⟩)
      refine wp_seg (pc' := 158) [.iload 3] (by decide +kernel) (?_ : Wp E (d + 1) 124 158 [.ref 74, .int v1, .int v2, .int v3, .int v4, .int v5, .int v6] [.int v3, .int (M 89 v6.toNatClampNeg), .int v5] M L Q)
      refine wp_icmple (off := 7) 165 (by decide +kernel) (by decide) (fun c_18 => ?_) (fun c_18 => ?_)
      · have hP := hP.1 c_18
        refine wp_seg (pc' := 139) [.iconst 0, .iadd, .istore 5, .iinc 6 1, .goto 0] (by decide +kernel) (?_ : Wp E (d + 1) 124 139 [.ref 74, .int v1, .int v2, .int v3, .int v4, .int (v5 + (Int32.ofInt 0)), .int (v6 + Int32.ofInt 1)] [] M L Q)
        exact ih v1 v2 v3 v4 (v5 + (Int32.ofInt 0)) (v6 + Int32.ofInt 1) M L hP
      · have hP := hP.2 c_18
        refine wp_seg (pc' := 139) [.iconst 1, .goto 0, .iadd, .istore 5, .iinc 6 1, .goto 0] (by decide +kernel) (?_ : Wp E (d + 1) 124 139 [.ref 74, .int v1, .int v2, .int v3, .int v4, .int (v5 + (Int32.ofInt 1)), .int (v6 + Int32.ofInt 1)] [] M L Q)
        exact ih v1 v2 v3 v4 (v5 + (Int32.ofInt 1)) (v6 + Int32.ofInt 1) M L hP
def P_X10_begin (x1 : Int32) (x2 : Int32) (x3 : Int32) (x4 : Int32) (M : Mem) (L : LMem) (K : Mem → LMem → Prop) : Prop := (vp_in (M 74 31) 20 ∧ P_X10_wayBits (mput (mput (mput M 88 ((M 74 31).toNatClampNeg) x3) 89 ((M 74 31).toNatClampNeg) (x3 + x4)) 90 ((M 74 31).toNatClampNeg) (((Int32.ofInt 1) <<< (x1 &&& 31)) ||| ((Int32.ofInt 1) <<< (x2 &&& 31)))) L (fun v_4 M_2 L_3 => P_X10_heardBy (M_2 74 6) (mput M_2 91 ((M 74 31).toNatClampNeg) v_4) L_3 (fun v_7 M_5 L_6 => (vp_in (M_2 74 31) 20 ∧ P_X10_heardBy (Int32.ofInt 0) (mput M_5 92 ((M_2 74 31).toNatClampNeg) v_7) L_6 (fun v_11 M_9 L_10 => (vp_in (M_5 74 31) 20 ∧ (vp_in x1 8 ∧ (vp_in (M_9 74 31) 20 ∧ PL_X10_begin_139 K 100000 x1 x2 x3 x4 (Int32.ofInt 0) (Int32.ofInt 0) (mput (mput (mput (mput (mput M_9 93 ((M_5 74 31).toNatClampNeg) v_11) 94 ((M_9 74 31).toNatClampNeg) (M_9 97 x1.toNatClampNeg)) 95 ((M_9 74 31).toNatClampNeg) (M_9 98 x1.toNatClampNeg)) 96 ((M_9 74 31).toNatClampNeg) (vp_nar .boolean (Int32.ofInt 0))) 74 31 ((M_9 74 31) + (Int32.ofInt 1))) L_10))))))))
theorem t_X10_begin {E : VE} {d : Nat} {Q : QQ} {K : Mem → LMem → Prop} {x1 : Int32} {x2 : Int32} {x3 : Int32} {x4 : Int32} {M : Mem} {L : LMem} (hP : P_X10_begin x1 x2 x3 x4 M L K) (hK : ∀ (M : Mem) (L : LMem), K M L → Q none M L) : Wp E (d + 1) 124 0 [.ref 74, .int x1, .int x2, .int x3, .int x4, .null, .null] [] M L Q := by
  unfold P_X10_begin at hP
  obtain ⟨a_1, hP⟩ := hP
  refine wp_seg (pc' := 10) [.aload 0, .getfield 662, .aload 0, .getfield 671, .iload 3, .iastore] (by decide +kernel) (show aok 88 0 (M 74 31) ∧ Wp E (d + 1) 124 10 [.ref 74, .int x1, .int x2, .int x3, .int x4, .null, .null] [] (mput M 88 ((M 74 31).toNatClampNeg) x3) L Q from ⟨⟨rfl, a_1⟩, ?_⟩)
  refine wp_seg (pc' := 23) [.aload 0, .getfield 663, .aload 0, .getfield 671, .iload 3, .iload 4, .iadd, .iastore] (by decide +kernel) (show aok 89 0 (M 74 31) ∧ Wp E (d + 1) 124 23 [.ref 74, .int x1, .int x2, .int x3, .int x4, .null, .null] [] (mput (mput M 88 ((M 74 31).toNatClampNeg) x3) 89 ((M 74 31).toNatClampNeg) (x3 + x4)) L Q from ⟨⟨rfl, a_1⟩, ?_⟩)
  refine wp_seg (pc' := 39) [.aload 0, .getfield 664, .aload 0, .getfield 671, .iconst 1, .iload 1, .ishl, .iconst 1, .iload 2, .ishl, .ior, .iastore] (by decide +kernel) (show aok 90 0 (M 74 31) ∧ Wp E (d + 1) 124 39 [.ref 74, .int x1, .int x2, .int x3, .int x4, .null, .null] [] (mput (mput (mput M 88 ((M 74 31).toNatClampNeg) x3) 89 ((M 74 31).toNatClampNeg) (x3 + x4)) 90 ((M 74 31).toNatClampNeg) (((Int32.ofInt 1) <<< (x1 &&& 31)) ||| ((Int32.ofInt 1) <<< (x2 &&& 31)))) L Q from ⟨⟨rfl, a_1⟩, ?_⟩)
  refine wp_seg (pc' := 48) [.aload 0, .getfield 665, .aload 0, .getfield 671, .aload 0] (by decide +kernel) (?_ : Wp E (d + 1) 124 48 [.ref 74, .int x1, .int x2, .int x3, .int x4, .null, .null] [.ref 74, .int (M 74 31), .ref 91] (mput (mput (mput M 88 ((M 74 31).toNatClampNeg) x3) 89 ((M 74 31).toNatClampNeg) (x3 + x4)) 90 ((M 74 31).toNatClampNeg) (((Int32.ofInt 1) <<< (x1 &&& 31)) ||| ((Int32.ofInt 1) <<< (x2 &&& 31)))) L Q)
  refine wp_callV 114 74 [] (i := 226) (by decide +kernel) (by decide +kernel) (by decide +kernel) (by decide +kernel) rfl rfl rfl (rest := [.int (M 74 31), .ref 91]) rfl rfl ?_
  refine t_X10_wayBits hP (fun v_4 M_2 L_3 hP => ?_)
  show Wp E (d + 1) 124 51 [.ref 74, .int x1, .int x2, .int x3, .int x4, .null, .null] [.int v_4, .int (M 74 31), .ref 91] M_2 L_3 Q
  refine wp_seg (pc' := 52) [.iastore] (by decide +kernel) (show aok 91 0 (M 74 31) ∧ Wp E (d + 1) 124 52 [.ref 74, .int x1, .int x2, .int x3, .int x4, .null, .null] [] (mput M_2 91 ((M 74 31).toNatClampNeg) v_4) L_3 Q from ⟨⟨rfl, a_1⟩, ?_⟩)
  refine wp_seg (pc' := 65) [.aload 0, .getfield 666, .aload 0, .getfield 671, .aload 0, .aload 0, .getfield 646] (by decide +kernel) (?_ : Wp E (d + 1) 124 65 [.ref 74, .int x1, .int x2, .int x3, .int x4, .null, .null] [.int (M_2 74 6), .ref 74, .int (M_2 74 31), .ref 92] (mput M_2 91 ((M 74 31).toNatClampNeg) v_4) L_3 Q)
  refine wp_callV 117 74 [.int (M_2 74 6)] (i := 209) (by decide +kernel) (by decide +kernel) (by decide +kernel) (by decide +kernel) rfl rfl rfl (rest := [.int (M_2 74 31), .ref 92]) rfl rfl ?_
  refine t_X10_heardBy hP (fun v_7 M_5 L_6 hP => ?_)
  show Wp E (d + 1) 124 68 [.ref 74, .int x1, .int x2, .int x3, .int x4, .null, .null] [.int v_7, .int (M_2 74 31), .ref 92] M_5 L_6 Q
  obtain ⟨a_8, hP⟩ := hP
  refine wp_seg (pc' := 69) [.iastore] (by decide +kernel) (show aok 92 0 (M_2 74 31) ∧ Wp E (d + 1) 124 69 [.ref 74, .int x1, .int x2, .int x3, .int x4, .null, .null] [] (mput M_5 92 ((M_2 74 31).toNatClampNeg) v_7) L_6 Q from ⟨⟨rfl, a_8⟩, ?_⟩)
  refine wp_seg (pc' := 79) [.aload 0, .getfield 667, .aload 0, .getfield 671, .aload 0, .iconst 0] (by decide +kernel) (?_ : Wp E (d + 1) 124 79 [.ref 74, .int x1, .int x2, .int x3, .int x4, .null, .null] [.int (Int32.ofInt 0), .ref 74, .int (M_5 74 31), .ref 93] (mput M_5 92 ((M_2 74 31).toNatClampNeg) v_7) L_6 Q)
  refine wp_callV 117 74 [.int (Int32.ofInt 0)] (i := 209) (by decide +kernel) (by decide +kernel) (by decide +kernel) (by decide +kernel) rfl rfl rfl (rest := [.int (M_5 74 31), .ref 93]) rfl rfl ?_
  refine t_X10_heardBy hP (fun v_11 M_9 L_10 hP => ?_)
  show Wp E (d + 1) 124 82 [.ref 74, .int x1, .int x2, .int x3, .int x4, .null, .null] [.int v_11, .int (M_5 74 31), .ref 93] M_9 L_10 Q
  obtain ⟨a_12, hP⟩ := hP
  refine wp_seg (pc' := 83) [.iastore] (by decide +kernel) (show aok 93 0 (M_5 74 31) ∧ Wp E (d + 1) 124 83 [.ref 74, .int x1, .int x2, .int x3, .int x4, .null, .null] [] (mput M_9 93 ((M_5 74 31).toNatClampNeg) v_11) L_10 Q from ⟨⟨rfl, a_12⟩, ?_⟩)
  obtain ⟨a_13, hP⟩ := hP
  refine wp_seg (pc' := 97) [.aload 0, .getfield 668, .aload 0, .getfield 671, .aload 0, .getfield 674, .iload 1, .iaload] (by decide +kernel) (show aok 97 0 x1 ∧ Wp E (d + 1) 124 97 [.ref 74, .int x1, .int x2, .int x3, .int x4, .null, .null] [.int (M_9 97 x1.toNatClampNeg), .int (M_9 74 31), .ref 94] (mput M_9 93 ((M_5 74 31).toNatClampNeg) v_11) L_10 Q from ⟨⟨rfl, a_13⟩, ?_⟩)
  obtain ⟨a_14, hP⟩ := hP
  refine wp_seg (pc' := 98) [.iastore] (by decide +kernel) (show aok 94 0 (M_9 74 31) ∧ Wp E (d + 1) 124 98 [.ref 74, .int x1, .int x2, .int x3, .int x4, .null, .null] [] (mput (mput M_9 93 ((M_5 74 31).toNatClampNeg) v_11) 94 ((M_9 74 31).toNatClampNeg) (M_9 97 x1.toNatClampNeg)) L_10 Q from ⟨⟨rfl, a_14⟩, ?_⟩)
  refine wp_seg (pc' := 112) [.aload 0, .getfield 669, .aload 0, .getfield 671, .aload 0, .getfield 675, .iload 1, .iaload] (by decide +kernel) (show aok 98 0 x1 ∧ Wp E (d + 1) 124 112 [.ref 74, .int x1, .int x2, .int x3, .int x4, .null, .null] [.int (M_9 98 x1.toNatClampNeg), .int (M_9 74 31), .ref 95] (mput (mput M_9 93 ((M_5 74 31).toNatClampNeg) v_11) 94 ((M_9 74 31).toNatClampNeg) (M_9 97 x1.toNatClampNeg)) L_10 Q from ⟨⟨rfl, a_13⟩, ?_⟩)
  refine wp_seg (pc' := 113) [.iastore] (by decide +kernel) (show aok 95 0 (M_9 74 31) ∧ Wp E (d + 1) 124 113 [.ref 74, .int x1, .int x2, .int x3, .int x4, .null, .null] [] (mput (mput (mput M_9 93 ((M_5 74 31).toNatClampNeg) v_11) 94 ((M_9 74 31).toNatClampNeg) (M_9 97 x1.toNatClampNeg)) 95 ((M_9 74 31).toNatClampNeg) (M_9 98 x1.toNatClampNeg)) L_10 Q from ⟨⟨rfl, a_14⟩, ?_⟩)
  refine wp_seg (pc' := 123) [.aload 0, .getfield 670, .aload 0, .getfield 671, .iconst 0, .bastore] (by decide +kernel) (Or.inl (show aok 96 1 (M_9 74 31) ∧ Wp E (d + 1) 124 123 [.ref 74, .int x1, .int x2, .int x3, .int x4, .null, .null] [] (mput (mput (mput (mput M_9 93 ((M_5 74 31).toNatClampNeg) v_11) 94 ((M_9 74 31).toNatClampNeg) (M_9 97 x1.toNatClampNeg)) 95 ((M_9 74 31).toNatClampNeg) (M_9 98 x1.toNatClampNeg)) 96 ((M_9 74 31).toNatClampNeg) (vp_nar .boolean (Int32.ofInt 0))) L_10 Q from ⟨⟨rfl, a_14⟩, ?_⟩))
  refine wp_seg (pc' := 139) [.aload 0, .dup, .getfield 671, .iconst 1, .iadd, .putfield 671, .iconst 0, .istore 5, .iconst 0, .istore 6] (by decide +kernel) (?_ : Wp E (d + 1) 124 139 [.ref 74, .int x1, .int x2, .int x3, .int x4, .int (Int32.ofInt 0), .int (Int32.ofInt 0)] [] (mput (mput (mput (mput (mput M_9 93 ((M_5 74 31).toNatClampNeg) v_11) 94 ((M_9 74 31).toNatClampNeg) (M_9 97 x1.toNatClampNeg)) 95 ((M_9 74 31).toNatClampNeg) (M_9 98 x1.toNatClampNeg)) 96 ((M_9 74 31).toNatClampNeg) (vp_nar .boolean (Int32.ofInt 0))) 74 31 ((M_9 74 31) + (Int32.ofInt 1))) L_10 Q)
  exact tl_X10_begin_139 hK 100000 x1 x2 x3 x4 (Int32.ofInt 0) (Int32.ofInt 0) (mput (mput (mput (mput (mput M_9 93 ((M_5 74 31).toNatClampNeg) v_11) 94 ((M_9 74 31).toNatClampNeg) (M_9 97 x1.toNatClampNeg)) 95 ((M_9 74 31).toNatClampNeg) (M_9 98 x1.toNatClampNeg)) 96 ((M_9 74 31).toNatClampNeg) (vp_nar .boolean (Int32.ofInt 0))) 74 31 ((M_9 74 31) + (Int32.ofInt 1))) L_10 hP

def PL_X10_goDay_64 (K : Int32 → Mem → LMem → Prop)  : Nat → Int32 → Int32 → Mem → LMem → Prop
  | 0, _, _, _, _ => False
  | n_ + 1, v1, v2, M, L => (((M 74 16) ≤ v2 → P_X10_tellBy (Int32.ofInt 9999) M L (fun M_3 L_4 => K (Int32.ofInt 1) M_3 L_4)) ∧ (¬ ((M 74 16) ≤ v2) → (vp_in v2 60 ∧ (((M 84 v2.toNatClampNeg) = (Int32.ofInt 46) → (vp_in (v2 + (Int32.ofInt 1)) 60 ∧ PL_X10_goDay_64 K n_ (v1 + ((M 84 ((v2 + (Int32.ofInt 1)).toNatClampNeg)) - (Int32.ofInt 48))) (v2 + Int32.ofInt 2) M L)) ∧ (¬ ((M 84 v2.toNatClampNeg) = (Int32.ofInt 46)) → P_X10_tellBy v1 M L (fun M_7 L_8 => (vp_in (v2 + (Int32.ofInt 1)) 60 ∧ P_X10_whyNot ((M_7 84 v2.toNatClampNeg) - (Int32.ofInt 65)) ((M_7 84 ((v2 + (Int32.ofInt 1)).toNatClampNeg)) - (Int32.ofInt 65)) v1 M_7 L_8 (fun v_12 M_10 L_11 => ((v_12 < 0 → (vp_in (v2 + (Int32.ofInt 2)) 60 ∧ P_X10_begin ((M_10 84 v2.toNatClampNeg) - (Int32.ofInt 65)) ((M_10 84 ((v2 + (Int32.ofInt 1)).toNatClampNeg)) - (Int32.ofInt 65)) v1 ((M_10 84 ((v2 + (Int32.ofInt 2)).toNatClampNeg)) - (Int32.ofInt 48)) M_10 L_11 (fun M_15 L_16 => PL_X10_goDay_64 K n_ v1 (v2 + Int32.ofInt 3) M_15 L_16))) ∧ (¬ (v_12 < 0) → K (Int32.ofInt 0) (mput (mput M_10 74 32 (M_10 74 31)) 74 33 v_12) L_11))))))))))
theorem tl_X10_goDay_64 {E : VE} {d : Nat} {Q : QQ} {K : Int32 → Mem → LMem → Prop}  (hK : ∀ (v : Int32) (M : Mem) (L : LMem), K v M L → Q (some (.int v)) M L)  : ∀ (n_ : Nat) (v1 : Int32) (v2 : Int32) (M : Mem) (L : LMem), PL_X10_goDay_64 K n_ v1 v2 M L → Wp E (d + 5) 125 64 [.ref 74, .int v1, .int v2, .null] [] M L Q := by
  intro n_
  induction n_ with
  | zero => intro v1 v2 M L hP; exact False.elim hP
  | succ n_ ih =>
    intro v1 v2 M L hP
    unfold PL_X10_goDay_64 at hP
    refine wp_seg (pc' := 69) [.iload 2, .aload 0, .getfield 656] (by decide +kernel) (?_ : Wp E (d + 5) 125 69 [.ref 74, .int v1, .int v2, .null] [.int (M 74 16), .int v2] M L Q)
    refine wp_icmpge (off := 126) 195 (by decide +kernel) (by decide) (fun c_2 => ?_) (fun c_2 => ?_)
    · have hP := hP.1 c_2
      refine wp_seg (pc' := 199) [.aload 0, .iconst 9999] (by decide +kernel) (?_ : Wp E (d + 5) 125 199 [.ref 74, .int v1, .int v2, .null] [.int (Int32.ofInt 9999), .ref 74] M L Q)
      refine wp_callV 120 74 [.int (Int32.ofInt 9999)] (i := 238) (by decide +kernel) (by decide +kernel) (by decide +kernel) (by decide +kernel) rfl rfl rfl (rest := []) rfl rfl ?_
      refine t_X10_tellBy hP (fun M_3 L_4 hP => ?_)
      show Wp E (d + 5) 125 202 [.ref 74, .int v1, .int v2, .null] [] M_3 L_4 Q
      refine wp_seg (pc' := 203) [.iconst 1] (by decide +kernel) (?_ : Wp E (d + 5) 125 203 [.ref 74, .int v1, .int v2, .null] [.int (Int32.ofInt 1)] M_3 L_4 Q)
      exact wp_zret (by decide +kernel) rfl (by decide) (hK _ _ _ hP)
    · have hP := hP.2 c_2
      obtain ⟨a_5, hP⟩ := hP
      refine wp_seg (pc' := 78) [.aload 0, .getfield 655, .iload 2, .iaload] (by decide +kernel) (show aok 84 0 v2 ∧ Wp E (d + 5) 125 78 [.ref 74, .int v1, .int v2, .null] [.int (M 84 v2.toNatClampNeg)] M L Q from ⟨⟨rfl, a_5⟩, ?_⟩)
      refine wp_seg (pc' := 80) [.iconst 46] (by decide +kernel) (?_ : Wp E (d + 5) 125 80 [.ref 74, .int v1, .int v2, .null] [.int (Int32.ofInt 46), .int (M 84 v2.toNatClampNeg)] M L Q)
      refine wp_icmpne (off := 23) 103 (by decide +kernel) (by decide) (fun c_6 => ?_) (fun c_6 => ?_)
      · have hP := hP.2 c_6
        refine wp_seg (pc' := 105) [.aload 0, .iload 1] (by decide +kernel) (?_ : Wp E (d + 5) 125 105 [.ref 74, .int v1, .int v2, .null] [.int v1, .ref 74] M L Q)
        refine wp_callV 120 74 [.int v1] (i := 238) (by decide +kernel) (by decide +kernel) (by decide +kernel) (by decide +kernel) rfl rfl rfl (rest := []) rfl rfl ?_
        refine t_X10_tellBy hP (fun M_7 L_8 hP => ?_)
        show Wp E (d + 5) 125 108 [.ref 74, .int v1, .int v2, .null] [] M_7 L_8 Q
        refine wp_seg (pc' := 115) [.aload 0, .aload 0, .getfield 655, .iload 2, .iaload] (by decide +kernel) (show aok 84 0 v2 ∧ Wp E (d + 5) 125 115 [.ref 74, .int v1, .int v2, .null] [.int (M_7 84 v2.toNatClampNeg), .ref 74] M_7 L_8 Q from ⟨⟨rfl, a_5⟩, ?_⟩)
        obtain ⟨a_9, hP⟩ := hP
        refine wp_seg (pc' := 126) [.iconst 65, .isub, .aload 0, .getfield 655, .iload 2, .iconst 1, .iadd, .iaload] (by decide +kernel) (show aok 84 0 (v2 + (Int32.ofInt 1)) ∧ Wp E (d + 5) 125 126 [.ref 74, .int v1, .int v2, .null] [.int (M_7 84 ((v2 + (Int32.ofInt 1)).toNatClampNeg)), .int ((M_7 84 v2.toNatClampNeg) - (Int32.ofInt 65)), .ref 74] M_7 L_8 Q from ⟨⟨rfl, a_9⟩, ?_⟩)
        refine wp_seg (pc' := 130) [.iconst 65, .isub, .iload 1] (by decide +kernel) (?_ : Wp E (d + 5) 125 130 [.ref 74, .int v1, .int v2, .null] [.int v1, .int ((M_7 84 ((v2 + (Int32.ofInt 1)).toNatClampNeg)) - (Int32.ofInt 65)), .int ((M_7 84 v2.toNatClampNeg) - (Int32.ofInt 65)), .ref 74] M_7 L_8 Q)
        refine wp_callV 123 74 [.int ((M_7 84 v2.toNatClampNeg) - (Int32.ofInt 65)), .int ((M_7 84 ((v2 + (Int32.ofInt 1)).toNatClampNeg)) - (Int32.ofInt 65)), .int v1] (i := 242) (by decide +kernel) (by decide +kernel) (by decide +kernel) (by decide +kernel) rfl rfl rfl (rest := []) rfl rfl ?_
        refine t_X10_whyNot hP (fun v_12 M_10 L_11 hP => ?_)
        show Wp E (d + 5) 125 133 [.ref 74, .int v1, .int v2, .null] [.int v_12] M_10 L_11 Q
        refine wp_seg (pc' := 135) [.istore 3, .iload 3] (by decide +kernel) (?_ : Wp E (d + 5) 125 135 [.ref 74, .int v1, .int v2, .int v_12] [.int v_12] M_10 L_11 Q)
        refine wp_iflt (off := 18) 153 (by decide +kernel) (by decide) (fun c_13 => ?_) (fun c_13 => ?_)
        · have hP := hP.1 c_13
          refine wp_seg (pc' := 160) [.aload 0, .aload 0, .getfield 655, .iload 2, .iaload] (by decide +kernel) (show aok 84 0 v2 ∧ Wp E (d + 5) 125 160 [.ref 74, .int v1, .int v2, .int v_12] [.int (M_10 84 v2.toNatClampNeg), .ref 74] M_10 L_11 Q from ⟨⟨rfl, a_5⟩, ?_⟩)
          refine wp_seg (pc' := 171) [.iconst 65, .isub, .aload 0, .getfield 655, .iload 2, .iconst 1, .iadd, .iaload] (by decide +kernel) (show aok 84 0 (v2 + (Int32.ofInt 1)) ∧ Wp E (d + 5) 125 171 [.ref 74, .int v1, .int v2, .int v_12] [.int (M_10 84 ((v2 + (Int32.ofInt 1)).toNatClampNeg)), .int ((M_10 84 v2.toNatClampNeg) - (Int32.ofInt 65)), .ref 74] M_10 L_11 Q from ⟨⟨rfl, a_9⟩, ?_⟩)
          obtain ⟨a_14, hP⟩ := hP
          refine wp_seg (pc' := 183) [.iconst 65, .isub, .iload 1, .aload 0, .getfield 655, .iload 2, .iconst 2, .iadd, .iaload] (by decide +kernel) (show aok 84 0 (v2 + (Int32.ofInt 2)) ∧ Wp E (d + 5) 125 183 [.ref 74, .int v1, .int v2, .int v_12] [.int (M_10 84 ((v2 + (Int32.ofInt 2)).toNatClampNeg)), .int v1, .int ((M_10 84 ((v2 + (Int32.ofInt 1)).toNatClampNeg)) - (Int32.ofInt 65)), .int ((M_10 84 v2.toNatClampNeg) - (Int32.ofInt 65)), .ref 74] M_10 L_11 Q from ⟨⟨rfl, a_14⟩, ?_⟩)
          refine wp_seg (pc' := 186) [.iconst 48, .isub] (by decide +kernel) (?_ : Wp E (d + 5) 125 186 [.ref 74, .int v1, .int v2, .int v_12] [.int ((M_10 84 ((v2 + (Int32.ofInt 2)).toNatClampNeg)) - (Int32.ofInt 48)), .int v1, .int ((M_10 84 ((v2 + (Int32.ofInt 1)).toNatClampNeg)) - (Int32.ofInt 65)), .int ((M_10 84 v2.toNatClampNeg) - (Int32.ofInt 65)), .ref 74] M_10 L_11 Q)
          refine wp_callV 124 74 [.int ((M_10 84 v2.toNatClampNeg) - (Int32.ofInt 65)), .int ((M_10 84 ((v2 + (Int32.ofInt 1)).toNatClampNeg)) - (Int32.ofInt 65)), .int v1, .int ((M_10 84 ((v2 + (Int32.ofInt 2)).toNatClampNeg)) - (Int32.ofInt 48))] (i := 246) (by decide +kernel) (by decide +kernel) (by decide +kernel) (by decide +kernel) rfl rfl rfl (rest := []) rfl rfl ?_
          refine t_X10_begin hP (fun M_15 L_16 hP => ?_)
          show Wp E (d + 5) 125 189 [.ref 74, .int v1, .int v2, .int v_12] [] M_15 L_16 Q
          refine wp_seg (pc' := 64) [.iinc 2 3, .goto 0] (by decide +kernel) (?_ : Wp E (d + 5) 125 64 [.ref 74, .int v1, .int (v2 + Int32.ofInt 3), .int v_12] [] M_15 L_16 Q)
          refine wp_drop (lo := [.ref 74, .int v1, .int (v2 + Int32.ofInt 3), .null]) ⟨Or.inr rfl, Or.inr rfl, Or.inr rfl, Or.inl rfl, trivial⟩ ?_
          exact ih v1 (v2 + Int32.ofInt 3) M_15 L_16 hP
        · have hP := hP.2 c_13
          refine wp_seg (pc' := 152) [.aload 0, .aload 0, .getfield 671, .putfield 672, .aload 0, .iload 3, .putfield 673, .iconst 0] (by decide +kernel) (?_ : Wp E (d + 5) 125 152 [.ref 74, .int v1, .int v2, .int v_12] [.int (Int32.ofInt 0)] (mput (mput M_10 74 32 (M_10 74 31)) 74 33 v_12) L_11 Q)
          exact wp_zret (by decide +kernel) rfl (by decide) (hK _ _ _ hP)
      · have hP := hP.1 c_6
        obtain ⟨a_17, hP⟩ := hP
        refine wp_seg (pc' := 92) [.iload 1, .aload 0, .getfield 655, .iload 2, .iconst 1, .iadd, .iaload] (by decide +kernel) (show aok 84 0 (v2 + (Int32.ofInt 1)) ∧ Wp E (d + 5) 125 92 [.ref 74, .int v1, .int v2, .null] [.int (M 84 ((v2 + (Int32.ofInt 1)).toNatClampNeg)), .int v1] M L Q from ⟨⟨rfl, a_17⟩, ?_⟩)
        refine wp_seg (pc' := 64) [.iconst 48, .isub, .iadd, .istore 1, .iinc 2 2, .goto 0] (by decide +kernel) (?_ : Wp E (d + 5) 125 64 [.ref 74, .int (v1 + ((M 84 ((v2 + (Int32.ofInt 1)).toNatClampNeg)) - (Int32.ofInt 48))), .int (v2 + Int32.ofInt 2), .null] [] M L Q)
        exact ih (v1 + ((M 84 ((v2 + (Int32.ofInt 1)).toNatClampNeg)) - (Int32.ofInt 48))) (v2 + Int32.ofInt 2) M L hP
def PL_X10_goDay_24 (K : Int32 → Mem → LMem → Prop)  : Nat → Int32 → Mem → LMem → Prop
  | 0, _, _, _ => False
  | n_ + 1, v1, M, L => (((Int32.ofInt 8) ≤ v1 → PL_X10_goDay_64 K 100000 (Int32.ofInt 0) (Int32.ofInt 0) M L) ∧ (¬ ((Int32.ofInt 8) ≤ v1) → (vp_in v1 8 ∧ PL_X10_goDay_24 K n_ (v1 + Int32.ofInt 1) (mput (mput M 97 v1.toNatClampNeg (M 79 v1.toNatClampNeg)) 98 v1.toNatClampNeg (M 79 v1.toNatClampNeg)) L)))
theorem tl_X10_goDay_24 {E : VE} {d : Nat} {Q : QQ} {K : Int32 → Mem → LMem → Prop}  (hK : ∀ (v : Int32) (M : Mem) (L : LMem), K v M L → Q (some (.int v)) M L)  : ∀ (n_ : Nat) (v1 : Int32) (M : Mem) (L : LMem), PL_X10_goDay_24 K n_ v1 M L → Wp E (d + 5) 125 24 [.ref 74, .int v1, .null, .null] [] M L Q := by
  intro n_
  induction n_ with
  | zero => intro v1 M L hP; exact False.elim hP
  | succ n_ ih =>
    intro v1 M L hP
    unfold PL_X10_goDay_24 at hP
    refine wp_seg (pc' := 27) [.iload 1, .iconst 8] (by decide +kernel) (?_ : Wp E (d + 5) 125 27 [.ref 74, .int v1, .null, .null] [.int (Int32.ofInt 8), .int v1] M L Q)
    refine wp_icmpge (off := 33) 60 (by decide +kernel) (by decide) (fun c_1 => ?_) (fun c_1 => ?_)
    · have hP := hP.1 c_1
      refine wp_seg (pc' := 64) [.iconst 0, .istore 1, .iconst 0, .istore 2] (by decide +kernel) (?_ : Wp E (d + 5) 125 64 [.ref 74, .int (Int32.ofInt 0), .int (Int32.ofInt 0), .null] [] M L Q)
      exact tl_X10_goDay_64 hK 100000 (Int32.ofInt 0) (Int32.ofInt 0) M L hP
    · have hP := hP.2 c_1
      obtain ⟨a_18, hP⟩ := hP
      refine wp_seg (pc' := 41) [.aload 0, .getfield 674, .iload 1, .aload 0, .getfield 647, .iload 1, .iaload] (by decide +kernel) (show aok 79 0 v1 ∧ Wp E (d + 5) 125 41 [.ref 74, .int v1, .null, .null] [.int (M 79 v1.toNatClampNeg), .int v1, .ref 97] M L Q from ⟨⟨rfl, a_18⟩, ?_⟩)
      refine wp_seg (pc' := 42) [.iastore] (by decide +kernel) (show aok 97 0 v1 ∧ Wp E (d + 5) 125 42 [.ref 74, .int v1, .null, .null] [] (mput M 97 v1.toNatClampNeg (M 79 v1.toNatClampNeg)) L Q from ⟨⟨rfl, a_18⟩, ?_⟩)
      refine wp_seg (pc' := 53) [.aload 0, .getfield 675, .iload 1, .aload 0, .getfield 647, .iload 1, .iaload] (by decide +kernel) (show aok 79 0 v1 ∧ Wp E (d + 5) 125 53 [.ref 74, .int v1, .null, .null] [.int (M 79 v1.toNatClampNeg), .int v1, .ref 98] (mput M 97 v1.toNatClampNeg (M 79 v1.toNatClampNeg)) L Q from ⟨⟨rfl, a_18⟩, ?_⟩)
      refine wp_seg (pc' := 54) [.iastore] (by decide +kernel) (show aok 98 0 v1 ∧ Wp E (d + 5) 125 54 [.ref 74, .int v1, .null, .null] [] (mput (mput M 97 v1.toNatClampNeg (M 79 v1.toNatClampNeg)) 98 v1.toNatClampNeg (M 79 v1.toNatClampNeg)) L Q from ⟨⟨rfl, a_18⟩, ?_⟩)
      refine wp_seg (pc' := 24) [.iinc 1 1, .goto 0] (by decide +kernel) (?_ : Wp E (d + 5) 125 24 [.ref 74, .int (v1 + Int32.ofInt 1), .null, .null] [] (mput (mput M 97 v1.toNatClampNeg (M 79 v1.toNatClampNeg)) 98 v1.toNatClampNeg (M 79 v1.toNatClampNeg)) L Q)
      exact ih (v1 + Int32.ofInt 1) (mput (mput M 97 v1.toNatClampNeg (M 79 v1.toNatClampNeg)) 98 v1.toNatClampNeg (M 79 v1.toNatClampNeg)) L hP
def P_X10_goDay (M : Mem) (L : LMem) (K : Int32 → Mem → LMem → Prop) : Prop := PL_X10_goDay_24 K 100000 (Int32.ofInt 0) (mput (mput (mput (mput M 74 31 (Int32.ofInt 0)) 74 32 (Int32.ofInt (-6))) 74 33 (Int32.ofInt (-6))) 74 36 (Int32.ofInt 0)) L
theorem t_X10_goDay {E : VE} {d : Nat} {Q : QQ} {K : Int32 → Mem → LMem → Prop} {M : Mem} {L : LMem} (hP : P_X10_goDay M L K) (hK : ∀ (v : Int32) (M : Mem) (L : LMem), K v M L → Q (some (.int v)) M L) : Wp E (d + 5) 125 0 [.ref 74, .null, .null, .null] [] M L Q := by
  unfold P_X10_goDay at hP
  refine wp_seg (pc' := 24) [.aload 0, .iconst 0, .putfield 671, .aload 0, .iconst (-6), .putfield 672, .aload 0, .iconst (-6), .putfield 673, .aload 0, .iconst 0, .putfield 676, .iconst 0, .istore 1] (by decide +kernel) (?_ : Wp E (d + 5) 125 24 [.ref 74, .int (Int32.ofInt 0), .null, .null] [] (mput (mput (mput (mput M 74 31 (Int32.ofInt 0)) 74 32 (Int32.ofInt (-6))) 74 33 (Int32.ofInt (-6))) 74 36 (Int32.ofInt 0)) L Q)
  exact tl_X10_goDay_24 hK 100000 (Int32.ofInt 0) (mput (mput (mput (mput M 74 31 (Int32.ofInt 0)) 74 32 (Int32.ofInt (-6))) 74 33 (Int32.ofInt (-6))) 74 36 (Int32.ofInt 0)) L hP

def P_X10_judge (x1 : Int32) (M : Mem) (L : LMem) (K : Int32 → Mem → LMem → Prop) : Prop := (((f_X10_in M x1.toInt64 (Int64.ofNat 0) (Int64.ofNat 1)) = 0 → K (Int32.ofInt (-2)) M L) ∧ (¬ ((f_X10_in M x1.toInt64 (Int64.ofNat 0) (Int64.ofNat 1)) = 0) → P_X10_faultOfDay M L (fun v_4 M_2 L_3 => ((v_4 < 0 → P_X10_goDay M_2 L_3 (fun v_8 M_6 L_7 => ((x1 = 0 → K (M_6 74 32) M_6 L_7) ∧ (¬ (x1 = 0) → K (M_6 74 33) M_6 L_7)))) ∧ (¬ (v_4 < 0) → K (Int32.ofInt (-5)) M_2 L_3)))))
theorem t_X10_judge {E : VE} {d : Nat} {Q : QQ} {K : Int32 → Mem → LMem → Prop} {x1 : Int32} {M : Mem} {L : LMem} (hP : P_X10_judge x1 M L K) (hK : ∀ (v : Int32) (M : Mem) (L : LMem), K v M L → Q (some (.int v)) M L) : Wp E (d + 6) 126 0 [.ref 74, .int x1] [] M L Q := by
  unfold P_X10_judge at hP
  refine wp_seg (pc' := 4) [.iload 1, .i2l, .ldc2_w 0, .ldc2_w 1] (by decide +kernel) (?_ : Wp E (d + 6) 126 4 [.ref 74, .int x1] [.long (Int64.ofNat 1), .long (Int64.ofNat 0), .long x1.toInt64] M L Q)
  refine wp_callS 94 [.long x1.toInt64, .long (Int64.ofNat 0), .long (Int64.ofNat 1)] (i := 129) (by decide +kernel) (by decide +kernel) (by decide +kernel) rfl rfl rfl (rest := []) rfl rfl ?_
  refine s_X10_in M x1.toInt64 (Int64.ofNat 0) (Int64.ofNat 1)  ?_
  show Wp E (d + 6) 126 7 [.ref 74, .int x1] [.int (f_X10_in M x1.toInt64 (Int64.ofNat 0) (Int64.ofNat 1))] M L Q
  refine wp_ifne (off := 6) 13 (by decide +kernel) (by decide) (fun c_1 => ?_) (fun c_1 => ?_)
  · have hP := hP.2 c_1
    refine wp_seg (pc' := 14) [.aload 0] (by decide +kernel) (?_ : Wp E (d + 6) 126 14 [.ref 74, .int x1] [.ref 74] M L Q)
    refine wp_callV 103 74 [] (i := 162) (by decide +kernel) (by decide +kernel) (by decide +kernel) (by decide +kernel) rfl rfl rfl (rest := []) rfl rfl ?_
    refine t_X10_faultOfDay hP (fun v_4 M_2 L_3 hP => ?_)
    show Wp E (d + 6) 126 17 [.ref 74, .int x1] [.int v_4] M_2 L_3 Q
    refine wp_iflt (off := 6) 23 (by decide +kernel) (by decide) (fun c_5 => ?_) (fun c_5 => ?_)
    · have hP := hP.1 c_5
      refine wp_seg (pc' := 24) [.aload 0] (by decide +kernel) (?_ : Wp E (d + 6) 126 24 [.ref 74, .int x1] [.ref 74] M_2 L_3 Q)
      refine wp_callV 125 74 [] (i := 250) (by decide +kernel) (by decide +kernel) (by decide +kernel) (by decide +kernel) rfl rfl rfl (rest := []) rfl rfl ?_
      refine t_X10_goDay hP (fun v_8 M_6 L_7 hP => ?_)
      show Wp E (d + 6) 126 27 [.ref 74, .int x1] [.int v_8] M_6 L_7 Q
      refine wp_seg (pc' := 29) [.pop, .iload 1] (by decide +kernel) (?_ : Wp E (d + 6) 126 29 [.ref 74, .int x1] [.int x1] M_6 L_7 Q)
      refine wp_ifne (off := 10) 39 (by decide +kernel) (by decide) (fun c_9 => ?_) (fun c_9 => ?_)
      · have hP := hP.2 c_9
        refine wp_seg (pc' := 43) [.aload 0, .getfield 673] (by decide +kernel) (?_ : Wp E (d + 6) 126 43 [.ref 74, .int x1] [.int (M_6 74 33)] M_6 L_7 Q)
        exact wp_iret (by decide +kernel) rfl (hK _ _ _ hP)
      · have hP := hP.1 c_9
        refine wp_seg (pc' := 43) [.aload 0, .getfield 672, .goto 0] (by decide +kernel) (?_ : Wp E (d + 6) 126 43 [.ref 74, .int x1] [.int (M_6 74 32)] M_6 L_7 Q)
        exact wp_iret (by decide +kernel) rfl (hK _ _ _ hP)
    · have hP := hP.2 c_5
      refine wp_seg (pc' := 22) [.iconst (-5)] (by decide +kernel) (?_ : Wp E (d + 6) 126 22 [.ref 74, .int x1] [.int (Int32.ofInt (-5))] M_2 L_3 Q)
      exact wp_iret (by decide +kernel) rfl (hK _ _ _ hP)
  · have hP := hP.1 c_1
    refine wp_seg (pc' := 12) [.iconst (-2)] (by decide +kernel) (?_ : Wp E (d + 6) 126 12 [.ref 74, .int x1] [.int (Int32.ofInt (-2))] M L Q)
    exact wp_iret (by decide +kernel) rfl (hK _ _ _ hP)

def PL_X10_day_42 (K : Int32 → Mem → LMem → Prop)  : Nat → Int32 → Int32 → Int32 → Int32 → Mem → LMem → Prop
  | 0, _, _, _, _, _, _ => False
  | n_ + 1, v1, v2, v3, v4, M, L => (((M 74 31) ≤ v4 → ((v1 = 0 → K v2 M L) ∧ (¬ (v1 = 0) → ((v1 = (Int32.ofInt 1) → K (M 74 36) M L) ∧ (¬ (v1 = (Int32.ofInt 1)) → K v3 M L))))) ∧ (¬ ((M 74 31) ≤ v4) → (vp_in v4 20 ∧ (((M 89 v4.toNatClampNeg) ≤ v2 → PL_X10_day_42 K n_ v1 v2 (v3 ||| (M 91 v4.toNatClampNeg)) (v4 + Int32.ofInt 1) M L) ∧ (¬ ((M 89 v4.toNatClampNeg) ≤ v2) → PL_X10_day_42 K n_ v1 (M 89 v4.toNatClampNeg) (v3 ||| (M 91 v4.toNatClampNeg)) (v4 + Int32.ofInt 1) M L)))))
theorem tl_X10_day_42 {E : VE} {d : Nat} {Q : QQ} {K : Int32 → Mem → LMem → Prop}  (hK : ∀ (v : Int32) (M : Mem) (L : LMem), K v M L → Q (some (.int v)) M L)  : ∀ (n_ : Nat) (v1 : Int32) (v2 : Int32) (v3 : Int32) (v4 : Int32) (M : Mem) (L : LMem), PL_X10_day_42 K n_ v1 v2 v3 v4 M L → Wp E (d + 6) 127 42 [.ref 74, .int v1, .int v2, .int v3, .int v4] [] M L Q := by
  intro n_
  induction n_ with
  | zero => intro v1 v2 v3 v4 M L hP; exact False.elim hP
  | succ n_ ih =>
    intro v1 v2 v3 v4 M L hP
    unfold PL_X10_day_42 at hP
    refine wp_seg (pc' := 48) [.iload 4, .aload 0, .getfield 671] (by decide +kernel) (?_ : Wp E (d + 6) 127 48 [.ref 74, .int v1, .int v2, .int v3, .int v4] [.int (M 74 31), .int v4] M L Q)
    refine wp_icmpge (off := 42) 90 (by decide +kernel) (by decide) (fun c_10 => ?_) (fun c_10 => ?_)
    · have hP := hP.1 c_10
      refine wp_seg (pc' := 91) [.iload 1] (by decide +kernel) (?_ : Wp E (d + 6) 127 91 [.ref 74, .int v1, .int v2, .int v3, .int v4] [.int v1] M L Q)
      refine wp_ifne (off := 7) 98 (by decide +kernel) (by decide) (fun c_11 => ?_) (fun c_11 => ?_)
      · have hP := hP.2 c_11
        refine wp_seg (pc' := 100) [.iload 1, .iconst 1] (by decide +kernel) (?_ : Wp E (d + 6) 127 100 [.ref 74, .int v1, .int v2, .int v3, .int v4] [.int (Int32.ofInt 1), .int v1] M L Q)
        refine wp_icmpne (off := 10) 110 (by decide +kernel) (by decide) (fun c_12 => ?_) (fun c_12 => ?_)
        · have hP := hP.2 c_12
          refine wp_seg (pc' := 111) [.iload 3] (by decide +kernel) (?_ : Wp E (d + 6) 127 111 [.ref 74, .int v1, .int v2, .int v3, .int v4] [.int v3] M L Q)
          exact wp_iret (by decide +kernel) rfl (hK _ _ _ hP)
        · have hP := hP.1 c_12
          refine wp_seg (pc' := 111) [.aload 0, .getfield 676, .goto 0] (by decide +kernel) (?_ : Wp E (d + 6) 127 111 [.ref 74, .int v1, .int v2, .int v3, .int v4] [.int (M 74 36)] M L Q)
          exact wp_iret (by decide +kernel) rfl (hK _ _ _ hP)
      · have hP := hP.1 c_11
        refine wp_seg (pc' := 111) [.iload 2, .goto 0] (by decide +kernel) (?_ : Wp E (d + 6) 127 111 [.ref 74, .int v1, .int v2, .int v3, .int v4] [.int v2] M L Q)
        exact wp_iret (by decide +kernel) rfl (hK _ _ _ hP)
    · have hP := hP.2 c_10
      obtain ⟨a_13, hP⟩ := hP
      refine wp_seg (pc' := 58) [.aload 0, .getfield 663, .iload 4, .iaload] (by decide +kernel) (show aok 89 0 v4 ∧ Wp E (d + 6) 127 58 [.ref 74, .int v1, .int v2, .int v3, .int v4] [.int (M 89 v4.toNatClampNeg)] M L Q from ⟨⟨rfl, a_13⟩, ?_⟩)
      refine wp_seg (pc' := 59) [.iload 2] (by decide +kernel) (?_ : Wp E (d + 6) 127 59 [.ref 74, .int v1, .int v2, .int v3, .int v4] [.int v2, .int (M 89 v4.toNatClampNeg)] M L Q)
      refine wp_icmple (off := 13) 72 (by decide +kernel) (by decide) (fun c_14 => ?_) (fun c_14 => ?_)
      · have hP := hP.1 c_14
        refine wp_seg (pc' := 82) [.iload 2, .istore 2, .iload 3, .aload 0, .getfield 665, .iload 4, .iaload] (by decide +kernel) (show aok 91 0 v4 ∧ Wp E (d + 6) 127 82 [.ref 74, .int v1, .int v2, .int v3, .int v4] [.int (M 91 v4.toNatClampNeg), .int v3] M L Q from ⟨⟨rfl, a_13⟩, ?_⟩)
        refine wp_seg (pc' := 42) [.ior, .istore 3, .iinc 4 1, .goto 0] (by decide +kernel) (?_ : Wp E (d + 6) 127 42 [.ref 74, .int v1, .int v2, .int (v3 ||| (M 91 v4.toNatClampNeg)), .int (v4 + Int32.ofInt 1)] [] M L Q)
        exact ih v1 v2 (v3 ||| (M 91 v4.toNatClampNeg)) (v4 + Int32.ofInt 1) M L hP
      · have hP := hP.2 c_14
        refine wp_seg (pc' := 69) [.aload 0, .getfield 663, .iload 4, .iaload] (by decide +kernel) (show aok 89 0 v4 ∧ Wp E (d + 6) 127 69 [.ref 74, .int v1, .int v2, .int v3, .int v4] [.int (M 89 v4.toNatClampNeg)] M L Q from ⟨⟨rfl, a_13⟩, ?_⟩)
        refine wp_seg (pc' := 82) [.goto 0, .istore 2, .iload 3, .aload 0, .getfield 665, .iload 4, .iaload] (by decide +kernel) (show aok 91 0 v4 ∧ Wp E (d + 6) 127 82 [.ref 74, .int v1, .int (M 89 v4.toNatClampNeg), .int v3, .int v4] [.int (M 91 v4.toNatClampNeg), .int v3] M L Q from ⟨⟨rfl, a_13⟩, ?_⟩)
        refine wp_seg (pc' := 42) [.ior, .istore 3, .iinc 4 1, .goto 0] (by decide +kernel) (?_ : Wp E (d + 6) 127 42 [.ref 74, .int v1, .int (M 89 v4.toNatClampNeg), .int (v3 ||| (M 91 v4.toNatClampNeg)), .int (v4 + Int32.ofInt 1)] [] M L Q)
        exact ih v1 (M 89 v4.toNatClampNeg) (v3 ||| (M 91 v4.toNatClampNeg)) (v4 + Int32.ofInt 1) M L hP
def P_X10_day (x1 : Int32) (M : Mem) (L : LMem) (K : Int32 → Mem → LMem → Prop) : Prop := (((f_X10_in M x1.toInt64 (Int64.ofNat 0) (Int64.ofNat 2)) = 0 → K (Int32.ofInt (-2)) M L) ∧ (¬ ((f_X10_in M x1.toInt64 (Int64.ofNat 0) (Int64.ofNat 2)) = 0) → P_X10_faultOfDay M L (fun v_4 M_2 L_3 => ((v_4 < 0 → P_X10_goDay M_2 L_3 (fun v_8 M_6 L_7 => ((v_8 = 0 → K (Int32.ofInt (-3)) M_6 L_7) ∧ (¬ (v_8 = 0) → PL_X10_day_42 K 100000 x1 (Int32.ofInt 0) (Int32.ofInt 0) (Int32.ofInt 0) M_6 L_7)))) ∧ (¬ (v_4 < 0) → K (Int32.ofInt (-5)) M_2 L_3)))))
theorem t_X10_day {E : VE} {d : Nat} {Q : QQ} {K : Int32 → Mem → LMem → Prop} {x1 : Int32} {M : Mem} {L : LMem} (hP : P_X10_day x1 M L K) (hK : ∀ (v : Int32) (M : Mem) (L : LMem), K v M L → Q (some (.int v)) M L) : Wp E (d + 6) 127 0 [.ref 74, .int x1, .null, .null, .null] [] M L Q := by
  unfold P_X10_day at hP
  refine wp_seg (pc' := 6) [.iload 1, .i2l, .ldc2_w 0, .ldc2_w 2] (by decide +kernel) (?_ : Wp E (d + 6) 127 6 [.ref 74, .int x1, .null, .null, .null] [.long (Int64.ofNat 2), .long (Int64.ofNat 0), .long x1.toInt64] M L Q)
  refine wp_callS 94 [.long x1.toInt64, .long (Int64.ofNat 0), .long (Int64.ofNat 2)] (i := 129) (by decide +kernel) (by decide +kernel) (by decide +kernel) rfl rfl rfl (rest := []) rfl rfl ?_
  refine s_X10_in M x1.toInt64 (Int64.ofNat 0) (Int64.ofNat 2)  ?_
  show Wp E (d + 6) 127 9 [.ref 74, .int x1, .null, .null, .null] [.int (f_X10_in M x1.toInt64 (Int64.ofNat 0) (Int64.ofNat 2))] M L Q
  refine wp_ifne (off := 6) 15 (by decide +kernel) (by decide) (fun c_1 => ?_) (fun c_1 => ?_)
  · have hP := hP.2 c_1
    refine wp_seg (pc' := 16) [.aload 0] (by decide +kernel) (?_ : Wp E (d + 6) 127 16 [.ref 74, .int x1, .null, .null, .null] [.ref 74] M L Q)
    refine wp_callV 103 74 [] (i := 162) (by decide +kernel) (by decide +kernel) (by decide +kernel) (by decide +kernel) rfl rfl rfl (rest := []) rfl rfl ?_
    refine t_X10_faultOfDay hP (fun v_4 M_2 L_3 hP => ?_)
    show Wp E (d + 6) 127 19 [.ref 74, .int x1, .null, .null, .null] [.int v_4] M_2 L_3 Q
    refine wp_iflt (off := 6) 25 (by decide +kernel) (by decide) (fun c_5 => ?_) (fun c_5 => ?_)
    · have hP := hP.1 c_5
      refine wp_seg (pc' := 26) [.aload 0] (by decide +kernel) (?_ : Wp E (d + 6) 127 26 [.ref 74, .int x1, .null, .null, .null] [.ref 74] M_2 L_3 Q)
      refine wp_callV 125 74 [] (i := 250) (by decide +kernel) (by decide +kernel) (by decide +kernel) (by decide +kernel) rfl rfl rfl (rest := []) rfl rfl ?_
      refine t_X10_goDay hP (fun v_8 M_6 L_7 hP => ?_)
      show Wp E (d + 6) 127 29 [.ref 74, .int x1, .null, .null, .null] [.int v_8] M_6 L_7 Q
      refine wp_ifne (off := 6) 35 (by decide +kernel) (by decide) (fun c_9 => ?_) (fun c_9 => ?_)
      · have hP := hP.2 c_9
        refine wp_seg (pc' := 42) [.iconst 0, .istore 2, .iconst 0, .istore 3, .iconst 0, .istore 4] (by decide +kernel) (?_ : Wp E (d + 6) 127 42 [.ref 74, .int x1, .int (Int32.ofInt 0), .int (Int32.ofInt 0), .int (Int32.ofInt 0)] [] M_6 L_7 Q)
        exact tl_X10_day_42 hK 100000 x1 (Int32.ofInt 0) (Int32.ofInt 0) (Int32.ofInt 0) M_6 L_7 hP
      · have hP := hP.1 c_9
        refine wp_seg (pc' := 34) [.iconst (-3)] (by decide +kernel) (?_ : Wp E (d + 6) 127 34 [.ref 74, .int x1, .null, .null, .null] [.int (Int32.ofInt (-3))] M_6 L_7 Q)
        exact wp_iret (by decide +kernel) rfl (hK _ _ _ hP)
    · have hP := hP.2 c_5
      refine wp_seg (pc' := 24) [.iconst (-5)] (by decide +kernel) (?_ : Wp E (d + 6) 127 24 [.ref 74, .int x1, .null, .null, .null] [.int (Int32.ofInt (-5))] M_2 L_3 Q)
      exact wp_iret (by decide +kernel) rfl (hK _ _ _ hP)
  · have hP := hP.1 c_1
    refine wp_seg (pc' := 14) [.iconst (-2)] (by decide +kernel) (?_ : Wp E (d + 6) 127 14 [.ref 74, .int x1, .null, .null, .null] [.int (Int32.ofInt (-2))] M L Q)
    exact wp_iret (by decide +kernel) rfl (hK _ _ _ hP)

def P_X10_knows (x1 : Int32) (x2 : Int32) (M : Mem) (L : LMem) (K : Int32 → Mem → LMem → Prop) : Prop := (((f_X10_isRoom M x1) = 0 → K (Int32.ofInt (-1)) M L) ∧ (¬ ((f_X10_isRoom M x1) = 0) → (((f_X10_in M x2.toInt64 (Int64.ofNat 0) (Int64.ofNat 1)) = 0 → K (Int32.ofInt (-2)) M L) ∧ (¬ ((f_X10_in M x2.toInt64 (Int64.ofNat 0) (Int64.ofNat 1)) = 0) → P_X10_faultOfDay M L (fun v_5 M_3 L_4 => ((v_5 < 0 → P_X10_goDay M_3 L_4 (fun v_9 M_7 L_8 => ((v_9 = 0 → K (Int32.ofInt (-3)) M_7 L_8) ∧ (¬ (v_9 = 0) → ((x2 = 0 → (vp_in x1 8 ∧ K (M_7 97 x1.toNatClampNeg) M_7 L_8)) ∧ (¬ (x2 = 0) → (vp_in x1 8 ∧ K (M_7 98 x1.toNatClampNeg) M_7 L_8))))))) ∧ (¬ (v_5 < 0) → K (Int32.ofInt (-5)) M_3 L_4)))))))
theorem t_X10_knows {E : VE} {d : Nat} {Q : QQ} {K : Int32 → Mem → LMem → Prop} {x1 : Int32} {x2 : Int32} {M : Mem} {L : LMem} (hP : P_X10_knows x1 x2 M L K) (hK : ∀ (v : Int32) (M : Mem) (L : LMem), K v M L → Q (some (.int v)) M L) : Wp E (d + 6) 129 0 [.ref 74, .int x1, .int x2] [] M L Q := by
  unfold P_X10_knows at hP
  refine wp_seg (pc' := 1) [.iload 1] (by decide +kernel) (?_ : Wp E (d + 6) 129 1 [.ref 74, .int x1, .int x2] [.int x1] M L Q)
  refine wp_callS 95 [.int x1] (i := 133) (by decide +kernel) (by decide +kernel) (by decide +kernel) rfl rfl rfl (rest := []) rfl rfl ?_
  refine s_X10_isRoom M x1  ?_
  show Wp E (d + 6) 129 4 [.ref 74, .int x1, .int x2] [.int (f_X10_isRoom M x1)] M L Q
  refine wp_ifne (off := 5) 9 (by decide +kernel) (by decide) (fun c_1 => ?_) (fun c_1 => ?_)
  · have hP := hP.2 c_1
    refine wp_seg (pc' := 13) [.iload 2, .i2l, .ldc2_w 0, .ldc2_w 1] (by decide +kernel) (?_ : Wp E (d + 6) 129 13 [.ref 74, .int x1, .int x2] [.long (Int64.ofNat 1), .long (Int64.ofNat 0), .long x2.toInt64] M L Q)
    refine wp_callS 94 [.long x2.toInt64, .long (Int64.ofNat 0), .long (Int64.ofNat 1)] (i := 129) (by decide +kernel) (by decide +kernel) (by decide +kernel) rfl rfl rfl (rest := []) rfl rfl ?_
    refine s_X10_in M x2.toInt64 (Int64.ofNat 0) (Int64.ofNat 1)  ?_
    show Wp E (d + 6) 129 16 [.ref 74, .int x1, .int x2] [.int (f_X10_in M x2.toInt64 (Int64.ofNat 0) (Int64.ofNat 1))] M L Q
    refine wp_ifne (off := 6) 22 (by decide +kernel) (by decide) (fun c_2 => ?_) (fun c_2 => ?_)
    · have hP := hP.2 c_2
      refine wp_seg (pc' := 23) [.aload 0] (by decide +kernel) (?_ : Wp E (d + 6) 129 23 [.ref 74, .int x1, .int x2] [.ref 74] M L Q)
      refine wp_callV 103 74 [] (i := 162) (by decide +kernel) (by decide +kernel) (by decide +kernel) (by decide +kernel) rfl rfl rfl (rest := []) rfl rfl ?_
      refine t_X10_faultOfDay hP (fun v_5 M_3 L_4 hP => ?_)
      show Wp E (d + 6) 129 26 [.ref 74, .int x1, .int x2] [.int v_5] M_3 L_4 Q
      refine wp_iflt (off := 6) 32 (by decide +kernel) (by decide) (fun c_6 => ?_) (fun c_6 => ?_)
      · have hP := hP.1 c_6
        refine wp_seg (pc' := 33) [.aload 0] (by decide +kernel) (?_ : Wp E (d + 6) 129 33 [.ref 74, .int x1, .int x2] [.ref 74] M_3 L_4 Q)
        refine wp_callV 125 74 [] (i := 250) (by decide +kernel) (by decide +kernel) (by decide +kernel) (by decide +kernel) rfl rfl rfl (rest := []) rfl rfl ?_
        refine t_X10_goDay hP (fun v_9 M_7 L_8 hP => ?_)
        show Wp E (d + 6) 129 36 [.ref 74, .int x1, .int x2] [.int v_9] M_7 L_8 Q
        refine wp_ifne (off := 6) 42 (by decide +kernel) (by decide) (fun c_10 => ?_) (fun c_10 => ?_)
        · have hP := hP.2 c_10
          refine wp_seg (pc' := 43) [.iload 2] (by decide +kernel) (?_ : Wp E (d + 6) 129 43 [.ref 74, .int x1, .int x2] [.int x2] M_7 L_8 Q)
          refine wp_ifne (off := 12) 55 (by decide +kernel) (by decide) (fun c_11 => ?_) (fun c_11 => ?_)
          · have hP := hP.2 c_11
            obtain ⟨a_12, hP⟩ := hP
            refine wp_seg (pc' := 61) [.aload 0, .getfield 675, .iload 1, .iaload] (by decide +kernel) (show aok 98 0 x1 ∧ Wp E (d + 6) 129 61 [.ref 74, .int x1, .int x2] [.int (M_7 98 x1.toNatClampNeg)] M_7 L_8 Q from ⟨⟨rfl, a_12⟩, ?_⟩)
            exact wp_iret (by decide +kernel) rfl (hK _ _ _ hP)
          · have hP := hP.1 c_11
            obtain ⟨a_13, hP⟩ := hP
            refine wp_seg (pc' := 52) [.aload 0, .getfield 674, .iload 1, .iaload] (by decide +kernel) (show aok 97 0 x1 ∧ Wp E (d + 6) 129 52 [.ref 74, .int x1, .int x2] [.int (M_7 97 x1.toNatClampNeg)] M_7 L_8 Q from ⟨⟨rfl, a_13⟩, ?_⟩)
            refine wp_seg (pc' := 61) [.goto 0] (by decide +kernel) (?_ : Wp E (d + 6) 129 61 [.ref 74, .int x1, .int x2] [.int (M_7 97 x1.toNatClampNeg)] M_7 L_8 Q)
            exact wp_iret (by decide +kernel) rfl (hK _ _ _ hP)
        · have hP := hP.1 c_10
          refine wp_seg (pc' := 41) [.iconst (-3)] (by decide +kernel) (?_ : Wp E (d + 6) 129 41 [.ref 74, .int x1, .int x2] [.int (Int32.ofInt (-3))] M_7 L_8 Q)
          exact wp_iret (by decide +kernel) rfl (hK _ _ _ hP)
      · have hP := hP.2 c_6
        refine wp_seg (pc' := 31) [.iconst (-5)] (by decide +kernel) (?_ : Wp E (d + 6) 129 31 [.ref 74, .int x1, .int x2] [.int (Int32.ofInt (-5))] M_3 L_4 Q)
        exact wp_iret (by decide +kernel) rfl (hK _ _ _ hP)
    · have hP := hP.1 c_2
      refine wp_seg (pc' := 21) [.iconst (-2)] (by decide +kernel) (?_ : Wp E (d + 6) 129 21 [.ref 74, .int x1, .int x2] [.int (Int32.ofInt (-2))] M L Q)
      exact wp_iret (by decide +kernel) rfl (hK _ _ _ hP)
  · have hP := hP.1 c_1
    refine wp_seg (pc' := 8) [.iconst (-1)] (by decide +kernel) (?_ : Wp E (d + 6) 129 8 [.ref 74, .int x1, .int x2] [.int (Int32.ofInt (-1))] M L Q)
    exact wp_iret (by decide +kernel) rfl (hK _ _ _ hP)
