def PL_X2_ofKind_4 (K : Int32 → Mem → LMem → Prop)  : Nat → Int32 → Int32 → Int32 → Mem → LMem → Prop
  | 0, _, _, _, _, _ => False
  | n_ + 1, v1, v2, v3, M, L => (((M 4 4) ≤ v3 → K v2 M L) ∧ (¬ ((M 4 4) ≤ v3) → (vp_in v3 12 ∧ (((M 7 v3.toNatClampNeg) = v1 → PL_X2_ofKind_4 K n_ v1 (v2 ||| ((Int32.ofInt 1) <<< (v3 &&& 31))) (v3 + Int32.ofInt 1) M L) ∧ (¬ ((M 7 v3.toNatClampNeg) = v1) → PL_X2_ofKind_4 K n_ v1 v2 (v3 + Int32.ofInt 1) M L)))))
theorem tl_X2_ofKind_4 {E : VE} {d : Nat} {Q : QQ} {K : Int32 → Mem → LMem → Prop}  (hK : ∀ (v : Int32) (M : Mem) (L : LMem), K v M L → Q (some (.int v)) M L)  : ∀ (n_ : Nat) (v1 : Int32) (v2 : Int32) (v3 : Int32) (M : Mem) (L : LMem), PL_X2_ofKind_4 K n_ v1 v2 v3 M L → Wp E d 14 4 [.ref 4, .int v1, .int v2, .int v3] [] M L Q := by
  intro n_
  induction n_ with
  | zero => intro v1 v2 v3 M L hP; exact False.elim hP
  | succ n_ ih =>
    intro v1 v2 v3 M L hP
    unfold PL_X2_ofKind_4 at hP
    refine wp_seg (pc' := 9) [.iload 3, .aload 0, .getfield 132] (by decide +kernel) (?_ : Wp E d 14 9 [.ref 4, .int v1, .int v2, .int v3] [.int (M 4 4), .int v3] M L Q)
    refine wp_icmpge (off := 25) 34 (by decide +kernel) (by decide) (fun c_1 => ?_) (fun c_1 => ?_)
    · have hP := hP.1 c_1
      refine wp_seg (pc' := 35) [.iload 2] (by decide +kernel) (?_ : Wp E d 14 35 [.ref 4, .int v1, .int v2, .int v3] [.int v2] M L Q)
      exact wp_iret (by decide +kernel) rfl (hK _ _ _ hP)
    · have hP := hP.2 c_1
      obtain ⟨a_2, hP⟩ := hP
      refine wp_seg (pc' := 18) [.aload 0, .getfield 130, .iload 3, .iaload] (by decide +kernel) (show aok 7 0 v3 ∧ Wp E d 14 18 [.ref 4, .int v1, .int v2, .int v3] [.int (M 7 v3.toNatClampNeg)] M L Q from ⟨⟨rfl, a_2⟩, ?_⟩)
      refine wp_seg (pc' := 19) [.iload 1] (by decide +kernel) (?_ : Wp E d 14 19 [.ref 4, .int v1, .int v2, .int v3] [.int v1, .int (M 7 v3.toNatClampNeg)] M L Q)
      refine wp_icmpne (off := 9) 28 (by decide +kernel) (by decide) (fun c_3 => ?_) (fun c_3 => ?_)
      · have hP := hP.2 c_3
        refine wp_seg (pc' := 4) [.iinc 3 1, .goto 0] (by decide +kernel) (?_ : Wp E d 14 4 [.ref 4, .int v1, .int v2, .int (v3 + Int32.ofInt 1)] [] M L Q)
        exact ih v1 v2 (v3 + Int32.ofInt 1) M L hP
      · have hP := hP.1 c_3
        refine wp_seg (pc' := 4) [.iload 2, .iconst 1, .iload 3, .ishl, .ior, .istore 2, .iinc 3 1, .goto 0] (by decide +kernel) (?_ : Wp E d 14 4 [.ref 4, .int v1, .int (v2 ||| ((Int32.ofInt 1) <<< (v3 &&& 31))), .int (v3 + Int32.ofInt 1)] [] M L Q)
        exact ih v1 (v2 ||| ((Int32.ofInt 1) <<< (v3 &&& 31))) (v3 + Int32.ofInt 1) M L hP
def P_X2_ofKind (x1 : Int32) (M : Mem) (L : LMem) (K : Int32 → Mem → LMem → Prop) : Prop := PL_X2_ofKind_4 K 100000 x1 (Int32.ofInt 0) (Int32.ofInt 0) M L
theorem t_X2_ofKind {E : VE} {d : Nat} {Q : QQ} {K : Int32 → Mem → LMem → Prop} {x1 : Int32} {M : Mem} {L : LMem} (hP : P_X2_ofKind x1 M L K) (hK : ∀ (v : Int32) (M : Mem) (L : LMem), K v M L → Q (some (.int v)) M L) : Wp E d 14 0 [.ref 4, .int x1, .null, .null] [] M L Q := by
  unfold P_X2_ofKind at hP
  refine wp_seg (pc' := 4) [.iconst 0, .istore 2, .iconst 0, .istore 3] (by decide +kernel) (?_ : Wp E d 14 4 [.ref 4, .int x1, .int (Int32.ofInt 0), .int (Int32.ofInt 0)] [] M L Q)
  exact tl_X2_ofKind_4 hK 100000 x1 (Int32.ofInt 0) (Int32.ofInt 0) M L hP

def PL_X5_houseFault_4 (K : Int32 → Mem → LMem → Prop)  : Nat → Int32 → Int32 → Mem → LMem → Prop
  | 0, _, _, _, _ => False
  | n_ + 1, v1, v2, M, L => (((Int32.ofInt 12) ≤ v2 → (((M 1 1) ≤ v1 → K (Int32.ofInt (-6)) M L) ∧ (¬ ((M 1 1) ≤ v1) → K v1 M L))) ∧ (¬ ((Int32.ofInt 12) ≤ v2) → (((M 1 1) ≤ v1 → K (Int32.ofInt (-6)) M L) ∧ (¬ ((M 1 1) ≤ v1) → (((f_X5_roomAt M v1) = 0 → K v1 M L) ∧ (¬ ((f_X5_roomAt M v1) = 0) → (((f_X5_kindAt M (v1 + (Int32.ofInt 1))) = 0 → K (v1 + (Int32.ofInt 1)) M L) ∧ (¬ ((f_X5_kindAt M (v1 + (Int32.ofInt 1))) = 0) → (((f_X5_otherRoomAt M (v1 + (Int32.ofInt 2)) v1) = 0 → K (v1 + (Int32.ofInt 2)) M L) ∧ (¬ ((f_X5_otherRoomAt M (v1 + (Int32.ofInt 2)) v1) = 0) → (((f_X5_digitAt M (v1 + (Int32.ofInt 3))) = 0 → K (v1 + (Int32.ofInt 3)) M L) ∧ (¬ ((f_X5_digitAt M (v1 + (Int32.ofInt 3))) = 0) → PL_X5_houseFault_4 K n_ (v1 + Int32.ofInt 4) (v2 + Int32.ofInt 1) M L))))))))))))
theorem tl_X5_houseFault_4 {E : VE} {d : Nat} {Q : QQ} {K : Int32 → Mem → LMem → Prop}  (hK : ∀ (v : Int32) (M : Mem) (L : LMem), K v M L → Q (some (.int v)) M L)  : ∀ (n_ : Nat) (v1 : Int32) (v2 : Int32) (M : Mem) (L : LMem), PL_X5_houseFault_4 K n_ v1 v2 M L → Wp E (d + 3) 36 4 [.ref 1, .int v1, .int v2] [] M L Q := by
  intro n_
  induction n_ with
  | zero => intro v1 v2 M L hP; exact False.elim hP
  | succ n_ ih =>
    intro v1 v2 M L hP
    unfold PL_X5_houseFault_4 at hP
    refine wp_seg (pc' := 7) [.iload 2, .iconst 12] (by decide +kernel) (?_ : Wp E (d + 3) 36 7 [.ref 1, .int v1, .int v2] [.int (Int32.ofInt 12), .int v2] M L Q)
    refine wp_icmpge (off := 73) 80 (by decide +kernel) (by decide) (fun c_1 => ?_) (fun c_1 => ?_)
    · have hP := hP.1 c_1
      refine wp_seg (pc' := 85) [.iload 1, .aload 0, .getfield 321] (by decide +kernel) (?_ : Wp E (d + 3) 36 85 [.ref 1, .int v1, .int v2] [.int (M 1 1), .int v1] M L Q)
      refine wp_icmpge (off := 7) 92 (by decide +kernel) (by decide) (fun c_2 => ?_) (fun c_2 => ?_)
      · have hP := hP.1 c_2
        refine wp_seg (pc' := 94) [.iconst (-6)] (by decide +kernel) (?_ : Wp E (d + 3) 36 94 [.ref 1, .int v1, .int v2] [.int (Int32.ofInt (-6))] M L Q)
        exact wp_iret (by decide +kernel) rfl (hK _ _ _ hP)
      · have hP := hP.2 c_2
        refine wp_seg (pc' := 94) [.iload 1, .goto 0] (by decide +kernel) (?_ : Wp E (d + 3) 36 94 [.ref 1, .int v1, .int v2] [.int v1] M L Q)
        exact wp_iret (by decide +kernel) rfl (hK _ _ _ hP)
    · have hP := hP.2 c_1
      refine wp_seg (pc' := 15) [.iload 1, .aload 0, .getfield 321] (by decide +kernel) (?_ : Wp E (d + 3) 36 15 [.ref 1, .int v1, .int v2] [.int (M 1 1), .int v1] M L Q)
      refine wp_icmpge (off := 65) 80 (by decide +kernel) (by decide) (fun c_3 => ?_) (fun c_3 => ?_)
      · have hP := hP.1 c_3
        refine wp_seg (pc' := 85) [.iload 1, .aload 0, .getfield 321] (by decide +kernel) (?_ : Wp E (d + 3) 36 85 [.ref 1, .int v1, .int v2] [.int (M 1 1), .int v1] M L Q)
        refine wp_icmpge (off := 7) 92 (by decide +kernel) (by decide) (fun c_4 => ?_) (fun c_4 => ?_)
        · skip
          refine wp_seg (pc' := 94) [.iconst (-6)] (by decide +kernel) (?_ : Wp E (d + 3) 36 94 [.ref 1, .int v1, .int v2] [.int (Int32.ofInt (-6))] M L Q)
          exact wp_iret (by decide +kernel) rfl (hK _ _ _ hP)
        · exact absurd c_3 c_4
      · have hP := hP.2 c_3
        refine wp_seg (pc' := 20) [.aload 0, .iload 1] (by decide +kernel) (?_ : Wp E (d + 3) 36 20 [.ref 1, .int v1, .int v2] [.int v1, .ref 1] M L Q)
        refine wp_callV 30 1 [.int v1] (i := 27) (by decide +kernel) (by decide +kernel) (by decide +kernel) (by decide +kernel) rfl rfl rfl (rest := []) rfl rfl ?_
        refine s_X5_roomAt M v1  ?_
        show Wp E (d + 3) 36 23 [.ref 1, .int v1, .int v2] [.int (f_X5_roomAt M v1)] M L Q
        refine wp_ifne (off := 5) 28 (by decide +kernel) (by decide) (fun c_5 => ?_) (fun c_5 => ?_)
        · have hP := hP.2 c_5
          refine wp_seg (pc' := 32) [.aload 0, .iload 1, .iconst 1, .iadd] (by decide +kernel) (?_ : Wp E (d + 3) 36 32 [.ref 1, .int v1, .int v2] [.int (v1 + (Int32.ofInt 1)), .ref 1] M L Q)
          refine wp_callV 33 1 [.int (v1 + (Int32.ofInt 1))] (i := 31) (by decide +kernel) (by decide +kernel) (by decide +kernel) (by decide +kernel) rfl rfl rfl (rest := []) rfl rfl ?_
          refine s_X5_kindAt M (v1 + (Int32.ofInt 1))  ?_
          show Wp E (d + 3) 36 35 [.ref 1, .int v1, .int v2] [.int (f_X5_kindAt M (v1 + (Int32.ofInt 1)))] M L Q
          refine wp_ifne (off := 7) 42 (by decide +kernel) (by decide) (fun c_6 => ?_) (fun c_6 => ?_)
          · have hP := hP.2 c_6
            refine wp_seg (pc' := 47) [.aload 0, .iload 1, .iconst 2, .iadd, .iload 1] (by decide +kernel) (?_ : Wp E (d + 3) 36 47 [.ref 1, .int v1, .int v2] [.int v1, .int (v1 + (Int32.ofInt 2)), .ref 1] M L Q)
            refine wp_callV 31 1 [.int (v1 + (Int32.ofInt 2)), .int v1] (i := 34) (by decide +kernel) (by decide +kernel) (by decide +kernel) (by decide +kernel) rfl rfl rfl (rest := []) rfl rfl ?_
            refine s_X5_otherRoomAt M (v1 + (Int32.ofInt 2)) v1  ?_
            show Wp E (d + 3) 36 50 [.ref 1, .int v1, .int v2] [.int (f_X5_otherRoomAt M (v1 + (Int32.ofInt 2)) v1)] M L Q
            refine wp_ifne (off := 7) 57 (by decide +kernel) (by decide) (fun c_7 => ?_) (fun c_7 => ?_)
            · have hP := hP.2 c_7
              refine wp_seg (pc' := 61) [.aload 0, .iload 1, .iconst 3, .iadd] (by decide +kernel) (?_ : Wp E (d + 3) 36 61 [.ref 1, .int v1, .int v2] [.int (v1 + (Int32.ofInt 3)), .ref 1] M L Q)
              refine wp_callV 32 1 [.int (v1 + (Int32.ofInt 3))] (i := 38) (by decide +kernel) (by decide +kernel) (by decide +kernel) (by decide +kernel) rfl rfl rfl (rest := []) rfl rfl ?_
              refine s_X5_digitAt M (v1 + (Int32.ofInt 3))  ?_
              show Wp E (d + 3) 36 64 [.ref 1, .int v1, .int v2] [.int (f_X5_digitAt M (v1 + (Int32.ofInt 3)))] M L Q
              refine wp_ifne (off := 7) 71 (by decide +kernel) (by decide) (fun c_8 => ?_) (fun c_8 => ?_)
              · have hP := hP.2 c_8
                refine wp_seg (pc' := 4) [.iinc 1 4, .iinc 2 1, .goto 0] (by decide +kernel) (?_ : Wp E (d + 3) 36 4 [.ref 1, .int (v1 + Int32.ofInt 4), .int (v2 + Int32.ofInt 1)] [] M L Q)
                exact ih (v1 + Int32.ofInt 4) (v2 + Int32.ofInt 1) M L hP
              · have hP := hP.1 c_8
                refine wp_seg (pc' := 70) [.iload 1, .iconst 3, .iadd] (by decide +kernel) (?_ : Wp E (d + 3) 36 70 [.ref 1, .int v1, .int v2] [.int (v1 + (Int32.ofInt 3))] M L Q)
                exact wp_iret (by decide +kernel) rfl (hK _ _ _ hP)
            · have hP := hP.1 c_7
              refine wp_seg (pc' := 56) [.iload 1, .iconst 2, .iadd] (by decide +kernel) (?_ : Wp E (d + 3) 36 56 [.ref 1, .int v1, .int v2] [.int (v1 + (Int32.ofInt 2))] M L Q)
              exact wp_iret (by decide +kernel) rfl (hK _ _ _ hP)
          · have hP := hP.1 c_6
            refine wp_seg (pc' := 41) [.iload 1, .iconst 1, .iadd] (by decide +kernel) (?_ : Wp E (d + 3) 36 41 [.ref 1, .int v1, .int v2] [.int (v1 + (Int32.ofInt 1))] M L Q)
            exact wp_iret (by decide +kernel) rfl (hK _ _ _ hP)
        · have hP := hP.1 c_5
          refine wp_seg (pc' := 27) [.iload 1] (by decide +kernel) (?_ : Wp E (d + 3) 36 27 [.ref 1, .int v1, .int v2] [.int v1] M L Q)
          exact wp_iret (by decide +kernel) rfl (hK _ _ _ hP)
def P_X5_houseFault (M : Mem) (L : LMem) (K : Int32 → Mem → LMem → Prop) : Prop := PL_X5_houseFault_4 K 100000 (Int32.ofInt 0) (Int32.ofInt 0) M L
theorem t_X5_houseFault {E : VE} {d : Nat} {Q : QQ} {K : Int32 → Mem → LMem → Prop} {M : Mem} {L : LMem} (hP : P_X5_houseFault M L K) (hK : ∀ (v : Int32) (M : Mem) (L : LMem), K v M L → Q (some (.int v)) M L) : Wp E (d + 3) 36 0 [.ref 1, .null, .null] [] M L Q := by
  unfold P_X5_houseFault at hP
  refine wp_seg (pc' := 4) [.iconst 0, .istore 1, .iconst 0, .istore 2] (by decide +kernel) (?_ : Wp E (d + 3) 36 4 [.ref 1, .int (Int32.ofInt 0), .int (Int32.ofInt 0)] [] M L Q)
  exact tl_X5_houseFault_4 hK 100000 (Int32.ofInt 0) (Int32.ofInt 0) M L hP

def PL_X5_dayFault_4 (K : Int32 → Mem → LMem → Prop)  : Nat → Int32 → Int32 → Mem → LMem → Prop
  | 0, _, _, _, _ => False
  | n_ + 1, v1, v2, M, L => (((Int32.ofInt 20) ≤ v2 → (((M 1 1) ≤ v1 → K (Int32.ofInt (-6)) M L) ∧ (¬ ((M 1 1) ≤ v1) → K v1 M L))) ∧ (¬ ((Int32.ofInt 20) ≤ v2) → (((M 1 1) ≤ v1 → K (Int32.ofInt (-6)) M L) ∧ (¬ ((M 1 1) ≤ v1) → (((f_X5_signAt M v1) = (Int32.ofInt 46) → (((f_X5_digitAt M (v1 + (Int32.ofInt 1))) = 0 → K (v1 + (Int32.ofInt 1)) M L) ∧ (¬ ((f_X5_digitAt M (v1 + (Int32.ofInt 1))) = 0) → PL_X5_dayFault_4 K n_ ((v1 + (Int32.ofInt 1)) + (Int32.ofInt 1)) (v2 + Int32.ofInt 1) M L))) ∧ (¬ ((f_X5_signAt M v1) = (Int32.ofInt 46)) → (((f_X5_roomAt M v1) = 0 → K v1 M L) ∧ (¬ ((f_X5_roomAt M v1) = 0) → (((f_X5_otherRoomAt M (v1 + (Int32.ofInt 1)) v1) = 0 → K (v1 + (Int32.ofInt 1)) M L) ∧ (¬ ((f_X5_otherRoomAt M (v1 + (Int32.ofInt 1)) v1) = 0) → (((f_X5_digitAt M (v1 + (Int32.ofInt 2))) = 0 → K (v1 + (Int32.ofInt 2)) M L) ∧ (¬ ((f_X5_digitAt M (v1 + (Int32.ofInt 2))) = 0) → PL_X5_dayFault_4 K n_ ((v1 + (Int32.ofInt 2)) + (Int32.ofInt 1)) (v2 + Int32.ofInt 1) M L))))))))))))
theorem tl_X5_dayFault_4 {E : VE} {d : Nat} {Q : QQ} {K : Int32 → Mem → LMem → Prop}  (hK : ∀ (v : Int32) (M : Mem) (L : LMem), K v M L → Q (some (.int v)) M L)  : ∀ (n_ : Nat) (v1 : Int32) (v2 : Int32) (M : Mem) (L : LMem), PL_X5_dayFault_4 K n_ v1 v2 M L → Wp E (d + 3) 37 4 [.ref 1, .int v1, .int v2, .null] [] M L Q := by
  intro n_
  induction n_ with
  | zero => intro v1 v2 M L hP; exact False.elim hP
  | succ n_ ih =>
    intro v1 v2 M L hP
    unfold PL_X5_dayFault_4 at hP
    refine wp_seg (pc' := 7) [.iload 2, .iconst 20] (by decide +kernel) (?_ : Wp E (d + 3) 37 7 [.ref 1, .int v1, .int v2, .null] [.int (Int32.ofInt 20), .int v2] M L Q)
    refine wp_icmpge (off := 74) 81 (by decide +kernel) (by decide) (fun c_1 => ?_) (fun c_1 => ?_)
    · have hP := hP.1 c_1
      refine wp_seg (pc' := 86) [.iload 1, .aload 0, .getfield 321] (by decide +kernel) (?_ : Wp E (d + 3) 37 86 [.ref 1, .int v1, .int v2, .null] [.int (M 1 1), .int v1] M L Q)
      refine wp_icmpge (off := 7) 93 (by decide +kernel) (by decide) (fun c_2 => ?_) (fun c_2 => ?_)
      · have hP := hP.1 c_2
        refine wp_seg (pc' := 95) [.iconst (-6)] (by decide +kernel) (?_ : Wp E (d + 3) 37 95 [.ref 1, .int v1, .int v2, .null] [.int (Int32.ofInt (-6))] M L Q)
        exact wp_iret (by decide +kernel) rfl (hK _ _ _ hP)
      · have hP := hP.2 c_2
        refine wp_seg (pc' := 95) [.iload 1, .goto 0] (by decide +kernel) (?_ : Wp E (d + 3) 37 95 [.ref 1, .int v1, .int v2, .null] [.int v1] M L Q)
        exact wp_iret (by decide +kernel) rfl (hK _ _ _ hP)
    · have hP := hP.2 c_1
      refine wp_seg (pc' := 15) [.iload 1, .aload 0, .getfield 321] (by decide +kernel) (?_ : Wp E (d + 3) 37 15 [.ref 1, .int v1, .int v2, .null] [.int (M 1 1), .int v1] M L Q)
      refine wp_icmpge (off := 66) 81 (by decide +kernel) (by decide) (fun c_3 => ?_) (fun c_3 => ?_)
      · have hP := hP.1 c_3
        refine wp_seg (pc' := 86) [.iload 1, .aload 0, .getfield 321] (by decide +kernel) (?_ : Wp E (d + 3) 37 86 [.ref 1, .int v1, .int v2, .null] [.int (M 1 1), .int v1] M L Q)
        refine wp_icmpge (off := 7) 93 (by decide +kernel) (by decide) (fun c_4 => ?_) (fun c_4 => ?_)
        · skip
          refine wp_seg (pc' := 95) [.iconst (-6)] (by decide +kernel) (?_ : Wp E (d + 3) 37 95 [.ref 1, .int v1, .int v2, .null] [.int (Int32.ofInt (-6))] M L Q)
          exact wp_iret (by decide +kernel) rfl (hK _ _ _ hP)
        · exact absurd c_3 c_4
      · have hP := hP.2 c_3
        refine wp_seg (pc' := 24) [.iload 1, .iconst 1, .iadd, .istore 3, .aload 0, .iload 1] (by decide +kernel) (?_ : Wp E (d + 3) 37 24 [.ref 1, .int v1, .int v2, .int (v1 + (Int32.ofInt 1))] [.int v1, .ref 1] M L Q)
        refine wp_callV 29 1 [.int v1] (i := 19) (by decide +kernel) (by decide +kernel) (by decide +kernel) (by decide +kernel) rfl rfl rfl (rest := []) rfl rfl ?_
        refine s_X5_signAt M v1  ?_
        show Wp E (d + 3) 37 27 [.ref 1, .int v1, .int v2, .int (v1 + (Int32.ofInt 1))] [.int (f_X5_signAt M v1)] M L Q
        refine wp_seg (pc' := 29) [.iconst 46] (by decide +kernel) (?_ : Wp E (d + 3) 37 29 [.ref 1, .int v1, .int v2, .int (v1 + (Int32.ofInt 1))] [.int (Int32.ofInt 46), .int (f_X5_signAt M v1)] M L Q)
        refine wp_icmpeq (off := 32) 61 (by decide +kernel) (by decide) (fun c_5 => ?_) (fun c_5 => ?_)
        · have hP := hP.1 c_5
          refine wp_seg (pc' := 63) [.aload 0, .iload 3] (by decide +kernel) (?_ : Wp E (d + 3) 37 63 [.ref 1, .int v1, .int v2, .int (v1 + (Int32.ofInt 1))] [.int (v1 + (Int32.ofInt 1)), .ref 1] M L Q)
          refine wp_callV 32 1 [.int (v1 + (Int32.ofInt 1))] (i := 38) (by decide +kernel) (by decide +kernel) (by decide +kernel) (by decide +kernel) rfl rfl rfl (rest := []) rfl rfl ?_
          refine s_X5_digitAt M (v1 + (Int32.ofInt 1))  ?_
          show Wp E (d + 3) 37 66 [.ref 1, .int v1, .int v2, .int (v1 + (Int32.ofInt 1))] [.int (f_X5_digitAt M (v1 + (Int32.ofInt 1)))] M L Q
          refine wp_ifne (off := 5) 71 (by decide +kernel) (by decide) (fun c_6 => ?_) (fun c_6 => ?_)
          · have hP := hP.2 c_6
            refine wp_seg (pc' := 4) [.iload 3, .iconst 1, .iadd, .istore 1, .iinc 2 1, .goto 0] (by decide +kernel) (?_ : Wp E (d + 3) 37 4 [.ref 1, .int ((v1 + (Int32.ofInt 1)) + (Int32.ofInt 1)), .int (v2 + Int32.ofInt 1), .int (v1 + (Int32.ofInt 1))] [] M L Q)
            refine wp_drop (lo := [.ref 1, .int ((v1 + (Int32.ofInt 1)) + (Int32.ofInt 1)), .int (v2 + Int32.ofInt 1), .null]) ⟨Or.inr rfl, Or.inr rfl, Or.inr rfl, Or.inl rfl, trivial⟩ ?_
            exact ih ((v1 + (Int32.ofInt 1)) + (Int32.ofInt 1)) (v2 + Int32.ofInt 1) M L hP
          · have hP := hP.1 c_6
            refine wp_seg (pc' := 70) [.iload 3] (by decide +kernel) (?_ : Wp E (d + 3) 37 70 [.ref 1, .int v1, .int v2, .int (v1 + (Int32.ofInt 1))] [.int (v1 + (Int32.ofInt 1))] M L Q)
            exact wp_iret (by decide +kernel) rfl (hK _ _ _ hP)
        · have hP := hP.2 c_5
          refine wp_seg (pc' := 34) [.aload 0, .iload 1] (by decide +kernel) (?_ : Wp E (d + 3) 37 34 [.ref 1, .int v1, .int v2, .int (v1 + (Int32.ofInt 1))] [.int v1, .ref 1] M L Q)
          refine wp_callV 30 1 [.int v1] (i := 27) (by decide +kernel) (by decide +kernel) (by decide +kernel) (by decide +kernel) rfl rfl rfl (rest := []) rfl rfl ?_
          refine s_X5_roomAt M v1  ?_
          show Wp E (d + 3) 37 37 [.ref 1, .int v1, .int v2, .int (v1 + (Int32.ofInt 1))] [.int (f_X5_roomAt M v1)] M L Q
          refine wp_ifne (off := 5) 42 (by decide +kernel) (by decide) (fun c_7 => ?_) (fun c_7 => ?_)
          · have hP := hP.2 c_7
            refine wp_seg (pc' := 47) [.aload 0, .iload 1, .iconst 1, .iadd, .iload 1] (by decide +kernel) (?_ : Wp E (d + 3) 37 47 [.ref 1, .int v1, .int v2, .int (v1 + (Int32.ofInt 1))] [.int v1, .int (v1 + (Int32.ofInt 1)), .ref 1] M L Q)
            refine wp_callV 31 1 [.int (v1 + (Int32.ofInt 1)), .int v1] (i := 34) (by decide +kernel) (by decide +kernel) (by decide +kernel) (by decide +kernel) rfl rfl rfl (rest := []) rfl rfl ?_
            refine s_X5_otherRoomAt M (v1 + (Int32.ofInt 1)) v1  ?_
            show Wp E (d + 3) 37 50 [.ref 1, .int v1, .int v2, .int (v1 + (Int32.ofInt 1))] [.int (f_X5_otherRoomAt M (v1 + (Int32.ofInt 1)) v1)] M L Q
            refine wp_ifne (off := 7) 57 (by decide +kernel) (by decide) (fun c_8 => ?_) (fun c_8 => ?_)
            · have hP := hP.2 c_8
              refine wp_seg (pc' := 63) [.iload 1, .iconst 2, .iadd, .istore 3, .aload 0, .iload 3] (by decide +kernel) (?_ : Wp E (d + 3) 37 63 [.ref 1, .int v1, .int v2, .int (v1 + (Int32.ofInt 2))] [.int (v1 + (Int32.ofInt 2)), .ref 1] M L Q)
              refine wp_callV 32 1 [.int (v1 + (Int32.ofInt 2))] (i := 38) (by decide +kernel) (by decide +kernel) (by decide +kernel) (by decide +kernel) rfl rfl rfl (rest := []) rfl rfl ?_
              refine s_X5_digitAt M (v1 + (Int32.ofInt 2))  ?_
              show Wp E (d + 3) 37 66 [.ref 1, .int v1, .int v2, .int (v1 + (Int32.ofInt 2))] [.int (f_X5_digitAt M (v1 + (Int32.ofInt 2)))] M L Q
              refine wp_ifne (off := 5) 71 (by decide +kernel) (by decide) (fun c_9 => ?_) (fun c_9 => ?_)
              · have hP := hP.2 c_9
                refine wp_seg (pc' := 4) [.iload 3, .iconst 1, .iadd, .istore 1, .iinc 2 1, .goto 0] (by decide +kernel) (?_ : Wp E (d + 3) 37 4 [.ref 1, .int ((v1 + (Int32.ofInt 2)) + (Int32.ofInt 1)), .int (v2 + Int32.ofInt 1), .int (v1 + (Int32.ofInt 2))] [] M L Q)
                refine wp_drop (lo := [.ref 1, .int ((v1 + (Int32.ofInt 2)) + (Int32.ofInt 1)), .int (v2 + Int32.ofInt 1), .null]) ⟨Or.inr rfl, Or.inr rfl, Or.inr rfl, Or.inl rfl, trivial⟩ ?_
                exact ih ((v1 + (Int32.ofInt 2)) + (Int32.ofInt 1)) (v2 + Int32.ofInt 1) M L hP
              · have hP := hP.1 c_9
                refine wp_seg (pc' := 70) [.iload 3] (by decide +kernel) (?_ : Wp E (d + 3) 37 70 [.ref 1, .int v1, .int v2, .int (v1 + (Int32.ofInt 2))] [.int (v1 + (Int32.ofInt 2))] M L Q)
                exact wp_iret (by decide +kernel) rfl (hK _ _ _ hP)
            · have hP := hP.1 c_8
              refine wp_seg (pc' := 56) [.iload 1, .iconst 1, .iadd] (by decide +kernel) (?_ : Wp E (d + 3) 37 56 [.ref 1, .int v1, .int v2, .int (v1 + (Int32.ofInt 1))] [.int (v1 + (Int32.ofInt 1))] M L Q)
              exact wp_iret (by decide +kernel) rfl (hK _ _ _ hP)
          · have hP := hP.1 c_7
            refine wp_seg (pc' := 41) [.iload 1] (by decide +kernel) (?_ : Wp E (d + 3) 37 41 [.ref 1, .int v1, .int v2, .int (v1 + (Int32.ofInt 1))] [.int v1] M L Q)
            exact wp_iret (by decide +kernel) rfl (hK _ _ _ hP)
def P_X5_dayFault (M : Mem) (L : LMem) (K : Int32 → Mem → LMem → Prop) : Prop := PL_X5_dayFault_4 K 100000 (Int32.ofInt 0) (Int32.ofInt 0) M L
theorem t_X5_dayFault {E : VE} {d : Nat} {Q : QQ} {K : Int32 → Mem → LMem → Prop} {M : Mem} {L : LMem} (hP : P_X5_dayFault M L K) (hK : ∀ (v : Int32) (M : Mem) (L : LMem), K v M L → Q (some (.int v)) M L) : Wp E (d + 3) 37 0 [.ref 1, .null, .null, .null] [] M L Q := by
  unfold P_X5_dayFault at hP
  refine wp_seg (pc' := 4) [.iconst 0, .istore 1, .iconst 0, .istore 2] (by decide +kernel) (?_ : Wp E (d + 3) 37 4 [.ref 1, .int (Int32.ofInt 0), .int (Int32.ofInt 0), .null] [] M L Q)
  exact tl_X5_dayFault_4 hK 100000 (Int32.ofInt 0) (Int32.ofInt 0) M L hP

def PL_X2_read_7 (K : Mem → LMem → Prop)  : Nat → Int32 → Mem → LMem → Prop
  | 0, _, _, _ => False
  | n_ + 1, v2, M, L => (((Int32.ofInt 12) ≤ v2 → K M L) ∧ (¬ ((Int32.ofInt 12) ≤ v2) → (((M 1 1) ≤ ((Int32.ofInt 4) * v2) → K M L) ∧ (¬ ((M 1 1) ≤ ((Int32.ofInt 4) * v2)) → (vp_in v2 12 ∧ PL_X2_read_7 K n_ (v2 + Int32.ofInt 1) (mput (mput (mput (mput (mput M 5 v2.toNatClampNeg (f_X5_roomOf M ((Int32.ofInt 4) * v2))) 7 v2.toNatClampNeg (f_X5_signAt (mput M 5 v2.toNatClampNeg (f_X5_roomOf M ((Int32.ofInt 4) * v2))) (((Int32.ofInt 4) * v2) + (Int32.ofInt 1)))) 6 v2.toNatClampNeg (f_X5_roomOf (mput (mput M 5 v2.toNatClampNeg (f_X5_roomOf M ((Int32.ofInt 4) * v2))) 7 v2.toNatClampNeg (f_X5_signAt (mput M 5 v2.toNatClampNeg (f_X5_roomOf M ((Int32.ofInt 4) * v2))) (((Int32.ofInt 4) * v2) + (Int32.ofInt 1)))) (((Int32.ofInt 4) * v2) + (Int32.ofInt 2)))) 8 v2.toNatClampNeg (f_X5_numberOf (mput (mput (mput M 5 v2.toNatClampNeg (f_X5_roomOf M ((Int32.ofInt 4) * v2))) 7 v2.toNatClampNeg (f_X5_signAt (mput M 5 v2.toNatClampNeg (f_X5_roomOf M ((Int32.ofInt 4) * v2))) (((Int32.ofInt 4) * v2) + (Int32.ofInt 1)))) 6 v2.toNatClampNeg (f_X5_roomOf (mput (mput M 5 v2.toNatClampNeg (f_X5_roomOf M ((Int32.ofInt 4) * v2))) 7 v2.toNatClampNeg (f_X5_signAt (mput M 5 v2.toNatClampNeg (f_X5_roomOf M ((Int32.ofInt 4) * v2))) (((Int32.ofInt 4) * v2) + (Int32.ofInt 1)))) (((Int32.ofInt 4) * v2) + (Int32.ofInt 2)))) (((Int32.ofInt 4) * v2) + (Int32.ofInt 3)))) 4 4 ((M 4 4) + (Int32.ofInt 1))) L)))))
theorem tl_X2_read_7 {E : VE} {d : Nat} {Q : QQ} {K : Mem → LMem → Prop}  (hK : ∀ (M : Mem) (L : LMem), K M L → Q none M L)  : ∀ (n_ : Nat) (v2 : Int32) (M : Mem) (L : LMem), PL_X2_read_7 K n_ v2 M L → Wp E (d + 2) 12 7 [.ref 4, .ref 1, .int v2] [] M L Q := by
  intro n_
  induction n_ with
  | zero => intro v2 M L hP; exact False.elim hP
  | succ n_ ih =>
    intro v2 M L hP
    unfold PL_X2_read_7 at hP
    refine wp_seg (pc' := 10) [.iload 2, .iconst 12] (by decide +kernel) (?_ : Wp E (d + 2) 12 10 [.ref 4, .ref 1, .int v2] [.int (Int32.ofInt 12), .int v2] M L Q)
    refine wp_icmpge (off := 87) 97 (by decide +kernel) (by decide) (fun c_1 => ?_) (fun c_1 => ?_)
    · have hP := hP.1 c_1
      exact wp_vret (by decide +kernel) rfl (hK _ _ hP)
    · have hP := hP.2 c_1
      refine wp_seg (pc' := 20) [.iconst 4, .iload 2, .imul, .aload 1, .getfield 321] (by decide +kernel) (?_ : Wp E (d + 2) 12 20 [.ref 4, .ref 1, .int v2] [.int (M 1 1), .int ((Int32.ofInt 4) * v2)] M L Q)
      refine wp_icmpge (off := 77) 97 (by decide +kernel) (by decide) (fun c_2 => ?_) (fun c_2 => ?_)
      · have hP := hP.1 c_2
        exact wp_vret (by decide +kernel) rfl (hK _ _ hP)
      · have hP := hP.2 c_2
        refine wp_seg (pc' := 32) [.aload 0, .getfield 128, .iload 2, .aload 1, .iconst 4, .iload 2, .imul] (by decide +kernel) (?_ : Wp E (d + 2) 12 32 [.ref 4, .ref 1, .int v2] [.int ((Int32.ofInt 4) * v2), .ref 1, .int v2, .ref 5] M L Q)
        refine wp_callV 34 1 [.int ((Int32.ofInt 4) * v2)] (i := 31) (by decide +kernel) (by decide +kernel) (by decide +kernel) (by decide +kernel) rfl rfl rfl (rest := [.int v2, .ref 5]) rfl rfl ?_
        refine s_X5_roomOf M ((Int32.ofInt 4) * v2)  ?_
        show Wp E (d + 2) 12 35 [.ref 4, .ref 1, .int v2] [.int (f_X5_roomOf M ((Int32.ofInt 4) * v2)), .int v2, .ref 5] M L Q
        obtain ⟨a_3, hP⟩ := hP
        refine wp_seg (pc' := 36) [.iastore] (by decide +kernel) (show aok 5 0 v2 ∧ Wp E (d + 2) 12 36 [.ref 4, .ref 1, .int v2] [] (mput M 5 v2.toNatClampNeg (f_X5_roomOf M ((Int32.ofInt 4) * v2))) L Q from ⟨⟨rfl, a_3⟩, ?_⟩)
        refine wp_seg (pc' := 47) [.aload 0, .getfield 130, .iload 2, .aload 1, .iconst 4, .iload 2, .imul, .iconst 1, .iadd] (by decide +kernel) (?_ : Wp E (d + 2) 12 47 [.ref 4, .ref 1, .int v2] [.int (((Int32.ofInt 4) * v2) + (Int32.ofInt 1)), .ref 1, .int v2, .ref 7] (mput M 5 v2.toNatClampNeg (f_X5_roomOf M ((Int32.ofInt 4) * v2))) L Q)
        refine wp_callV 29 1 [.int (((Int32.ofInt 4) * v2) + (Int32.ofInt 1))] (i := 35) (by decide +kernel) (by decide +kernel) (by decide +kernel) (by decide +kernel) rfl rfl rfl (rest := [.int v2, .ref 7]) rfl rfl ?_
        refine s_X5_signAt (mput M 5 v2.toNatClampNeg (f_X5_roomOf M ((Int32.ofInt 4) * v2))) (((Int32.ofInt 4) * v2) + (Int32.ofInt 1))  ?_
        show Wp E (d + 2) 12 50 [.ref 4, .ref 1, .int v2] [.int (f_X5_signAt (mput M 5 v2.toNatClampNeg (f_X5_roomOf M ((Int32.ofInt 4) * v2))) (((Int32.ofInt 4) * v2) + (Int32.ofInt 1))), .int v2, .ref 7] (mput M 5 v2.toNatClampNeg (f_X5_roomOf M ((Int32.ofInt 4) * v2))) L Q
        refine wp_seg (pc' := 51) [.iastore] (by decide +kernel) (show aok 7 0 v2 ∧ Wp E (d + 2) 12 51 [.ref 4, .ref 1, .int v2] [] (mput (mput M 5 v2.toNatClampNeg (f_X5_roomOf M ((Int32.ofInt 4) * v2))) 7 v2.toNatClampNeg (f_X5_signAt (mput M 5 v2.toNatClampNeg (f_X5_roomOf M ((Int32.ofInt 4) * v2))) (((Int32.ofInt 4) * v2) + (Int32.ofInt 1)))) L Q from ⟨⟨rfl, a_3⟩, ?_⟩)
        refine wp_seg (pc' := 62) [.aload 0, .getfield 129, .iload 2, .aload 1, .iconst 4, .iload 2, .imul, .iconst 2, .iadd] (by decide +kernel) (?_ : Wp E (d + 2) 12 62 [.ref 4, .ref 1, .int v2] [.int (((Int32.ofInt 4) * v2) + (Int32.ofInt 2)), .ref 1, .int v2, .ref 6] (mput (mput M 5 v2.toNatClampNeg (f_X5_roomOf M ((Int32.ofInt 4) * v2))) 7 v2.toNatClampNeg (f_X5_signAt (mput M 5 v2.toNatClampNeg (f_X5_roomOf M ((Int32.ofInt 4) * v2))) (((Int32.ofInt 4) * v2) + (Int32.ofInt 1)))) L Q)
        refine wp_callV 34 1 [.int (((Int32.ofInt 4) * v2) + (Int32.ofInt 2))] (i := 31) (by decide +kernel) (by decide +kernel) (by decide +kernel) (by decide +kernel) rfl rfl rfl (rest := [.int v2, .ref 6]) rfl rfl ?_
        refine s_X5_roomOf (mput (mput M 5 v2.toNatClampNeg (f_X5_roomOf M ((Int32.ofInt 4) * v2))) 7 v2.toNatClampNeg (f_X5_signAt (mput M 5 v2.toNatClampNeg (f_X5_roomOf M ((Int32.ofInt 4) * v2))) (((Int32.ofInt 4) * v2) + (Int32.ofInt 1)))) (((Int32.ofInt 4) * v2) + (Int32.ofInt 2))  ?_
        show Wp E (d + 2) 12 65 [.ref 4, .ref 1, .int v2] [.int (f_X5_roomOf (mput (mput M 5 v2.toNatClampNeg (f_X5_roomOf M ((Int32.ofInt 4) * v2))) 7 v2.toNatClampNeg (f_X5_signAt (mput M 5 v2.toNatClampNeg (f_X5_roomOf M ((Int32.ofInt 4) * v2))) (((Int32.ofInt 4) * v2) + (Int32.ofInt 1)))) (((Int32.ofInt 4) * v2) + (Int32.ofInt 2))), .int v2, .ref 6] (mput (mput M 5 v2.toNatClampNeg (f_X5_roomOf M ((Int32.ofInt 4) * v2))) 7 v2.toNatClampNeg (f_X5_signAt (mput M 5 v2.toNatClampNeg (f_X5_roomOf M ((Int32.ofInt 4) * v2))) (((Int32.ofInt 4) * v2) + (Int32.ofInt 1)))) L Q
        refine wp_seg (pc' := 66) [.iastore] (by decide +kernel) (show aok 6 0 v2 ∧ Wp E (d + 2) 12 66 [.ref 4, .ref 1, .int v2] [] (mput (mput (mput M 5 v2.toNatClampNeg (f_X5_roomOf M ((Int32.ofInt 4) * v2))) 7 v2.toNatClampNeg (f_X5_signAt (mput M 5 v2.toNatClampNeg (f_X5_roomOf M ((Int32.ofInt 4) * v2))) (((Int32.ofInt 4) * v2) + (Int32.ofInt 1)))) 6 v2.toNatClampNeg (f_X5_roomOf (mput (mput M 5 v2.toNatClampNeg (f_X5_roomOf M ((Int32.ofInt 4) * v2))) 7 v2.toNatClampNeg (f_X5_signAt (mput M 5 v2.toNatClampNeg (f_X5_roomOf M ((Int32.ofInt 4) * v2))) (((Int32.ofInt 4) * v2) + (Int32.ofInt 1)))) (((Int32.ofInt 4) * v2) + (Int32.ofInt 2)))) L Q from ⟨⟨rfl, a_3⟩, ?_⟩)
        refine wp_seg (pc' := 77) [.aload 0, .getfield 131, .iload 2, .aload 1, .iconst 4, .iload 2, .imul, .iconst 3, .iadd] (by decide +kernel) (?_ : Wp E (d + 2) 12 77 [.ref 4, .ref 1, .int v2] [.int (((Int32.ofInt 4) * v2) + (Int32.ofInt 3)), .ref 1, .int v2, .ref 8] (mput (mput (mput M 5 v2.toNatClampNeg (f_X5_roomOf M ((Int32.ofInt 4) * v2))) 7 v2.toNatClampNeg (f_X5_signAt (mput M 5 v2.toNatClampNeg (f_X5_roomOf M ((Int32.ofInt 4) * v2))) (((Int32.ofInt 4) * v2) + (Int32.ofInt 1)))) 6 v2.toNatClampNeg (f_X5_roomOf (mput (mput M 5 v2.toNatClampNeg (f_X5_roomOf M ((Int32.ofInt 4) * v2))) 7 v2.toNatClampNeg (f_X5_signAt (mput M 5 v2.toNatClampNeg (f_X5_roomOf M ((Int32.ofInt 4) * v2))) (((Int32.ofInt 4) * v2) + (Int32.ofInt 1)))) (((Int32.ofInt 4) * v2) + (Int32.ofInt 2)))) L Q)
        refine wp_callV 35 1 [.int (((Int32.ofInt 4) * v2) + (Int32.ofInt 3))] (i := 38) (by decide +kernel) (by decide +kernel) (by decide +kernel) (by decide +kernel) rfl rfl rfl (rest := [.int v2, .ref 8]) rfl rfl ?_
        refine s_X5_numberOf (mput (mput (mput M 5 v2.toNatClampNeg (f_X5_roomOf M ((Int32.ofInt 4) * v2))) 7 v2.toNatClampNeg (f_X5_signAt (mput M 5 v2.toNatClampNeg (f_X5_roomOf M ((Int32.ofInt 4) * v2))) (((Int32.ofInt 4) * v2) + (Int32.ofInt 1)))) 6 v2.toNatClampNeg (f_X5_roomOf (mput (mput M 5 v2.toNatClampNeg (f_X5_roomOf M ((Int32.ofInt 4) * v2))) 7 v2.toNatClampNeg (f_X5_signAt (mput M 5 v2.toNatClampNeg (f_X5_roomOf M ((Int32.ofInt 4) * v2))) (((Int32.ofInt 4) * v2) + (Int32.ofInt 1)))) (((Int32.ofInt 4) * v2) + (Int32.ofInt 2)))) (((Int32.ofInt 4) * v2) + (Int32.ofInt 3))  ?_
        show Wp E (d + 2) 12 80 [.ref 4, .ref 1, .int v2] [.int (f_X5_numberOf (mput (mput (mput M 5 v2.toNatClampNeg (f_X5_roomOf M ((Int32.ofInt 4) * v2))) 7 v2.toNatClampNeg (f_X5_signAt (mput M 5 v2.toNatClampNeg (f_X5_roomOf M ((Int32.ofInt 4) * v2))) (((Int32.ofInt 4) * v2) + (Int32.ofInt 1)))) 6 v2.toNatClampNeg (f_X5_roomOf (mput (mput M 5 v2.toNatClampNeg (f_X5_roomOf M ((Int32.ofInt 4) * v2))) 7 v2.toNatClampNeg (f_X5_signAt (mput M 5 v2.toNatClampNeg (f_X5_roomOf M ((Int32.ofInt 4) * v2))) (((Int32.ofInt 4) * v2) + (Int32.ofInt 1)))) (((Int32.ofInt 4) * v2) + (Int32.ofInt 2)))) (((Int32.ofInt 4) * v2) + (Int32.ofInt 3))), .int v2, .ref 8] (mput (mput (mput M 5 v2.toNatClampNeg (f_X5_roomOf M ((Int32.ofInt 4) * v2))) 7 v2.toNatClampNeg (f_X5_signAt (mput M 5 v2.toNatClampNeg (f_X5_roomOf M ((Int32.ofInt 4) * v2))) (((Int32.ofInt 4) * v2) + (Int32.ofInt 1)))) 6 v2.toNatClampNeg (f_X5_roomOf (mput (mput M 5 v2.toNatClampNeg (f_X5_roomOf M ((Int32.ofInt 4) * v2))) 7 v2.toNatClampNeg (f_X5_signAt (mput M 5 v2.toNatClampNeg (f_X5_roomOf M ((Int32.ofInt 4) * v2))) (((Int32.ofInt 4) * v2) + (Int32.ofInt 1)))) (((Int32.ofInt 4) * v2) + (Int32.ofInt 2)))) L Q
        refine wp_seg (pc' := 81) [.iastore] (by decide +kernel) (show aok 8 0 v2 ∧ Wp E (d + 2) 12 81 [.ref 4, .ref 1, .int v2] [] (mput (mput (mput (mput M 5 v2.toNatClampNeg (f_X5_roomOf M ((Int32.ofInt 4) * v2))) 7 v2.toNatClampNeg (f_X5_signAt (mput M 5 v2.toNatClampNeg (f_X5_roomOf M ((Int32.ofInt 4) * v2))) (((Int32.ofInt 4) * v2) + (Int32.ofInt 1)))) 6 v2.toNatClampNeg (f_X5_roomOf (mput (mput M 5 v2.toNatClampNeg (f_X5_roomOf M ((Int32.ofInt 4) * v2))) 7 v2.toNatClampNeg (f_X5_signAt (mput M 5 v2.toNatClampNeg (f_X5_roomOf M ((Int32.ofInt 4) * v2))) (((Int32.ofInt 4) * v2) + (Int32.ofInt 1)))) (((Int32.ofInt 4) * v2) + (Int32.ofInt 2)))) 8 v2.toNatClampNeg (f_X5_numberOf (mput (mput (mput M 5 v2.toNatClampNeg (f_X5_roomOf M ((Int32.ofInt 4) * v2))) 7 v2.toNatClampNeg (f_X5_signAt (mput M 5 v2.toNatClampNeg (f_X5_roomOf M ((Int32.ofInt 4) * v2))) (((Int32.ofInt 4) * v2) + (Int32.ofInt 1)))) 6 v2.toNatClampNeg (f_X5_roomOf (mput (mput M 5 v2.toNatClampNeg (f_X5_roomOf M ((Int32.ofInt 4) * v2))) 7 v2.toNatClampNeg (f_X5_signAt (mput M 5 v2.toNatClampNeg (f_X5_roomOf M ((Int32.ofInt 4) * v2))) (((Int32.ofInt 4) * v2) + (Int32.ofInt 1)))) (((Int32.ofInt 4) * v2) + (Int32.ofInt 2)))) (((Int32.ofInt 4) * v2) + (Int32.ofInt 3)))) L Q from ⟨⟨rfl, a_3⟩, ?_⟩)
        refine wp_seg (pc' := 7) [.aload 0, .dup, .getfield 132, .iconst 1, .iadd, .putfield 132, .iinc 2 1, .goto 0] (by decide +kernel) (?_ : Wp E (d + 2) 12 7 [.ref 4, .ref 1, .int (v2 + Int32.ofInt 1)] [] (mput (mput (mput (mput (mput M 5 v2.toNatClampNeg (f_X5_roomOf M ((Int32.ofInt 4) * v2))) 7 v2.toNatClampNeg (f_X5_signAt (mput M 5 v2.toNatClampNeg (f_X5_roomOf M ((Int32.ofInt 4) * v2))) (((Int32.ofInt 4) * v2) + (Int32.ofInt 1)))) 6 v2.toNatClampNeg (f_X5_roomOf (mput (mput M 5 v2.toNatClampNeg (f_X5_roomOf M ((Int32.ofInt 4) * v2))) 7 v2.toNatClampNeg (f_X5_signAt (mput M 5 v2.toNatClampNeg (f_X5_roomOf M ((Int32.ofInt 4) * v2))) (((Int32.ofInt 4) * v2) + (Int32.ofInt 1)))) (((Int32.ofInt 4) * v2) + (Int32.ofInt 2)))) 8 v2.toNatClampNeg (f_X5_numberOf (mput (mput (mput M 5 v2.toNatClampNeg (f_X5_roomOf M ((Int32.ofInt 4) * v2))) 7 v2.toNatClampNeg (f_X5_signAt (mput M 5 v2.toNatClampNeg (f_X5_roomOf M ((Int32.ofInt 4) * v2))) (((Int32.ofInt 4) * v2) + (Int32.ofInt 1)))) 6 v2.toNatClampNeg (f_X5_roomOf (mput (mput M 5 v2.toNatClampNeg (f_X5_roomOf M ((Int32.ofInt 4) * v2))) 7 v2.toNatClampNeg (f_X5_signAt (mput M 5 v2.toNatClampNeg (f_X5_roomOf M ((Int32.ofInt 4) * v2))) (((Int32.ofInt 4) * v2) + (Int32.ofInt 1)))) (((Int32.ofInt 4) * v2) + (Int32.ofInt 2)))) (((Int32.ofInt 4) * v2) + (Int32.ofInt 3)))) 4 4 ((M 4 4) + (Int32.ofInt 1))) L Q)
        exact ih (v2 + Int32.ofInt 1) (mput (mput (mput (mput (mput M 5 v2.toNatClampNeg (f_X5_roomOf M ((Int32.ofInt 4) * v2))) 7 v2.toNatClampNeg (f_X5_signAt (mput M 5 v2.toNatClampNeg (f_X5_roomOf M ((Int32.ofInt 4) * v2))) (((Int32.ofInt 4) * v2) + (Int32.ofInt 1)))) 6 v2.toNatClampNeg (f_X5_roomOf (mput (mput M 5 v2.toNatClampNeg (f_X5_roomOf M ((Int32.ofInt 4) * v2))) 7 v2.toNatClampNeg (f_X5_signAt (mput M 5 v2.toNatClampNeg (f_X5_roomOf M ((Int32.ofInt 4) * v2))) (((Int32.ofInt 4) * v2) + (Int32.ofInt 1)))) (((Int32.ofInt 4) * v2) + (Int32.ofInt 2)))) 8 v2.toNatClampNeg (f_X5_numberOf (mput (mput (mput M 5 v2.toNatClampNeg (f_X5_roomOf M ((Int32.ofInt 4) * v2))) 7 v2.toNatClampNeg (f_X5_signAt (mput M 5 v2.toNatClampNeg (f_X5_roomOf M ((Int32.ofInt 4) * v2))) (((Int32.ofInt 4) * v2) + (Int32.ofInt 1)))) 6 v2.toNatClampNeg (f_X5_roomOf (mput (mput M 5 v2.toNatClampNeg (f_X5_roomOf M ((Int32.ofInt 4) * v2))) 7 v2.toNatClampNeg (f_X5_signAt (mput M 5 v2.toNatClampNeg (f_X5_roomOf M ((Int32.ofInt 4) * v2))) (((Int32.ofInt 4) * v2) + (Int32.ofInt 1)))) (((Int32.ofInt 4) * v2) + (Int32.ofInt 2)))) (((Int32.ofInt 4) * v2) + (Int32.ofInt 3)))) 4 4 ((M 4 4) + (Int32.ofInt 1))) L hP
def P_X2_read (M : Mem) (L : LMem) (K : Mem → LMem → Prop) : Prop := PL_X2_read_7 K 100000 (Int32.ofInt 0) (mput M 4 4 (Int32.ofInt 0)) L
theorem t_X2_read {E : VE} {d : Nat} {Q : QQ} {K : Mem → LMem → Prop} {M : Mem} {L : LMem} (hP : P_X2_read M L K) (hK : ∀ (M : Mem) (L : LMem), K M L → Q none M L) : Wp E (d + 2) 12 0 [.ref 4, .ref 1, .null] [] M L Q := by
  unfold P_X2_read at hP
  refine wp_seg (pc' := 7) [.aload 0, .iconst 0, .putfield 132, .iconst 0, .istore 2] (by decide +kernel) (?_ : Wp E (d + 2) 12 7 [.ref 4, .ref 1, .int (Int32.ofInt 0)] [] (mput M 4 4 (Int32.ofInt 0)) L Q)
  exact tl_X2_read_7 hK 100000 (Int32.ofInt 0) (mput M 4 4 (Int32.ofInt 0)) L hP

def P_X3_beginTries (M : Mem) (L : LMem) (K : Mem → LMem → Prop) : Prop := P_X2_ofKind (Int32.ofInt 120) (mput M 3 9 (Int32.ofInt 0)) L (fun v_3 M_1 L_2 => K (mput M_1 3 10 (((((Int32.ofInt 1) <<< ((M 4 4) &&& 31)) - (Int32.ofInt 1)) &&& (v_3 ^^^ (Int32.ofInt (-1)))) ||| (Int32.ofInt 4096))) L_2)
theorem t_X3_beginTries {E : VE} {d : Nat} {Q : QQ} {K : Mem → LMem → Prop} {M : Mem} {L : LMem} (hP : P_X3_beginTries M L K) (hK : ∀ (M : Mem) (L : LMem), K M L → Q none M L) : Wp E (d + 1) 15 0 [.ref 3] [] M L Q := by
  unfold P_X3_beginTries at hP
  refine wp_seg (pc' := 23) [.aload 0, .iconst 0, .putfield 201, .aload 0, .iconst 1, .aload 0, .getfield 192, .getfield 132, .ishl, .iconst 1, .isub, .aload 0, .getfield 192, .iconst 120] (by decide +kernel) (?_ : Wp E (d + 1) 15 23 [.ref 3] [.int (Int32.ofInt 120), .ref 4, .int (((Int32.ofInt 1) <<< ((M 4 4) &&& 31)) - (Int32.ofInt 1)), .ref 3] (mput M 3 9 (Int32.ofInt 0)) L Q)
  refine wp_callV 14 4 [.int (Int32.ofInt 120)] (i := 63) (by decide +kernel) (by decide +kernel) (by decide +kernel) (by decide +kernel) rfl rfl rfl (rest := [.int (((Int32.ofInt 1) <<< ((M 4 4) &&& 31)) - (Int32.ofInt 1)), .ref 3]) rfl rfl ?_
  refine t_X2_ofKind hP (fun v_3 M_1 L_2 hP => ?_)
  show Wp E (d + 1) 15 26 [.ref 3] [.int v_3, .int (((Int32.ofInt 1) <<< ((M 4 4) &&& 31)) - (Int32.ofInt 1)), .ref 3] M_1 L_2 Q
  refine wp_seg (pc' := 36) [.iconst (-1), .ixor, .iand, .iconst 4096, .ior, .putfield 202] (by decide +kernel) (?_ : Wp E (d + 1) 15 36 [.ref 3] [] (mput M_1 3 10 (((((Int32.ofInt 1) <<< ((M 4 4) &&& 31)) - (Int32.ofInt 1)) &&& (v_3 ^^^ (Int32.ofInt (-1)))) ||| (Int32.ofInt 4096))) L_2 Q)
  exact wp_vret (by decide +kernel) rfl (hK _ _ hP)

def PL_X6_aim_59 (K : Mem → LMem → Prop) (C_41 : Int32 → Int32 → Int32 → Int32 → Mem → LMem → Prop) : Nat → Int32 → Int32 → Int32 → Int32 → Int32 → Mem → LMem → Prop
  | 0, _, _, _, _, _, _, _ => False
  | n_ + 1, v2, v3, v4, v5, v6, M, L => (((M 4 4) ≤ v6 → C_41 v2 v3 v4 (v5 + Int32.ofInt 1) M L) ∧ (¬ ((M 4 4) ≤ v6) → ((((v3 >>> (v6 &&& 31)) &&& (Int32.ofInt 1)) = 0 → ((vp_in v6 12) ∧ (((vp_in v6 12)) ∧ ((¬ ((M 7 v6.toNatClampNeg) = (Int32.ofInt 120)) → vp_in (M 6 v6.toNatClampNeg) 8) ∧ ((¬ ((M 7 v6.toNatClampNeg) = (Int32.ofInt 120)) → vp_in (M 5 v6.toNatClampNeg) 8) ∧ (((f_X6_bringsNearer M v6) = 0 → PL_X6_aim_59 K C_41 n_ v2 v3 v4 v5 (v6 + Int32.ofInt 1) (g_X6_bringsNearer M v6) L) ∧ (¬ ((f_X6_bringsNearer M v6) = 0) → PL_X6_aim_59 K C_41 n_ v2 v3 (Int32.ofInt 1) v5 (v6 + Int32.ofInt 1) (g_X6_bringsNearer M v6) L))))))) ∧ (¬ (((v3 >>> (v6 &&& 31)) &&& (Int32.ofInt 1)) = 0) → PL_X6_aim_59 K C_41 n_ v2 v3 v4 v5 (v6 + Int32.ofInt 1) M L))))
theorem tl_X6_aim_59 {E : VE} {d : Nat} {Q : QQ} {K : Mem → LMem → Prop} {C_41 : Int32 → Int32 → Int32 → Int32 → Mem → LMem → Prop} (hK : ∀ (M : Mem) (L : LMem), K M L → Q none M L) (hC_41 : ∀ (v2 : Int32) (v3 : Int32) (v4 : Int32) (v5 : Int32) (M : Mem) (L : LMem), C_41 v2 v3 v4 v5 M L → Wp E (d + 2) 39 41 [.ref 37, .ref 4, .int v2, .int v3, .int v4, .int v5, .null] [] M L Q) : ∀ (n_ : Nat) (v2 : Int32) (v3 : Int32) (v4 : Int32) (v5 : Int32) (v6 : Int32) (M : Mem) (L : LMem), PL_X6_aim_59 K C_41 n_ v2 v3 v4 v5 v6 M L → Wp E (d + 2) 39 59 [.ref 37, .ref 4, .int v2, .int v3, .int v4, .int v5, .int v6] [] M L Q := by
  intro n_
  induction n_ with
  | zero => intro v2 v3 v4 v5 v6 M L hP; exact False.elim hP
  | succ n_ ih =>
    intro v2 v3 v4 v5 v6 M L hP
    unfold PL_X6_aim_59 at hP
    refine wp_seg (pc' := 65) [.iload 6, .aload 1, .getfield 132] (by decide +kernel) (?_ : Wp E (d + 2) 39 65 [.ref 37, .ref 4, .int v2, .int v3, .int v4, .int v5, .int v6] [.int (M 4 4), .int v6] M L Q)
    refine wp_icmpge (off := 31) 96 (by decide +kernel) (by decide) (fun c_4 => ?_) (fun c_4 => ?_)
    · have hP := hP.1 c_4
      refine wp_seg (pc' := 41) [.iinc 5 1, .goto 0] (by decide +kernel) (?_ : Wp E (d + 2) 39 41 [.ref 37, .ref 4, .int v2, .int v3, .int v4, .int (v5 + Int32.ofInt 1), .int v6] [] M L Q)
      refine wp_drop (lo := [.ref 37, .ref 4, .int v2, .int v3, .int v4, .int (v5 + Int32.ofInt 1), .null]) ⟨Or.inr rfl, Or.inr rfl, Or.inr rfl, Or.inr rfl, Or.inr rfl, Or.inr rfl, Or.inl rfl, trivial⟩ ?_
      exact hC_41 v2 v3 v4 (v5 + Int32.ofInt 1) M L hP
    · have hP := hP.2 c_4
      refine wp_seg (pc' := 74) [.iload 3, .iload 6, .ishr, .iconst 1, .iand] (by decide +kernel) (?_ : Wp E (d + 2) 39 74 [.ref 37, .ref 4, .int v2, .int v3, .int v4, .int v5, .int v6] [.int ((v3 >>> (v6 &&& 31)) &&& (Int32.ofInt 1))] M L Q)
      refine wp_ifne (off := 16) 90 (by decide +kernel) (by decide) (fun c_5 => ?_) (fun c_5 => ?_)
      · have hP := hP.2 c_5
        refine wp_seg (pc' := 59) [.iinc 6 1, .goto 0] (by decide +kernel) (?_ : Wp E (d + 2) 39 59 [.ref 37, .ref 4, .int v2, .int v3, .int v4, .int v5, .int (v6 + Int32.ofInt 1)] [] M L Q)
        exact ih v2 v3 v4 v5 (v6 + Int32.ofInt 1) M L hP
      · have hP := hP.1 c_5
        refine wp_seg (pc' := 81) [.aload 0, .aload 1, .iload 6] (by decide +kernel) (?_ : Wp E (d + 2) 39 81 [.ref 37, .ref 4, .int v2, .int v3, .int v4, .int v5, .int v6] [.int v6, .ref 4, .ref 37] M L Q)
        refine wp_callV 40 37 [.ref 4, .int v6] (i := 42) (by decide +kernel) (by decide +kernel) (by decide +kernel) (by decide +kernel) rfl rfl rfl (rest := []) rfl rfl ?_
        obtain ⟨a_6, hP⟩ := hP
        obtain ⟨a_7, hP⟩ := hP
        obtain ⟨a_8, hP⟩ := hP
        obtain ⟨a_9, hP⟩ := hP
        refine s_X6_bringsNearer M v6 a_6 a_7 a_8 a_9 ?_
        show Wp E (d + 2) 39 84 [.ref 37, .ref 4, .int v2, .int v3, .int v4, .int v5, .int v6] [.int (f_X6_bringsNearer M v6)] (g_X6_bringsNearer M v6) L Q
        refine wp_ifeq (off := 6) 90 (by decide +kernel) (by decide) (fun c_10 => ?_) (fun c_10 => ?_)
        · have hP := hP.1 c_10
          refine wp_seg (pc' := 59) [.iinc 6 1, .goto 0] (by decide +kernel) (?_ : Wp E (d + 2) 39 59 [.ref 37, .ref 4, .int v2, .int v3, .int v4, .int v5, .int (v6 + Int32.ofInt 1)] [] (g_X6_bringsNearer M v6) L Q)
          exact ih v2 v3 v4 v5 (v6 + Int32.ofInt 1) (g_X6_bringsNearer M v6) L hP
        · have hP := hP.2 c_10
          refine wp_seg (pc' := 59) [.iconst 1, .istore 4, .iinc 6 1, .goto 0] (by decide +kernel) (?_ : Wp E (d + 2) 39 59 [.ref 37, .ref 4, .int v2, .int v3, .int (Int32.ofInt 1), .int v5, .int (v6 + Int32.ofInt 1)] [] (g_X6_bringsNearer M v6) L Q)
          exact ih v2 v3 (Int32.ofInt 1) v5 (v6 + Int32.ofInt 1) (g_X6_bringsNearer M v6) L hP
def PL_X6_aim_41 (K : Mem → LMem → Prop)  : Nat → Int32 → Int32 → Int32 → Int32 → Mem → LMem → Prop
  | 0, _, _, _, _, _, _ => False
  | n_ + 1, v2, v3, v4, v5, M, L => (((Int32.ofInt 8) ≤ v5 → K M L) ∧ (¬ ((Int32.ofInt 8) ≤ v5) → ((v4 = 0 → K M L) ∧ (¬ (v4 = 0) → PL_X6_aim_59 K (PL_X6_aim_41 K n_) 100000 v2 v3 (Int32.ofInt 0) v5 (Int32.ofInt 0) M L))))
theorem tl_X6_aim_41 {E : VE} {d : Nat} {Q : QQ} {K : Mem → LMem → Prop}  (hK : ∀ (M : Mem) (L : LMem), K M L → Q none M L)  : ∀ (n_ : Nat) (v2 : Int32) (v3 : Int32) (v4 : Int32) (v5 : Int32) (M : Mem) (L : LMem), PL_X6_aim_41 K n_ v2 v3 v4 v5 M L → Wp E (d + 2) 39 41 [.ref 37, .ref 4, .int v2, .int v3, .int v4, .int v5, .null] [] M L Q := by
  intro n_
  induction n_ with
  | zero => intro v2 v3 v4 v5 M L hP; exact False.elim hP
  | succ n_ ih =>
    intro v2 v3 v4 v5 M L hP
    unfold PL_X6_aim_41 at hP
    refine wp_seg (pc' := 45) [.iload 5, .iconst 8] (by decide +kernel) (?_ : Wp E (d + 2) 39 45 [.ref 37, .ref 4, .int v2, .int v3, .int v4, .int v5, .null] [.int (Int32.ofInt 8), .int v5] M L Q)
    refine wp_icmpge (off := 57) 102 (by decide +kernel) (by decide) (fun c_2 => ?_) (fun c_2 => ?_)
    · have hP := hP.1 c_2
      exact wp_vret (by decide +kernel) rfl (hK _ _ hP)
    · have hP := hP.2 c_2
      refine wp_seg (pc' := 50) [.iload 4] (by decide +kernel) (?_ : Wp E (d + 2) 39 50 [.ref 37, .ref 4, .int v2, .int v3, .int v4, .int v5, .null] [.int v4] M L Q)
      refine wp_ifeq (off := 52) 102 (by decide +kernel) (by decide) (fun c_3 => ?_) (fun c_3 => ?_)
      · have hP := hP.1 c_3
        exact wp_vret (by decide +kernel) rfl (hK _ _ hP)
      · have hP := hP.2 c_3
        refine wp_seg (pc' := 59) [.iconst 0, .istore 4, .iconst 0, .istore 6] (by decide +kernel) (?_ : Wp E (d + 2) 39 59 [.ref 37, .ref 4, .int v2, .int v3, .int (Int32.ofInt 0), .int v5, .int (Int32.ofInt 0)] [] M L Q)
        exact tl_X6_aim_59 hK (fun v2 v3 v4 v5 M L hP => ih v2 v3 v4 v5 M L hP) 100000 v2 v3 (Int32.ofInt 0) v5 (Int32.ofInt 0) M L hP
def PL_X6_aim_3 (K : Mem → LMem → Prop)  : Nat → Int32 → Int32 → Int32 → Mem → LMem → Prop
  | 0, _, _, _, _, _ => False
  | n_ + 1, v2, v3, v4, M, L => (((Int32.ofInt 8) ≤ v4 → PL_X6_aim_41 K 100000 v2 v3 (Int32.ofInt 1) (Int32.ofInt 0) M L) ∧ (¬ ((Int32.ofInt 8) ≤ v4) → ((v4 = v2 → (vp_in v4 8 ∧ PL_X6_aim_3 K n_ v2 v3 (v4 + Int32.ofInt 1) (mput M 38 v4.toNatClampNeg (Int32.ofInt 0)) L)) ∧ (¬ (v4 = v2) → (vp_in v4 8 ∧ PL_X6_aim_3 K n_ v2 v3 (v4 + Int32.ofInt 1) (mput M 38 v4.toNatClampNeg (Int32.ofInt 1048576)) L)))))
theorem tl_X6_aim_3 {E : VE} {d : Nat} {Q : QQ} {K : Mem → LMem → Prop}  (hK : ∀ (M : Mem) (L : LMem), K M L → Q none M L)  : ∀ (n_ : Nat) (v2 : Int32) (v3 : Int32) (v4 : Int32) (M : Mem) (L : LMem), PL_X6_aim_3 K n_ v2 v3 v4 M L → Wp E (d + 2) 39 3 [.ref 37, .ref 4, .int v2, .int v3, .int v4, .null, .null] [] M L Q := by
  intro n_
  induction n_ with
  | zero => intro v2 v3 v4 M L hP; exact False.elim hP
  | succ n_ ih =>
    intro v2 v3 v4 M L hP
    unfold PL_X6_aim_3 at hP
    refine wp_seg (pc' := 7) [.iload 4, .iconst 8] (by decide +kernel) (?_ : Wp E (d + 2) 39 7 [.ref 37, .ref 4, .int v2, .int v3, .int v4, .null, .null] [.int (Int32.ofInt 8), .int v4] M L Q)
    refine wp_icmpge (off := 28) 35 (by decide +kernel) (by decide) (fun c_1 => ?_) (fun c_1 => ?_)
    · have hP := hP.1 c_1
      refine wp_seg (pc' := 41) [.iconst 1, .istore 4, .iconst 0, .istore 5] (by decide +kernel) (?_ : Wp E (d + 2) 39 41 [.ref 37, .ref 4, .int v2, .int v3, .int (Int32.ofInt 1), .int (Int32.ofInt 0), .null] [] M L Q)
      exact tl_X6_aim_41 hK 100000 v2 v3 (Int32.ofInt 1) (Int32.ofInt 0) M L hP
    · have hP := hP.2 c_1
      refine wp_seg (pc' := 19) [.aload 0, .getfield 384, .iload 4, .iload 4, .iload 2] (by decide +kernel) (?_ : Wp E (d + 2) 39 19 [.ref 37, .ref 4, .int v2, .int v3, .int v4, .null, .null] [.int v2, .int v4, .int v4, .ref 38] M L Q)
      refine wp_icmpne (off := 7) 26 (by decide +kernel) (by decide) (fun c_11 => ?_) (fun c_11 => ?_)
      · have hP := hP.2 c_11
        obtain ⟨a_12, hP⟩ := hP
        refine wp_seg (pc' := 29) [.iconst 1048576, .iastore] (by decide +kernel) (show aok 38 0 v4 ∧ Wp E (d + 2) 39 29 [.ref 37, .ref 4, .int v2, .int v3, .int v4, .null, .null] [] (mput M 38 v4.toNatClampNeg (Int32.ofInt 1048576)) L Q from ⟨⟨rfl, a_12⟩, ?_⟩)
        refine wp_seg (pc' := 3) [.iinc 4 1, .goto 0] (by decide +kernel) (?_ : Wp E (d + 2) 39 3 [.ref 37, .ref 4, .int v2, .int v3, .int (v4 + Int32.ofInt 1), .null, .null] [] (mput M 38 v4.toNatClampNeg (Int32.ofInt 1048576)) L Q)
        exact ih v2 v3 (v4 + Int32.ofInt 1) (mput M 38 v4.toNatClampNeg (Int32.ofInt 1048576)) L hP
      · have hP := hP.1 c_11
        obtain ⟨a_13, hP⟩ := hP
        refine wp_seg (pc' := 29) [.iconst 0, .goto 0, .iastore] (by decide +kernel) (show aok 38 0 v4 ∧ Wp E (d + 2) 39 29 [.ref 37, .ref 4, .int v2, .int v3, .int v4, .null, .null] [] (mput M 38 v4.toNatClampNeg (Int32.ofInt 0)) L Q from ⟨⟨rfl, a_13⟩, ?_⟩)
        refine wp_seg (pc' := 3) [.iinc 4 1, .goto 0] (by decide +kernel) (?_ : Wp E (d + 2) 39 3 [.ref 37, .ref 4, .int v2, .int v3, .int (v4 + Int32.ofInt 1), .null, .null] [] (mput M 38 v4.toNatClampNeg (Int32.ofInt 0)) L Q)
        exact ih v2 v3 (v4 + Int32.ofInt 1) (mput M 38 v4.toNatClampNeg (Int32.ofInt 0)) L hP
def P_X6_aim (x2 : Int32) (x3 : Int32) (M : Mem) (L : LMem) (K : Mem → LMem → Prop) : Prop := PL_X6_aim_3 K 100000 x2 x3 (Int32.ofInt 0) M L
theorem t_X6_aim {E : VE} {d : Nat} {Q : QQ} {K : Mem → LMem → Prop} {x2 : Int32} {x3 : Int32} {M : Mem} {L : LMem} (hP : P_X6_aim x2 x3 M L K) (hK : ∀ (M : Mem) (L : LMem), K M L → Q none M L) : Wp E (d + 2) 39 0 [.ref 37, .ref 4, .int x2, .int x3, .null, .null, .null] [] M L Q := by
  unfold P_X6_aim at hP
  refine wp_seg (pc' := 3) [.iconst 0, .istore 4] (by decide +kernel) (?_ : Wp E (d + 2) 39 3 [.ref 37, .ref 4, .int x2, .int x3, .int (Int32.ofInt 0), .null, .null] [] M L Q)
  exact tl_X6_aim_3 hK 100000 x2 x3 (Int32.ofInt 0) M L hP

def PL_X6_nextTube_3 (K : Int32 → Mem → LMem → Prop)  : Nat → Int32 → Int32 → Int32 → Mem → LMem → Prop
  | 0, _, _, _, _, _ => False
  | n_ + 1, v2, v3, v4, M, L => (((M 4 4) ≤ v4 → K (Int32.ofInt (-6)) M L) ∧ (¬ ((M 4 4) ≤ v4) → ((vp_in v4 12) ∧ ((((v3 >>> (v4 &&& 31)) &&& (Int32.ofInt 1)) = 0 → (((f_X2_beyond M v4 v2) = (Int32.ofInt (-6)) → PL_X6_nextTube_3 K n_ v2 v3 (v4 + Int32.ofInt 1) M L) ∧ (¬ ((f_X2_beyond M v4 v2) = (Int32.ofInt (-6))) → (vp_in (f_X2_beyond M v4 v2) 8 ∧ (vp_in v2 8 ∧ ((((M 38 ((f_X2_beyond M v4 v2).toNatClampNeg)) + (f_X6_stepOf M v4)) = (M 38 v2.toNatClampNeg) → K v4 M L) ∧ (¬ (((M 38 ((f_X2_beyond M v4 v2).toNatClampNeg)) + (f_X6_stepOf M v4)) = (M 38 v2.toNatClampNeg)) → PL_X6_nextTube_3 K n_ v2 v3 (v4 + Int32.ofInt 1) M L))))))) ∧ (¬ (((v3 >>> (v4 &&& 31)) &&& (Int32.ofInt 1)) = 0) → PL_X6_nextTube_3 K n_ v2 v3 (v4 + Int32.ofInt 1) M L)))))
theorem tl_X6_nextTube_3 {E : VE} {d : Nat} {Q : QQ} {K : Int32 → Mem → LMem → Prop}  (hK : ∀ (v : Int32) (M : Mem) (L : LMem), K v M L → Q (some (.int v)) M L)  : ∀ (n_ : Nat) (v2 : Int32) (v3 : Int32) (v4 : Int32) (M : Mem) (L : LMem), PL_X6_nextTube_3 K n_ v2 v3 v4 M L → Wp E (d + 1) 43 3 [.ref 37, .ref 4, .int v2, .int v3, .int v4, .null] [] M L Q := by
  intro n_
  induction n_ with
  | zero => intro v2 v3 v4 M L hP; exact False.elim hP
  | succ n_ ih =>
    intro v2 v3 v4 M L hP
    unfold PL_X6_nextTube_3 at hP
    refine wp_seg (pc' := 9) [.iload 4, .aload 1, .getfield 132] (by decide +kernel) (?_ : Wp E (d + 1) 43 9 [.ref 37, .ref 4, .int v2, .int v3, .int v4, .null] [.int (M 4 4), .int v4] M L Q)
    refine wp_icmpge (off := 60) 69 (by decide +kernel) (by decide) (fun c_1 => ?_) (fun c_1 => ?_)
    · have hP := hP.1 c_1
      refine wp_seg (pc' := 71) [.iconst (-6)] (by decide +kernel) (?_ : Wp E (d + 1) 43 71 [.ref 37, .ref 4, .int v2, .int v3, .int v4, .null] [.int (Int32.ofInt (-6))] M L Q)
      exact wp_iret (by decide +kernel) rfl (hK _ _ _ hP)
    · have hP := hP.2 c_1
      refine wp_seg (pc' := 16) [.aload 1, .iload 4, .iload 2] (by decide +kernel) (?_ : Wp E (d + 1) 43 16 [.ref 37, .ref 4, .int v2, .int v3, .int v4, .null] [.int v2, .int v4, .ref 4] M L Q)
      refine wp_callV 13 4 [.int v4, .int v2] (i := 75) (by decide +kernel) (by decide +kernel) (by decide +kernel) (by decide +kernel) rfl rfl rfl (rest := []) rfl rfl ?_
      obtain ⟨a_2, hP⟩ := hP
      refine s_X2_beyond M v4 v2 a_2 ?_
      show Wp E (d + 1) 43 19 [.ref 37, .ref 4, .int v2, .int v3, .int v4, .null] [.int (f_X2_beyond M v4 v2)] M L Q
      refine wp_seg (pc' := 27) [.istore 5, .iload 3, .iload 4, .ishr, .iconst 1, .iand] (by decide +kernel) (?_ : Wp E (d + 1) 43 27 [.ref 37, .ref 4, .int v2, .int v3, .int v4, .int (f_X2_beyond M v4 v2)] [.int ((v3 >>> (v4 &&& 31)) &&& (Int32.ofInt 1))] M L Q)
      refine wp_ifne (off := 36) 63 (by decide +kernel) (by decide) (fun c_3 => ?_) (fun c_3 => ?_)
      · have hP := hP.2 c_3
        refine wp_seg (pc' := 3) [.iinc 4 1, .goto 0] (by decide +kernel) (?_ : Wp E (d + 1) 43 3 [.ref 37, .ref 4, .int v2, .int v3, .int (v4 + Int32.ofInt 1), .int (f_X2_beyond M v4 v2)] [] M L Q)
        refine wp_drop (lo := [.ref 37, .ref 4, .int v2, .int v3, .int (v4 + Int32.ofInt 1), .null]) ⟨Or.inr rfl, Or.inr rfl, Or.inr rfl, Or.inr rfl, Or.inr rfl, Or.inl rfl, trivial⟩ ?_
        exact ih v2 v3 (v4 + Int32.ofInt 1) M L hP
      · have hP := hP.1 c_3
        refine wp_seg (pc' := 34) [.iload 5, .iconst (-6)] (by decide +kernel) (?_ : Wp E (d + 1) 43 34 [.ref 37, .ref 4, .int v2, .int v3, .int v4, .int (f_X2_beyond M v4 v2)] [.int (Int32.ofInt (-6)), .int (f_X2_beyond M v4 v2)] M L Q)
        refine wp_icmpeq (off := 29) 63 (by decide +kernel) (by decide) (fun c_4 => ?_) (fun c_4 => ?_)
        · have hP := hP.1 c_4
          refine wp_seg (pc' := 3) [.iinc 4 1, .goto 0] (by decide +kernel) (?_ : Wp E (d + 1) 43 3 [.ref 37, .ref 4, .int v2, .int v3, .int (v4 + Int32.ofInt 1), .int (f_X2_beyond M v4 v2)] [] M L Q)
          refine wp_drop (lo := [.ref 37, .ref 4, .int v2, .int v3, .int (v4 + Int32.ofInt 1), .null]) ⟨Or.inr rfl, Or.inr rfl, Or.inr rfl, Or.inr rfl, Or.inr rfl, Or.inl rfl, trivial⟩ ?_
          exact ih v2 v3 (v4 + Int32.ofInt 1) M L hP
        · have hP := hP.2 c_4
          obtain ⟨a_5, hP⟩ := hP
          refine wp_seg (pc' := 44) [.aload 0, .getfield 384, .iload 5, .iaload] (by decide +kernel) (show aok 38 0 (f_X2_beyond M v4 v2) ∧ Wp E (d + 1) 43 44 [.ref 37, .ref 4, .int v2, .int v3, .int v4, .int (f_X2_beyond M v4 v2)] [.int (M 38 ((f_X2_beyond M v4 v2).toNatClampNeg))] M L Q from ⟨⟨rfl, a_5⟩, ?_⟩)
          refine wp_seg (pc' := 47) [.aload 1, .iload 4] (by decide +kernel) (?_ : Wp E (d + 1) 43 47 [.ref 37, .ref 4, .int v2, .int v3, .int v4, .int (f_X2_beyond M v4 v2)] [.int v4, .ref 4, .int (M 38 ((f_X2_beyond M v4 v2).toNatClampNeg))] M L Q)
          refine wp_callS 41 [.ref 4, .int v4] (i := 55) (by decide +kernel) (by decide +kernel) (by decide +kernel) rfl rfl rfl (rest := [.int (M 38 ((f_X2_beyond M v4 v2).toNatClampNeg))]) rfl rfl ?_
          refine s_X6_stepOf M v4 a_2 ?_
          show Wp E (d + 1) 43 50 [.ref 37, .ref 4, .int v2, .int v3, .int v4, .int (f_X2_beyond M v4 v2)] [.int (f_X6_stepOf M v4), .int (M 38 ((f_X2_beyond M v4 v2).toNatClampNeg))] M L Q
          obtain ⟨a_6, hP⟩ := hP
          refine wp_seg (pc' := 57) [.iadd, .aload 0, .getfield 384, .iload 2, .iaload] (by decide +kernel) (show aok 38 0 v2 ∧ Wp E (d + 1) 43 57 [.ref 37, .ref 4, .int v2, .int v3, .int v4, .int (f_X2_beyond M v4 v2)] [.int (M 38 v2.toNatClampNeg), .int ((M 38 ((f_X2_beyond M v4 v2).toNatClampNeg)) + (f_X6_stepOf M v4))] M L Q from ⟨⟨rfl, a_6⟩, ?_⟩)
          refine wp_icmpne (off := 6) 63 (by decide +kernel) (by decide) (fun c_7 => ?_) (fun c_7 => ?_)
          · have hP := hP.2 c_7
            refine wp_seg (pc' := 3) [.iinc 4 1, .goto 0] (by decide +kernel) (?_ : Wp E (d + 1) 43 3 [.ref 37, .ref 4, .int v2, .int v3, .int (v4 + Int32.ofInt 1), .int (f_X2_beyond M v4 v2)] [] M L Q)
            refine wp_drop (lo := [.ref 37, .ref 4, .int v2, .int v3, .int (v4 + Int32.ofInt 1), .null]) ⟨Or.inr rfl, Or.inr rfl, Or.inr rfl, Or.inr rfl, Or.inr rfl, Or.inl rfl, trivial⟩ ?_
            exact ih v2 v3 (v4 + Int32.ofInt 1) M L hP
          · have hP := hP.1 c_7
            refine wp_seg (pc' := 62) [.iload 4] (by decide +kernel) (?_ : Wp E (d + 1) 43 62 [.ref 37, .ref 4, .int v2, .int v3, .int v4, .int (f_X2_beyond M v4 v2)] [.int v4] M L Q)
            exact wp_iret (by decide +kernel) rfl (hK _ _ _ hP)
def P_X6_nextTube (x2 : Int32) (x3 : Int32) (M : Mem) (L : LMem) (K : Int32 → Mem → LMem → Prop) : Prop := PL_X6_nextTube_3 K 100000 x2 x3 (Int32.ofInt 0) M L
theorem t_X6_nextTube {E : VE} {d : Nat} {Q : QQ} {K : Int32 → Mem → LMem → Prop} {x2 : Int32} {x3 : Int32} {M : Mem} {L : LMem} (hP : P_X6_nextTube x2 x3 M L K) (hK : ∀ (v : Int32) (M : Mem) (L : LMem), K v M L → Q (some (.int v)) M L) : Wp E (d + 1) 43 0 [.ref 37, .ref 4, .int x2, .int x3, .null, .null] [] M L Q := by
  unfold P_X6_nextTube at hP
  refine wp_seg (pc' := 3) [.iconst 0, .istore 4] (by decide +kernel) (?_ : Wp E (d + 1) 43 3 [.ref 37, .ref 4, .int x2, .int x3, .int (Int32.ofInt 0), .null] [] M L Q)
  exact tl_X6_nextTube_3 hK 100000 x2 x3 (Int32.ofInt 0) M L hP

def PL_X6_walk_45 (K : Int32 → Mem → LMem → Prop)  : Nat → Int32 → Int32 → Int32 → Int32 → Int32 → Mem → LMem → Prop
  | 0, _, _, _, _, _, _, _ => False
  | n_ + 1, v2, v3, v4, v5, v6, M, L => (((Int32.ofInt 8) ≤ v6 → ((v5 = v3 → K (Int32.ofInt 1) M L) ∧ (¬ (v5 = v3) → K (Int32.ofInt 0) M L))) ∧ (¬ ((Int32.ofInt 8) ≤ v6) → ((v5 = v3 → K (Int32.ofInt 1) M L) ∧ (¬ (v5 = v3) → P_X6_nextTube v5 v4 M L (fun v_9 M_7 L_8 => ((v_9 = (Int32.ofInt (-6)) → K (Int32.ofInt 0) M_7 L_8) ∧ (¬ (v_9 = (Int32.ofInt (-6))) → ((vp_in v_9 12) ∧ (vp_in (M_7 37 3) 8 ∧ (vp_in v6 8 ∧ (vp_in v_9 12 ∧ PL_X6_walk_45 K n_ v2 v3 v4 (f_X2_beyond M_7 v_9 v5) (v6 + Int32.ofInt 1) (mput (mput (mput (mput (mput M_7 39 ((M_7 37 3).toNatClampNeg) v_9) 37 3 v6) 40 v6.toNatClampNeg (f_X2_beyond M_7 v_9 v5)) 37 4 ((M_7 37 4) + (M_7 8 v_9.toNatClampNeg))) 37 5 ((M_7 37 5) ||| ((Int32.ofInt 1) <<< (v_9 &&& 31)))) L_8)))))))))))
theorem tl_X6_walk_45 {E : VE} {d : Nat} {Q : QQ} {K : Int32 → Mem → LMem → Prop}  (hK : ∀ (v : Int32) (M : Mem) (L : LMem), K v M L → Q (some (.int v)) M L)  : ∀ (n_ : Nat) (v2 : Int32) (v3 : Int32) (v4 : Int32) (v5 : Int32) (v6 : Int32) (M : Mem) (L : LMem), PL_X6_walk_45 K n_ v2 v3 v4 v5 v6 M L → Wp E (d + 2) 42 45 [.ref 37, .ref 3, .int v2, .int v3, .int v4, .int v5, .int v6, .null] [] M L Q := by
  intro n_
  induction n_ with
  | zero => intro v2 v3 v4 v5 v6 M L hP; exact False.elim hP
  | succ n_ ih =>
    intro v2 v3 v4 v5 v6 M L hP
    unfold PL_X6_walk_45 at hP
    refine wp_seg (pc' := 49) [.iload 6, .iconst 8] (by decide +kernel) (?_ : Wp E (d + 2) 42 49 [.ref 37, .ref 3, .int v2, .int v3, .int v4, .int v5, .int v6, .null] [.int (Int32.ofInt 8), .int v6] M L Q)
    refine wp_icmpge (off := 109) 158 (by decide +kernel) (by decide) (fun c_3 => ?_) (fun c_3 => ?_)
    · have hP := hP.1 c_3
      refine wp_seg (pc' := 161) [.iload 5, .iload 3] (by decide +kernel) (?_ : Wp E (d + 2) 42 161 [.ref 37, .ref 3, .int v2, .int v3, .int v4, .int v5, .int v6, .null] [.int v3, .int v5] M L Q)
      refine wp_icmpne (off := 7) 168 (by decide +kernel) (by decide) (fun c_4 => ?_) (fun c_4 => ?_)
      · have hP := hP.2 c_4
        refine wp_seg (pc' := 169) [.iconst 0] (by decide +kernel) (?_ : Wp E (d + 2) 42 169 [.ref 37, .ref 3, .int v2, .int v3, .int v4, .int v5, .int v6, .null] [.int (Int32.ofInt 0)] M L Q)
        exact wp_zret (by decide +kernel) rfl (by decide) (hK _ _ _ hP)
      · have hP := hP.1 c_4
        refine wp_seg (pc' := 169) [.iconst 1, .goto 0] (by decide +kernel) (?_ : Wp E (d + 2) 42 169 [.ref 37, .ref 3, .int v2, .int v3, .int v4, .int v5, .int v6, .null] [.int (Int32.ofInt 1)] M L Q)
        exact wp_zret (by decide +kernel) rfl (by decide) (hK _ _ _ hP)
    · have hP := hP.2 c_3
      refine wp_seg (pc' := 55) [.iload 5, .iload 3] (by decide +kernel) (?_ : Wp E (d + 2) 42 55 [.ref 37, .ref 3, .int v2, .int v3, .int v4, .int v5, .int v6, .null] [.int v3, .int v5] M L Q)
      refine wp_icmpeq (off := 103) 158 (by decide +kernel) (by decide) (fun c_5 => ?_) (fun c_5 => ?_)
      · have hP := hP.1 c_5
        refine wp_seg (pc' := 161) [.iload 5, .iload 3] (by decide +kernel) (?_ : Wp E (d + 2) 42 161 [.ref 37, .ref 3, .int v2, .int v3, .int v4, .int v5, .int v6, .null] [.int v3, .int v5] M L Q)
        refine wp_icmpne (off := 7) 168 (by decide +kernel) (by decide) (fun c_6 => ?_) (fun c_6 => ?_)
        · exact absurd c_5 c_6
        · skip
          refine wp_seg (pc' := 169) [.iconst 1, .goto 0] (by decide +kernel) (?_ : Wp E (d + 2) 42 169 [.ref 37, .ref 3, .int v2, .int v3, .int v4, .int v5, .int v6, .null] [.int (Int32.ofInt 1)] M L Q)
          exact wp_zret (by decide +kernel) rfl (by decide) (hK _ _ _ hP)
      · have hP := hP.2 c_5
        refine wp_seg (pc' := 67) [.aload 0, .aload 1, .getfield 192, .iload 5, .iload 4] (by decide +kernel) (?_ : Wp E (d + 2) 42 67 [.ref 37, .ref 3, .int v2, .int v3, .int v4, .int v5, .int v6, .null] [.int v4, .int v5, .ref 4, .ref 37] M L Q)
        refine wp_callV 43 37 [.ref 4, .int v5, .int v4] (i := 71) (by decide +kernel) (by decide +kernel) (by decide +kernel) (by decide +kernel) rfl rfl rfl (rest := []) rfl rfl ?_
        refine t_X6_nextTube hP (fun v_9 M_7 L_8 hP => ?_)
        show Wp E (d + 2) 42 70 [.ref 37, .ref 3, .int v2, .int v3, .int v4, .int v5, .int v6, .null] [.int v_9] M_7 L_8 Q
        refine wp_seg (pc' := 76) [.istore 7, .iload 7, .iconst (-6)] (by decide +kernel) (?_ : Wp E (d + 2) 42 76 [.ref 37, .ref 3, .int v2, .int v3, .int v4, .int v5, .int v6, .int v_9] [.int (Int32.ofInt (-6)), .int v_9] M_7 L_8 Q)
        refine wp_icmpne (off := 5) 81 (by decide +kernel) (by decide) (fun c_10 => ?_) (fun c_10 => ?_)
        · have hP := hP.2 c_10
          refine wp_seg (pc' := 89) [.aload 1, .getfield 192, .iload 7, .iload 5] (by decide +kernel) (?_ : Wp E (d + 2) 42 89 [.ref 37, .ref 3, .int v2, .int v3, .int v4, .int v5, .int v6, .int v_9] [.int v5, .int v_9, .ref 4] M_7 L_8 Q)
          refine wp_callV 13 4 [.int v_9, .int v5] (i := 75) (by decide +kernel) (by decide +kernel) (by decide +kernel) (by decide +kernel) rfl rfl rfl (rest := []) rfl rfl ?_
          obtain ⟨a_11, hP⟩ := hP
          refine s_X2_beyond M_7 v_9 v5 a_11 ?_
          show Wp E (d + 2) 42 92 [.ref 37, .ref 3, .int v2, .int v3, .int v4, .int v5, .int v6, .int v_9] [.int (f_X2_beyond M_7 v_9 v5)] M_7 L_8 Q
          obtain ⟨a_12, hP⟩ := hP
          refine wp_seg (pc' := 105) [.istore 5, .aload 0, .getfield 385, .aload 0, .getfield 387, .iload 7, .iastore] (by decide +kernel) (show aok 39 0 (M_7 37 3) ∧ Wp E (d + 2) 42 105 [.ref 37, .ref 3, .int v2, .int v3, .int v4, .int (f_X2_beyond M_7 v_9 v5), .int v6, .int v_9] [] (mput M_7 39 ((M_7 37 3).toNatClampNeg) v_9) L_8 Q from ⟨⟨rfl, a_12⟩, ?_⟩)
          obtain ⟨a_13, hP⟩ := hP
          refine wp_seg (pc' := 120) [.aload 0, .iload 6, .putfield 387, .aload 0, .getfield 386, .iload 6, .iload 5, .iastore] (by decide +kernel) (show aok 40 0 v6 ∧ Wp E (d + 2) 42 120 [.ref 37, .ref 3, .int v2, .int v3, .int v4, .int (f_X2_beyond M_7 v_9 v5), .int v6, .int v_9] [] (mput (mput (mput M_7 39 ((M_7 37 3).toNatClampNeg) v_9) 37 3 v6) 40 v6.toNatClampNeg (f_X2_beyond M_7 v_9 v5)) L_8 Q from ⟨⟨rfl, a_13⟩, ?_⟩)
          obtain ⟨a_14, hP⟩ := hP
          refine wp_seg (pc' := 135) [.aload 0, .dup, .getfield 388, .aload 1, .getfield 192, .getfield 131, .iload 7, .iaload] (by decide +kernel) (show aok 8 0 v_9 ∧ Wp E (d + 2) 42 135 [.ref 37, .ref 3, .int v2, .int v3, .int v4, .int (f_X2_beyond M_7 v_9 v5), .int v6, .int v_9] [.int (M_7 8 v_9.toNatClampNeg), .int (M_7 37 4), .ref 37] (mput (mput (mput M_7 39 ((M_7 37 3).toNatClampNeg) v_9) 37 3 v6) 40 v6.toNatClampNeg (f_X2_beyond M_7 v_9 v5)) L_8 Q from ⟨⟨rfl, a_14⟩, ?_⟩)
          refine wp_seg (pc' := 45) [.iadd, .putfield 388, .aload 0, .dup, .getfield 389, .iconst 1, .iload 7, .ishl, .ior, .putfield 389, .iinc 6 1, .goto 0] (by decide +kernel) (?_ : Wp E (d + 2) 42 45 [.ref 37, .ref 3, .int v2, .int v3, .int v4, .int (f_X2_beyond M_7 v_9 v5), .int (v6 + Int32.ofInt 1), .int v_9] [] (mput (mput (mput (mput (mput M_7 39 ((M_7 37 3).toNatClampNeg) v_9) 37 3 v6) 40 v6.toNatClampNeg (f_X2_beyond M_7 v_9 v5)) 37 4 ((M_7 37 4) + (M_7 8 v_9.toNatClampNeg))) 37 5 ((M_7 37 5) ||| ((Int32.ofInt 1) <<< (v_9 &&& 31)))) L_8 Q)
          refine wp_drop (lo := [.ref 37, .ref 3, .int v2, .int v3, .int v4, .int (f_X2_beyond M_7 v_9 v5), .int (v6 + Int32.ofInt 1), .null]) ⟨Or.inr rfl, Or.inr rfl, Or.inr rfl, Or.inr rfl, Or.inr rfl, Or.inr rfl, Or.inr rfl, Or.inl rfl, trivial⟩ ?_
          exact ih v2 v3 v4 (f_X2_beyond M_7 v_9 v5) (v6 + Int32.ofInt 1) (mput (mput (mput (mput (mput M_7 39 ((M_7 37 3).toNatClampNeg) v_9) 37 3 v6) 40 v6.toNatClampNeg (f_X2_beyond M_7 v_9 v5)) 37 4 ((M_7 37 4) + (M_7 8 v_9.toNatClampNeg))) 37 5 ((M_7 37 5) ||| ((Int32.ofInt 1) <<< (v_9 &&& 31)))) L_8 hP
        · have hP := hP.1 c_10
          refine wp_seg (pc' := 80) [.iconst 0] (by decide +kernel) (?_ : Wp E (d + 2) 42 80 [.ref 37, .ref 3, .int v2, .int v3, .int v4, .int v5, .int v6, .int v_9] [.int (Int32.ofInt 0)] M_7 L_8 Q)
          exact wp_zret (by decide +kernel) rfl (by decide) (hK _ _ _ hP)
def P_X6_walk (x2 : Int32) (x3 : Int32) (x4 : Int32) (M : Mem) (L : LMem) (K : Int32 → Mem → LMem → Prop) : Prop := (vp_in x2 8 ∧ ((((M 38 x2.toNatClampNeg) >>> ((Int32.ofInt 4) &&& 31)) ≤ (M 3 1) → PL_X6_walk_45 K 100000 x2 x3 x4 x2 (Int32.ofInt 1) (mput (mput (mput (mput M 37 3 (Int32.ofInt 0)) 37 4 (Int32.ofInt 0)) 37 5 (Int32.ofInt 0)) 40 ((Int32.ofInt 0).toNatClampNeg) x2) L) ∧ (¬ (((M 38 x2.toNatClampNeg) >>> ((Int32.ofInt 4) &&& 31)) ≤ (M 3 1)) → K (Int32.ofInt 0) (mput (mput (mput (mput M 37 3 (Int32.ofInt 0)) 37 4 (Int32.ofInt 0)) 37 5 (Int32.ofInt 0)) 40 ((Int32.ofInt 0).toNatClampNeg) x2) L)))
theorem t_X6_walk {E : VE} {d : Nat} {Q : QQ} {K : Int32 → Mem → LMem → Prop} {x2 : Int32} {x3 : Int32} {x4 : Int32} {M : Mem} {L : LMem} (hP : P_X6_walk x2 x3 x4 M L K) (hK : ∀ (v : Int32) (M : Mem) (L : LMem), K v M L → Q (some (.int v)) M L) : Wp E (d + 2) 42 0 [.ref 37, .ref 3, .int x2, .int x3, .int x4, .null, .null, .null] [] M L Q := by
  unfold P_X6_walk at hP
  refine wp_seg (pc' := 22) [.aload 0, .iconst 0, .putfield 387, .aload 0, .iconst 0, .putfield 388, .aload 0, .iconst 0, .putfield 389, .aload 0, .getfield 386, .iconst 0, .iload 2, .iastore] (by decide +kernel) (show aok 40 0 (Int32.ofInt 0) ∧ Wp E (d + 2) 42 22 [.ref 37, .ref 3, .int x2, .int x3, .int x4, .null, .null, .null] [] (mput (mput (mput (mput M 37 3 (Int32.ofInt 0)) 37 4 (Int32.ofInt 0)) 37 5 (Int32.ofInt 0)) 40 ((Int32.ofInt 0).toNatClampNeg) x2) L Q from ⟨⟨rfl, (vp_lit 0 8 (by decide))⟩, ?_⟩)
  obtain ⟨a_1, hP⟩ := hP
  refine wp_seg (pc' := 28) [.aload 0, .getfield 384, .iload 2, .iaload] (by decide +kernel) (show aok 38 0 x2 ∧ Wp E (d + 2) 42 28 [.ref 37, .ref 3, .int x2, .int x3, .int x4, .null, .null, .null] [.int (M 38 x2.toNatClampNeg)] (mput (mput (mput (mput M 37 3 (Int32.ofInt 0)) 37 4 (Int32.ofInt 0)) 37 5 (Int32.ofInt 0)) 40 ((Int32.ofInt 0).toNatClampNeg) x2) L Q from ⟨⟨rfl, a_1⟩, ?_⟩)
  refine wp_seg (pc' := 34) [.iconst 4, .ishr, .aload 1, .getfield 193] (by decide +kernel) (?_ : Wp E (d + 2) 42 34 [.ref 37, .ref 3, .int x2, .int x3, .int x4, .null, .null, .null] [.int (M 3 1), .int ((M 38 x2.toNatClampNeg) >>> ((Int32.ofInt 4) &&& 31))] (mput (mput (mput (mput M 37 3 (Int32.ofInt 0)) 37 4 (Int32.ofInt 0)) 37 5 (Int32.ofInt 0)) 40 ((Int32.ofInt 0).toNatClampNeg) x2) L Q)
  refine wp_icmple (off := 5) 39 (by decide +kernel) (by decide) (fun c_2 => ?_) (fun c_2 => ?_)
  · have hP := hP.1 c_2
    refine wp_seg (pc' := 45) [.iload 2, .istore 5, .iconst 1, .istore 6] (by decide +kernel) (?_ : Wp E (d + 2) 42 45 [.ref 37, .ref 3, .int x2, .int x3, .int x4, .int x2, .int (Int32.ofInt 1), .null] [] (mput (mput (mput (mput M 37 3 (Int32.ofInt 0)) 37 4 (Int32.ofInt 0)) 37 5 (Int32.ofInt 0)) 40 ((Int32.ofInt 0).toNatClampNeg) x2) L Q)
    exact tl_X6_walk_45 hK 100000 x2 x3 x4 x2 (Int32.ofInt 1) (mput (mput (mput (mput M 37 3 (Int32.ofInt 0)) 37 4 (Int32.ofInt 0)) 37 5 (Int32.ofInt 0)) 40 ((Int32.ofInt 0).toNatClampNeg) x2) L hP
  · have hP := hP.2 c_2
    refine wp_seg (pc' := 38) [.iconst 0] (by decide +kernel) (?_ : Wp E (d + 2) 42 38 [.ref 37, .ref 3, .int x2, .int x3, .int x4, .null, .null, .null] [.int (Int32.ofInt 0)] (mput (mput (mput (mput M 37 3 (Int32.ofInt 0)) 37 4 (Int32.ofInt 0)) 37 5 (Int32.ofInt 0)) 40 ((Int32.ofInt 0).toNatClampNeg) x2) L Q)
    exact wp_zret (by decide +kernel) rfl (by decide) (hK _ _ _ hP)

def P_X6_find (x2 : Int32) (x3 : Int32) (x4 : Int32) (M : Mem) (L : LMem) (K : Int32 → Mem → LMem → Prop) : Prop := P_X6_aim x3 x4 M L (fun M_1 L_2 => P_X6_walk x2 x3 x4 M_1 L_2 (fun v_5 M_3 L_4 => ((v_5 = 0 ∨ v_5 = 1) ∧ K v_5 M_3 L_4)))
theorem t_X6_find {E : VE} {d : Nat} {Q : QQ} {K : Int32 → Mem → LMem → Prop} {x2 : Int32} {x3 : Int32} {x4 : Int32} {M : Mem} {L : LMem} (hP : P_X6_find x2 x3 x4 M L K) (hK : ∀ (v : Int32) (M : Mem) (L : LMem), K v M L → Q (some (.int v)) M L) : Wp E (d + 3) 38 0 [.ref 37, .ref 3, .int x2, .int x3, .int x4] [] M L Q := by
  unfold P_X6_find at hP
  refine wp_seg (pc' := 8) [.aload 0, .aload 1, .getfield 192, .iload 3, .iload 4] (by decide +kernel) (?_ : Wp E (d + 3) 38 8 [.ref 37, .ref 3, .int x2, .int x3, .int x4] [.int x4, .int x3, .ref 4, .ref 37] M L Q)
  refine wp_callV 39 37 [.ref 4, .int x3, .int x4] (i := 27) (by decide +kernel) (by decide +kernel) (by decide +kernel) (by decide +kernel) rfl rfl rfl (rest := []) rfl rfl ?_
  refine t_X6_aim hP (fun M_1 L_2 hP => ?_)
  show Wp E (d + 3) 38 11 [.ref 37, .ref 3, .int x2, .int x3, .int x4] [] M_1 L_2 Q
  refine wp_seg (pc' := 17) [.aload 0, .aload 1, .iload 2, .iload 3, .iload 4] (by decide +kernel) (?_ : Wp E (d + 3) 38 17 [.ref 37, .ref 3, .int x2, .int x3, .int x4] [.int x4, .int x3, .int x2, .ref 3, .ref 37] M_1 L_2 Q)
  refine wp_callV 42 37 [.ref 3, .int x2, .int x3, .int x4] (i := 31) (by decide +kernel) (by decide +kernel) (by decide +kernel) (by decide +kernel) rfl rfl rfl (rest := []) rfl rfl ?_
  refine t_X6_walk hP (fun v_5 M_3 L_4 hP => ?_)
  show Wp E (d + 3) 38 20 [.ref 37, .ref 3, .int x2, .int x3, .int x4] [.int v_5] M_3 L_4 Q
  obtain ⟨a_6, hP⟩ := hP
  exact wp_zret (by decide +kernel) rfl a_6 (hK _ _ _ hP)

def PL_X6_loudness_8 (K : Int32 → Mem → LMem → Prop)  : Nat → Int32 → Int32 → Int32 → Mem → LMem → Prop
  | 0, _, _, _, _, _ => False
  | n_ + 1, v2, v3, v4, M, L => (((M 37 3) < v4 → K (Int32.ofInt (-6)) M L) ∧ (¬ ((M 37 3) < v4) → (vp_in v4 8 ∧ (((M 40 v4.toNatClampNeg) = v2 → K v3 M L) ∧ (¬ ((M 40 v4.toNatClampNeg) = v2) → (((M 37 3) ≤ v4 → PL_X6_loudness_8 K n_ v2 v3 (v4 + Int32.ofInt 1) M L) ∧ (¬ ((M 37 3) ≤ v4) → (vp_in (M 39 v4.toNatClampNeg) 12 ∧ PL_X6_loudness_8 K n_ v2 (v3 - (M 8 ((M 39 v4.toNatClampNeg).toNatClampNeg))) (v4 + Int32.ofInt 1) M L))))))))
theorem tl_X6_loudness_8 {E : VE} {d : Nat} {Q : QQ} {K : Int32 → Mem → LMem → Prop}  (hK : ∀ (v : Int32) (M : Mem) (L : LMem), K v M L → Q (some (.int v)) M L)  : ∀ (n_ : Nat) (v2 : Int32) (v3 : Int32) (v4 : Int32) (M : Mem) (L : LMem), PL_X6_loudness_8 K n_ v2 v3 v4 M L → Wp E d 44 8 [.ref 37, .ref 3, .int v2, .int v3, .int v4] [] M L Q := by
  intro n_
  induction n_ with
  | zero => intro v2 v3 v4 M L hP; exact False.elim hP
  | succ n_ ih =>
    intro v2 v3 v4 M L hP
    unfold PL_X6_loudness_8 at hP
    refine wp_seg (pc' := 14) [.iload 4, .aload 0, .getfield 387] (by decide +kernel) (?_ : Wp E d 44 14 [.ref 37, .ref 3, .int v2, .int v3, .int v4] [.int (M 37 3), .int v4] M L Q)
    refine wp_icmpgt (off := 49) 63 (by decide +kernel) (by decide) (fun c_1 => ?_) (fun c_1 => ?_)
    · have hP := hP.1 c_1
      refine wp_seg (pc' := 65) [.iconst (-6)] (by decide +kernel) (?_ : Wp E d 44 65 [.ref 37, .ref 3, .int v2, .int v3, .int v4] [.int (Int32.ofInt (-6))] M L Q)
      exact wp_iret (by decide +kernel) rfl (hK _ _ _ hP)
    · have hP := hP.2 c_1
      obtain ⟨a_2, hP⟩ := hP
      refine wp_seg (pc' := 24) [.aload 0, .getfield 386, .iload 4, .iaload] (by decide +kernel) (show aok 40 0 v4 ∧ Wp E d 44 24 [.ref 37, .ref 3, .int v2, .int v3, .int v4] [.int (M 40 v4.toNatClampNeg)] M L Q from ⟨⟨rfl, a_2⟩, ?_⟩)
      refine wp_seg (pc' := 25) [.iload 2] (by decide +kernel) (?_ : Wp E d 44 25 [.ref 37, .ref 3, .int v2, .int v3, .int v4] [.int v2, .int (M 40 v4.toNatClampNeg)] M L Q)
      refine wp_icmpne (off := 5) 30 (by decide +kernel) (by decide) (fun c_3 => ?_) (fun c_3 => ?_)
      · have hP := hP.2 c_3
        refine wp_seg (pc' := 36) [.iload 4, .aload 0, .getfield 387] (by decide +kernel) (?_ : Wp E d 44 36 [.ref 37, .ref 3, .int v2, .int v3, .int v4] [.int (M 37 3), .int v4] M L Q)
        refine wp_icmpge (off := 21) 57 (by decide +kernel) (by decide) (fun c_4 => ?_) (fun c_4 => ?_)
        · have hP := hP.1 c_4
          refine wp_seg (pc' := 8) [.iinc 4 1, .goto 0] (by decide +kernel) (?_ : Wp E d 44 8 [.ref 37, .ref 3, .int v2, .int v3, .int (v4 + Int32.ofInt 1)] [] M L Q)
          exact ih v2 v3 (v4 + Int32.ofInt 1) M L hP
        · have hP := hP.2 c_4
          refine wp_seg (pc' := 54) [.iload 3, .aload 1, .getfield 192, .getfield 131, .aload 0, .getfield 385, .iload 4, .iaload] (by decide +kernel) (show aok 39 0 v4 ∧ Wp E d 44 54 [.ref 37, .ref 3, .int v2, .int v3, .int v4] [.int (M 39 v4.toNatClampNeg), .ref 8, .int v3] M L Q from ⟨⟨rfl, a_2⟩, ?_⟩)
          obtain ⟨a_5, hP⟩ := hP
          refine wp_seg (pc' := 55) [.iaload] (by decide +kernel) (show aok 8 0 (M 39 v4.toNatClampNeg) ∧ Wp E d 44 55 [.ref 37, .ref 3, .int v2, .int v3, .int v4] [.int (M 8 ((M 39 v4.toNatClampNeg).toNatClampNeg)), .int v3] M L Q from ⟨⟨rfl, a_5⟩, ?_⟩)
          refine wp_seg (pc' := 8) [.isub, .istore 3, .iinc 4 1, .goto 0] (by decide +kernel) (?_ : Wp E d 44 8 [.ref 37, .ref 3, .int v2, .int (v3 - (M 8 ((M 39 v4.toNatClampNeg).toNatClampNeg))), .int (v4 + Int32.ofInt 1)] [] M L Q)
          exact ih v2 (v3 - (M 8 ((M 39 v4.toNatClampNeg).toNatClampNeg))) (v4 + Int32.ofInt 1) M L hP
      · have hP := hP.1 c_3
        refine wp_seg (pc' := 29) [.iload 3] (by decide +kernel) (?_ : Wp E d 44 29 [.ref 37, .ref 3, .int v2, .int v3, .int v4] [.int v3] M L Q)
        exact wp_iret (by decide +kernel) rfl (hK _ _ _ hP)
def P_X6_loudness (x2 : Int32) (M : Mem) (L : LMem) (K : Int32 → Mem → LMem → Prop) : Prop := PL_X6_loudness_8 K 100000 x2 (M 3 1) (Int32.ofInt 0) M L
theorem t_X6_loudness {E : VE} {d : Nat} {Q : QQ} {K : Int32 → Mem → LMem → Prop} {x2 : Int32} {M : Mem} {L : LMem} (hP : P_X6_loudness x2 M L K) (hK : ∀ (v : Int32) (M : Mem) (L : LMem), K v M L → Q (some (.int v)) M L) : Wp E d 44 0 [.ref 37, .ref 3, .int x2, .null, .null] [] M L Q := by
  unfold P_X6_loudness at hP
  refine wp_seg (pc' := 8) [.aload 1, .getfield 193, .istore 3, .iconst 0, .istore 4] (by decide +kernel) (?_ : Wp E d 44 8 [.ref 37, .ref 3, .int x2, .int (M 3 1), .int (Int32.ofInt 0)] [] M L Q)
  exact tl_X6_loudness_8 hK 100000 x2 (M 3 1) (Int32.ofInt 0) M L hP

def PL_X6_hearers_15 (K : Int32 → Mem → LMem → Prop)  : Nat → Int32 → Int32 → Int32 → Mem → LMem → Prop
  | 0, _, _, _, _, _ => False
  | n_ + 1, v2, v3, v4, M, L => (((M 37 3) ≤ v4 → K v3 M L) ∧ (¬ ((M 37 3) ≤ v4) → ((v4 ≤ 0 → (vp_in v4 8 ∧ (vp_in (M 39 v4.toNatClampNeg) 12 ∧ (((M 7 ((M 39 v4.toNatClampNeg).toNatClampNeg)) = (Int32.ofInt 126) → (vp_in (v4 + (Int32.ofInt 1)) 8 ∧ PL_X6_hearers_15 K n_ v2 (v3 ||| (((Int32.ofInt 1) <<< ((M 40 v4.toNatClampNeg) &&& 31)) ||| ((Int32.ofInt 1) <<< ((M 40 ((v4 + (Int32.ofInt 1)).toNatClampNeg)) &&& 31)))) (v4 + Int32.ofInt 1) M L)) ∧ (¬ ((M 7 ((M 39 v4.toNatClampNeg).toNatClampNeg)) = (Int32.ofInt 126)) → PL_X6_hearers_15 K n_ v2 v3 (v4 + Int32.ofInt 1) M L))))) ∧ (¬ (v4 ≤ 0) → (vp_in v4 8 ∧ ((((v2 >>> ((M 40 v4.toNatClampNeg) &&& 31)) &&& (Int32.ofInt 1)) = 0 → (vp_in (M 39 v4.toNatClampNeg) 12 ∧ (((M 7 ((M 39 v4.toNatClampNeg).toNatClampNeg)) = (Int32.ofInt 126) → (vp_in (v4 + (Int32.ofInt 1)) 8 ∧ PL_X6_hearers_15 K n_ v2 ((v3 ||| ((Int32.ofInt 1) <<< ((M 40 v4.toNatClampNeg) &&& 31))) ||| (((Int32.ofInt 1) <<< ((M 40 v4.toNatClampNeg) &&& 31)) ||| ((Int32.ofInt 1) <<< ((M 40 ((v4 + (Int32.ofInt 1)).toNatClampNeg)) &&& 31)))) (v4 + Int32.ofInt 1) M L)) ∧ (¬ ((M 7 ((M 39 v4.toNatClampNeg).toNatClampNeg)) = (Int32.ofInt 126)) → PL_X6_hearers_15 K n_ v2 (v3 ||| ((Int32.ofInt 1) <<< ((M 40 v4.toNatClampNeg) &&& 31))) (v4 + Int32.ofInt 1) M L)))) ∧ (¬ (((v2 >>> ((M 40 v4.toNatClampNeg) &&& 31)) &&& (Int32.ofInt 1)) = 0) → (vp_in (M 39 v4.toNatClampNeg) 12 ∧ (((M 7 ((M 39 v4.toNatClampNeg).toNatClampNeg)) = (Int32.ofInt 126) → (vp_in (v4 + (Int32.ofInt 1)) 8 ∧ PL_X6_hearers_15 K n_ v2 (v3 ||| (((Int32.ofInt 1) <<< ((M 40 v4.toNatClampNeg) &&& 31)) ||| ((Int32.ofInt 1) <<< ((M 40 ((v4 + (Int32.ofInt 1)).toNatClampNeg)) &&& 31)))) (v4 + Int32.ofInt 1) M L)) ∧ (¬ ((M 7 ((M 39 v4.toNatClampNeg).toNatClampNeg)) = (Int32.ofInt 126)) → PL_X6_hearers_15 K n_ v2 v3 (v4 + Int32.ofInt 1) M L))))))))))
theorem tl_X6_hearers_15 {E : VE} {d : Nat} {Q : QQ} {K : Int32 → Mem → LMem → Prop}  (hK : ∀ (v : Int32) (M : Mem) (L : LMem), K v M L → Q (some (.int v)) M L)  : ∀ (n_ : Nat) (v2 : Int32) (v3 : Int32) (v4 : Int32) (M : Mem) (L : LMem), PL_X6_hearers_15 K n_ v2 v3 v4 M L → Wp E d 45 15 [.ref 37, .ref 4, .int v2, .int v3, .int v4] [] M L Q := by
  intro n_
  induction n_ with
  | zero => intro v2 v3 v4 M L hP; exact False.elim hP
  | succ n_ ih =>
    intro v2 v3 v4 M L hP
    unfold PL_X6_hearers_15 at hP
    refine wp_seg (pc' := 21) [.iload 4, .aload 0, .getfield 387] (by decide +kernel) (?_ : Wp E d 45 21 [.ref 37, .ref 4, .int v2, .int v3, .int v4] [.int (M 37 3), .int v4] M L Q)
    refine wp_icmpge (off := 81) 102 (by decide +kernel) (by decide) (fun c_2 => ?_) (fun c_2 => ?_)
    · have hP := hP.1 c_2
      refine wp_seg (pc' := 103) [.iload 3] (by decide +kernel) (?_ : Wp E d 45 103 [.ref 37, .ref 4, .int v2, .int v3, .int v4] [.int v3] M L Q)
      exact wp_iret (by decide +kernel) rfl (hK _ _ _ hP)
    · have hP := hP.2 c_2
      refine wp_seg (pc' := 26) [.iload 4] (by decide +kernel) (?_ : Wp E d 45 26 [.ref 37, .ref 4, .int v2, .int v3, .int v4] [.int v4] M L Q)
      refine wp_ifle (off := 29) 55 (by decide +kernel) (by decide) (fun c_3 => ?_) (fun c_3 => ?_)
      · have hP := hP.1 c_3
        obtain ⟨a_4, hP⟩ := hP
        refine wp_seg (pc' := 66) [.aload 1, .getfield 130, .aload 0, .getfield 385, .iload 4, .iaload] (by decide +kernel) (show aok 39 0 v4 ∧ Wp E d 45 66 [.ref 37, .ref 4, .int v2, .int v3, .int v4] [.int (M 39 v4.toNatClampNeg), .ref 7] M L Q from ⟨⟨rfl, a_4⟩, ?_⟩)
        obtain ⟨a_5, hP⟩ := hP
        refine wp_seg (pc' := 67) [.iaload] (by decide +kernel) (show aok 7 0 (M 39 v4.toNatClampNeg) ∧ Wp E d 45 67 [.ref 37, .ref 4, .int v2, .int v3, .int v4] [.int (M 7 ((M 39 v4.toNatClampNeg).toNatClampNeg))] M L Q from ⟨⟨rfl, a_5⟩, ?_⟩)
        refine wp_seg (pc' := 69) [.iconst 126] (by decide +kernel) (?_ : Wp E d 45 69 [.ref 37, .ref 4, .int v2, .int v3, .int v4] [.int (Int32.ofInt 126), .int (M 7 ((M 39 v4.toNatClampNeg).toNatClampNeg))] M L Q)
        refine wp_icmpne (off := 27) 96 (by decide +kernel) (by decide) (fun c_6 => ?_) (fun c_6 => ?_)
        · have hP := hP.2 c_6
          refine wp_seg (pc' := 15) [.iinc 4 1, .goto 0] (by decide +kernel) (?_ : Wp E d 45 15 [.ref 37, .ref 4, .int v2, .int v3, .int (v4 + Int32.ofInt 1)] [] M L Q)
          exact ih v2 v3 (v4 + Int32.ofInt 1) M L hP
        · have hP := hP.1 c_6
          refine wp_seg (pc' := 81) [.iload 3, .iconst 1, .aload 0, .getfield 386, .iload 4, .iaload] (by decide +kernel) (show aok 40 0 v4 ∧ Wp E d 45 81 [.ref 37, .ref 4, .int v2, .int v3, .int v4] [.int (M 40 v4.toNatClampNeg), .int (Int32.ofInt 1), .int v3] M L Q from ⟨⟨rfl, a_4⟩, ?_⟩)
          obtain ⟨a_7, hP⟩ := hP
          refine wp_seg (pc' := 92) [.ishl, .iconst 1, .aload 0, .getfield 386, .iload 4, .iconst 1, .iadd, .iaload] (by decide +kernel) (show aok 40 0 (v4 + (Int32.ofInt 1)) ∧ Wp E d 45 92 [.ref 37, .ref 4, .int v2, .int v3, .int v4] [.int (M 40 ((v4 + (Int32.ofInt 1)).toNatClampNeg)), .int (Int32.ofInt 1), .int ((Int32.ofInt 1) <<< ((M 40 v4.toNatClampNeg) &&& 31)), .int v3] M L Q from ⟨⟨rfl, a_7⟩, ?_⟩)
          refine wp_seg (pc' := 15) [.ishl, .ior, .ior, .istore 3, .iinc 4 1, .goto 0] (by decide +kernel) (?_ : Wp E d 45 15 [.ref 37, .ref 4, .int v2, .int (v3 ||| (((Int32.ofInt 1) <<< ((M 40 v4.toNatClampNeg) &&& 31)) ||| ((Int32.ofInt 1) <<< ((M 40 ((v4 + (Int32.ofInt 1)).toNatClampNeg)) &&& 31)))), .int (v4 + Int32.ofInt 1)] [] M L Q)
          exact ih v2 (v3 ||| (((Int32.ofInt 1) <<< ((M 40 v4.toNatClampNeg) &&& 31)) ||| ((Int32.ofInt 1) <<< ((M 40 ((v4 + (Int32.ofInt 1)).toNatClampNeg)) &&& 31)))) (v4 + Int32.ofInt 1) M L hP
      · have hP := hP.2 c_3
        obtain ⟨a_8, hP⟩ := hP
        refine wp_seg (pc' := 37) [.iload 2, .aload 0, .getfield 386, .iload 4, .iaload] (by decide +kernel) (show aok 40 0 v4 ∧ Wp E d 45 37 [.ref 37, .ref 4, .int v2, .int v3, .int v4] [.int (M 40 v4.toNatClampNeg), .int v2] M L Q from ⟨⟨rfl, a_8⟩, ?_⟩)
        refine wp_seg (pc' := 40) [.ishr, .iconst 1, .iand] (by decide +kernel) (?_ : Wp E d 45 40 [.ref 37, .ref 4, .int v2, .int v3, .int v4] [.int ((v2 >>> ((M 40 v4.toNatClampNeg) &&& 31)) &&& (Int32.ofInt 1))] M L Q)
        refine wp_ifne (off := 15) 55 (by decide +kernel) (by decide) (fun c_9 => ?_) (fun c_9 => ?_)
        · have hP := hP.2 c_9
          refine wp_seg (pc' := 66) [.aload 1, .getfield 130, .aload 0, .getfield 385, .iload 4, .iaload] (by decide +kernel) (show aok 39 0 v4 ∧ Wp E d 45 66 [.ref 37, .ref 4, .int v2, .int v3, .int v4] [.int (M 39 v4.toNatClampNeg), .ref 7] M L Q from ⟨⟨rfl, a_8⟩, ?_⟩)
          obtain ⟨a_10, hP⟩ := hP
          refine wp_seg (pc' := 67) [.iaload] (by decide +kernel) (show aok 7 0 (M 39 v4.toNatClampNeg) ∧ Wp E d 45 67 [.ref 37, .ref 4, .int v2, .int v3, .int v4] [.int (M 7 ((M 39 v4.toNatClampNeg).toNatClampNeg))] M L Q from ⟨⟨rfl, a_10⟩, ?_⟩)
          refine wp_seg (pc' := 69) [.iconst 126] (by decide +kernel) (?_ : Wp E d 45 69 [.ref 37, .ref 4, .int v2, .int v3, .int v4] [.int (Int32.ofInt 126), .int (M 7 ((M 39 v4.toNatClampNeg).toNatClampNeg))] M L Q)
          refine wp_icmpne (off := 27) 96 (by decide +kernel) (by decide) (fun c_11 => ?_) (fun c_11 => ?_)
          · have hP := hP.2 c_11
            refine wp_seg (pc' := 15) [.iinc 4 1, .goto 0] (by decide +kernel) (?_ : Wp E d 45 15 [.ref 37, .ref 4, .int v2, .int v3, .int (v4 + Int32.ofInt 1)] [] M L Q)
            exact ih v2 v3 (v4 + Int32.ofInt 1) M L hP
          · have hP := hP.1 c_11
            refine wp_seg (pc' := 81) [.iload 3, .iconst 1, .aload 0, .getfield 386, .iload 4, .iaload] (by decide +kernel) (show aok 40 0 v4 ∧ Wp E d 45 81 [.ref 37, .ref 4, .int v2, .int v3, .int v4] [.int (M 40 v4.toNatClampNeg), .int (Int32.ofInt 1), .int v3] M L Q from ⟨⟨rfl, a_8⟩, ?_⟩)
            obtain ⟨a_12, hP⟩ := hP
            refine wp_seg (pc' := 92) [.ishl, .iconst 1, .aload 0, .getfield 386, .iload 4, .iconst 1, .iadd, .iaload] (by decide +kernel) (show aok 40 0 (v4 + (Int32.ofInt 1)) ∧ Wp E d 45 92 [.ref 37, .ref 4, .int v2, .int v3, .int v4] [.int (M 40 ((v4 + (Int32.ofInt 1)).toNatClampNeg)), .int (Int32.ofInt 1), .int ((Int32.ofInt 1) <<< ((M 40 v4.toNatClampNeg) &&& 31)), .int v3] M L Q from ⟨⟨rfl, a_12⟩, ?_⟩)
            refine wp_seg (pc' := 15) [.ishl, .ior, .ior, .istore 3, .iinc 4 1, .goto 0] (by decide +kernel) (?_ : Wp E d 45 15 [.ref 37, .ref 4, .int v2, .int (v3 ||| (((Int32.ofInt 1) <<< ((M 40 v4.toNatClampNeg) &&& 31)) ||| ((Int32.ofInt 1) <<< ((M 40 ((v4 + (Int32.ofInt 1)).toNatClampNeg)) &&& 31)))), .int (v4 + Int32.ofInt 1)] [] M L Q)
            exact ih v2 (v3 ||| (((Int32.ofInt 1) <<< ((M 40 v4.toNatClampNeg) &&& 31)) ||| ((Int32.ofInt 1) <<< ((M 40 ((v4 + (Int32.ofInt 1)).toNatClampNeg)) &&& 31)))) (v4 + Int32.ofInt 1) M L hP
        · have hP := hP.1 c_9
          refine wp_seg (pc' := 52) [.iload 3, .iconst 1, .aload 0, .getfield 386, .iload 4, .iaload] (by decide +kernel) (show aok 40 0 v4 ∧ Wp E d 45 52 [.ref 37, .ref 4, .int v2, .int v3, .int v4] [.int (M 40 v4.toNatClampNeg), .int (Int32.ofInt 1), .int v3] M L Q from ⟨⟨rfl, a_8⟩, ?_⟩)
          refine wp_seg (pc' := 66) [.ishl, .ior, .istore 3, .aload 1, .getfield 130, .aload 0, .getfield 385, .iload 4, .iaload] (by decide +kernel) (show aok 39 0 v4 ∧ Wp E d 45 66 [.ref 37, .ref 4, .int v2, .int (v3 ||| ((Int32.ofInt 1) <<< ((M 40 v4.toNatClampNeg) &&& 31))), .int v4] [.int (M 39 v4.toNatClampNeg), .ref 7] M L Q from ⟨⟨rfl, a_8⟩, ?_⟩)
          obtain ⟨a_13, hP⟩ := hP
          refine wp_seg (pc' := 67) [.iaload] (by decide +kernel) (show aok 7 0 (M 39 v4.toNatClampNeg) ∧ Wp E d 45 67 [.ref 37, .ref 4, .int v2, .int (v3 ||| ((Int32.ofInt 1) <<< ((M 40 v4.toNatClampNeg) &&& 31))), .int v4] [.int (M 7 ((M 39 v4.toNatClampNeg).toNatClampNeg))] M L Q from ⟨⟨rfl, a_13⟩, ?_⟩)
          refine wp_seg (pc' := 69) [.iconst 126] (by decide +kernel) (?_ : Wp E d 45 69 [.ref 37, .ref 4, .int v2, .int (v3 ||| ((Int32.ofInt 1) <<< ((M 40 v4.toNatClampNeg) &&& 31))), .int v4] [.int (Int32.ofInt 126), .int (M 7 ((M 39 v4.toNatClampNeg).toNatClampNeg))] M L Q)
          refine wp_icmpne (off := 27) 96 (by decide +kernel) (by decide) (fun c_14 => ?_) (fun c_14 => ?_)
          · have hP := hP.2 c_14
            refine wp_seg (pc' := 15) [.iinc 4 1, .goto 0] (by decide +kernel) (?_ : Wp E d 45 15 [.ref 37, .ref 4, .int v2, .int (v3 ||| ((Int32.ofInt 1) <<< ((M 40 v4.toNatClampNeg) &&& 31))), .int (v4 + Int32.ofInt 1)] [] M L Q)
            exact ih v2 (v3 ||| ((Int32.ofInt 1) <<< ((M 40 v4.toNatClampNeg) &&& 31))) (v4 + Int32.ofInt 1) M L hP
          · have hP := hP.1 c_14
            refine wp_seg (pc' := 81) [.iload 3, .iconst 1, .aload 0, .getfield 386, .iload 4, .iaload] (by decide +kernel) (show aok 40 0 v4 ∧ Wp E d 45 81 [.ref 37, .ref 4, .int v2, .int (v3 ||| ((Int32.ofInt 1) <<< ((M 40 v4.toNatClampNeg) &&& 31))), .int v4] [.int (M 40 v4.toNatClampNeg), .int (Int32.ofInt 1), .int (v3 ||| ((Int32.ofInt 1) <<< ((M 40 v4.toNatClampNeg) &&& 31)))] M L Q from ⟨⟨rfl, a_8⟩, ?_⟩)
            obtain ⟨a_15, hP⟩ := hP
            refine wp_seg (pc' := 92) [.ishl, .iconst 1, .aload 0, .getfield 386, .iload 4, .iconst 1, .iadd, .iaload] (by decide +kernel) (show aok 40 0 (v4 + (Int32.ofInt 1)) ∧ Wp E d 45 92 [.ref 37, .ref 4, .int v2, .int (v3 ||| ((Int32.ofInt 1) <<< ((M 40 v4.toNatClampNeg) &&& 31))), .int v4] [.int (M 40 ((v4 + (Int32.ofInt 1)).toNatClampNeg)), .int (Int32.ofInt 1), .int ((Int32.ofInt 1) <<< ((M 40 v4.toNatClampNeg) &&& 31)), .int (v3 ||| ((Int32.ofInt 1) <<< ((M 40 v4.toNatClampNeg) &&& 31)))] M L Q from ⟨⟨rfl, a_15⟩, ?_⟩)
            refine wp_seg (pc' := 15) [.ishl, .ior, .ior, .istore 3, .iinc 4 1, .goto 0] (by decide +kernel) (?_ : Wp E d 45 15 [.ref 37, .ref 4, .int v2, .int ((v3 ||| ((Int32.ofInt 1) <<< ((M 40 v4.toNatClampNeg) &&& 31))) ||| (((Int32.ofInt 1) <<< ((M 40 v4.toNatClampNeg) &&& 31)) ||| ((Int32.ofInt 1) <<< ((M 40 ((v4 + (Int32.ofInt 1)).toNatClampNeg)) &&& 31)))), .int (v4 + Int32.ofInt 1)] [] M L Q)
            exact ih v2 ((v3 ||| ((Int32.ofInt 1) <<< ((M 40 v4.toNatClampNeg) &&& 31))) ||| (((Int32.ofInt 1) <<< ((M 40 v4.toNatClampNeg) &&& 31)) ||| ((Int32.ofInt 1) <<< ((M 40 ((v4 + (Int32.ofInt 1)).toNatClampNeg)) &&& 31)))) (v4 + Int32.ofInt 1) M L hP
def P_X6_hearers (x2 : Int32) (M : Mem) (L : LMem) (K : Int32 → Mem → LMem → Prop) : Prop := (vp_in (M 37 3) 8 ∧ PL_X6_hearers_15 K 100000 x2 ((Int32.ofInt 1) <<< ((M 40 ((M 37 3).toNatClampNeg)) &&& 31)) (Int32.ofInt 0) M L)
theorem t_X6_hearers {E : VE} {d : Nat} {Q : QQ} {K : Int32 → Mem → LMem → Prop} {x2 : Int32} {M : Mem} {L : LMem} (hP : P_X6_hearers x2 M L K) (hK : ∀ (v : Int32) (M : Mem) (L : LMem), K v M L → Q (some (.int v)) M L) : Wp E d 45 0 [.ref 37, .ref 4, .int x2, .null, .null] [] M L Q := by
  unfold P_X6_hearers at hP
  obtain ⟨a_1, hP⟩ := hP
  refine wp_seg (pc' := 10) [.iconst 1, .aload 0, .getfield 386, .aload 0, .getfield 387, .iaload] (by decide +kernel) (show aok 40 0 (M 37 3) ∧ Wp E d 45 10 [.ref 37, .ref 4, .int x2, .null, .null] [.int (M 40 ((M 37 3).toNatClampNeg)), .int (Int32.ofInt 1)] M L Q from ⟨⟨rfl, a_1⟩, ?_⟩)
  refine wp_seg (pc' := 15) [.ishl, .istore 3, .iconst 0, .istore 4] (by decide +kernel) (?_ : Wp E d 45 15 [.ref 37, .ref 4, .int x2, .int ((Int32.ofInt 1) <<< ((M 40 ((M 37 3).toNatClampNeg)) &&& 31)), .int (Int32.ofInt 0)] [] M L Q)
  exact tl_X6_hearers_15 hK 100000 x2 ((Int32.ofInt 1) <<< ((M 40 ((M 37 3).toNatClampNeg)) &&& 31)) (Int32.ofInt 0) M L hP
