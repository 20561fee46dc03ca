def P_X9_say (x1 : Int32) (M : Mem) (L : LMem) (K : Int32 → Mem → LMem → Prop) : Prop := ((x1 < (Int32.ofInt 33) → K (Int32.ofInt (-2)) M L) ∧ (¬ (x1 < (Int32.ofInt 33)) → ((x1 ≤ (Int32.ofInt 126) → (((M 1 1) < (Int32.ofInt 60) → vp_in (M 1 1) 60) ∧ (((f_X5_add M x1) = 0 → K (Int32.ofInt (-4)) (g_X5_add M x1) L) ∧ (¬ ((f_X5_add M x1) = 0) → K ((g_X5_add M x1) 1 1) (g_X5_add M x1) L)))) ∧ (¬ (x1 ≤ (Int32.ofInt 126)) → K (Int32.ofInt (-2)) M L))))
theorem t_X9_say {E : VE} {d : Nat} {Q : QQ} {K : Int32 → Mem → LMem → Prop} {x1 : Int32} {M : Mem} {L : LMem} (hP : P_X9_say x1 M L K) (hK : ∀ (v : Int32) (M : Mem) (L : LMem), K v M L → Q (some (.int v)) M L) : Wp E (d + 1) 60 0 [.ref 0, .int x1] [] M L Q := by
  unfold P_X9_say at hP
  refine wp_seg (pc' := 3) [.iload 1, .iconst 33] (by decide +kernel) (?_ : Wp E (d + 1) 60 3 [.ref 0, .int x1] [.int (Int32.ofInt 33), .int x1] M L Q)
  refine wp_icmplt (off := 9) 12 (by decide +kernel) (by decide) (fun c_1 => ?_) (fun c_1 => ?_)
  · have hP := hP.1 c_1
    refine wp_seg (pc' := 14) [.iconst (-2)] (by decide +kernel) (?_ : Wp E (d + 1) 60 14 [.ref 0, .int x1] [.int (Int32.ofInt (-2))] M L Q)
    exact wp_iret (by decide +kernel) rfl (hK _ _ _ hP)
  · have hP := hP.2 c_1
    refine wp_seg (pc' := 9) [.iload 1, .iconst 126] (by decide +kernel) (?_ : Wp E (d + 1) 60 9 [.ref 0, .int x1] [.int (Int32.ofInt 126), .int x1] M L Q)
    refine wp_icmple (off := 6) 15 (by decide +kernel) (by decide) (fun c_2 => ?_) (fun c_2 => ?_)
    · have hP := hP.1 c_2
      refine wp_seg (pc' := 20) [.aload 0, .getfield 576, .iload 1] (by decide +kernel) (?_ : Wp E (d + 1) 60 20 [.ref 0, .int x1] [.int x1, .ref 1] M L Q)
      refine wp_callV 27 1 [.int x1] (i := 78) (by decide +kernel) (by decide +kernel) (by decide +kernel) (by decide +kernel) rfl rfl rfl (rest := []) rfl rfl ?_
      obtain ⟨a_3, hP⟩ := hP
      refine s_X5_add M x1 a_3 ?_
      show Wp E (d + 1) 60 23 [.ref 0, .int x1] [.int (f_X5_add M x1)] (g_X5_add M x1) L Q
      refine wp_ifeq (off := 13) 36 (by decide +kernel) (by decide) (fun c_4 => ?_) (fun c_4 => ?_)
      · have hP := hP.1 c_4
        refine wp_seg (pc' := 38) [.iconst (-4)] (by decide +kernel) (?_ : Wp E (d + 1) 60 38 [.ref 0, .int x1] [.int (Int32.ofInt (-4))] (g_X5_add M x1) L Q)
        exact wp_iret (by decide +kernel) rfl (hK _ _ _ hP)
      · have hP := hP.2 c_4
        refine wp_seg (pc' := 38) [.aload 0, .getfield 576, .getfield 321, .goto 0] (by decide +kernel) (?_ : Wp E (d + 1) 60 38 [.ref 0, .int x1] [.int ((g_X5_add M x1) 1 1)] (g_X5_add M x1) L Q)
        exact wp_iret (by decide +kernel) rfl (hK _ _ _ hP)
    · have hP := hP.2 c_2
      refine wp_seg (pc' := 14) [.iconst (-2)] (by decide +kernel) (?_ : Wp E (d + 1) 60 14 [.ref 0, .int x1] [.int (Int32.ofInt (-2))] M L Q)
      exact wp_iret (by decide +kernel) rfl (hK _ _ _ hP)

def P_X9_wipe (M : Mem) (L : LMem) (K : Int32 → Mem → LMem → Prop) : Prop := K (f_X5_empty M) (g_X5_empty M) L
theorem t_X9_wipe {E : VE} {d : Nat} {Q : QQ} {K : Int32 → Mem → LMem → Prop} {M : Mem} {L : LMem} (hP : P_X9_wipe M L K) (hK : ∀ (v : Int32) (M : Mem) (L : LMem), K v M L → Q (some (.int v)) M L) : Wp E (d + 1) 61 0 [.ref 0] [] M L Q := by
  unfold P_X9_wipe at hP
  refine wp_seg (pc' := 4) [.aload 0, .getfield 576] (by decide +kernel) (?_ : Wp E (d + 1) 61 4 [.ref 0] [.ref 1] M L Q)
  refine wp_callV 28 1 [] (i := 86) (by decide +kernel) (by decide +kernel) (by decide +kernel) (by decide +kernel) rfl rfl rfl (rest := []) rfl rfl ?_
  refine s_X5_empty M  ?_
  show Wp E (d + 1) 61 7 [.ref 0] [.int (f_X5_empty M)] (g_X5_empty M) L Q
  exact wp_iret (by decide +kernel) rfl (hK _ _ _ hP)

def P_X9_set (x1 : Int32) (x2 : Int32) (M : Mem) (L : LMem) (K : Int32 → Mem → LMem → Prop) : Prop := ((x1 = 0 → (((f_X9_within M x2 (Int32.ofInt 1) (Int32.ofInt 60)) = 0 → ((x1 = (Int32.ofInt 1) → (((f_X9_within M x2 (Int32.ofInt 0) (Int32.ofInt 255)) = 0 → K (Int32.ofInt (-2)) M L) ∧ (¬ ((f_X9_within M x2 (Int32.ofInt 0) (Int32.ofInt 255)) = 0) → K (M 3 2) (mput M 3 2 x2) L))) ∧ (¬ (x1 = (Int32.ofInt 1)) → K (Int32.ofInt (-2)) M L))) ∧ (¬ ((f_X9_within M x2 (Int32.ofInt 1) (Int32.ofInt 60)) = 0) → K (M 3 1) (mput M 3 1 x2) L))) ∧ (¬ (x1 = 0) → ((x1 = (Int32.ofInt 1) → (((f_X9_within M x2 (Int32.ofInt 0) (Int32.ofInt 255)) = 0 → K (Int32.ofInt (-2)) M L) ∧ (¬ ((f_X9_within M x2 (Int32.ofInt 0) (Int32.ofInt 255)) = 0) → K (M 3 2) (mput M 3 2 x2) L))) ∧ (¬ (x1 = (Int32.ofInt 1)) → K (Int32.ofInt (-2)) M L))))
theorem t_X9_set {E : VE} {d : Nat} {Q : QQ} {K : Int32 → Mem → LMem → Prop} {x1 : Int32} {x2 : Int32} {M : Mem} {L : LMem} (hP : P_X9_set x1 x2 M L K) (hK : ∀ (v : Int32) (M : Mem) (L : LMem), K v M L → Q (some (.int v)) M L) : Wp E (d + 1) 64 0 [.ref 0, .int x1, .int x2, .null] [] M L Q := by
  unfold P_X9_set at hP
  refine wp_seg (pc' := 1) [.iload 1] (by decide +kernel) (?_ : Wp E (d + 1) 64 1 [.ref 0, .int x1, .int x2, .null] [.int x1] M L Q)
  refine wp_ifne (off := 31) 32 (by decide +kernel) (by decide) (fun c_1 => ?_) (fun c_1 => ?_)
  · have hP := hP.2 c_1
    refine wp_seg (pc' := 34) [.iload 1, .iconst 1] (by decide +kernel) (?_ : Wp E (d + 1) 64 34 [.ref 0, .int x1, .int x2, .null] [.int (Int32.ofInt 1), .int x1] M L Q)
    refine wp_icmpne (off := 32) 66 (by decide +kernel) (by decide) (fun c_2 => ?_) (fun c_2 => ?_)
    · have hP := hP.2 c_2
      refine wp_seg (pc' := 68) [.iconst (-2)] (by decide +kernel) (?_ : Wp E (d + 1) 64 68 [.ref 0, .int x1, .int x2, .null] [.int (Int32.ofInt (-2))] M L Q)
      exact wp_iret (by decide +kernel) rfl (hK _ _ _ hP)
    · have hP := hP.1 c_2
      refine wp_seg (pc' := 42) [.iload 2, .iconst 0, .iconst 255] (by decide +kernel) (?_ : Wp E (d + 1) 64 42 [.ref 0, .int x1, .int x2, .null] [.int (Int32.ofInt 255), .int (Int32.ofInt 0), .int x2] M L Q)
      refine wp_callS 83 [.int x2, .int (Int32.ofInt 0), .int (Int32.ofInt 255)] (i := 126) (by decide +kernel) (by decide +kernel) (by decide +kernel) rfl rfl rfl (rest := []) rfl rfl ?_
      refine s_X9_within M x2 (Int32.ofInt 0) (Int32.ofInt 255)  ?_
      show Wp E (d + 1) 64 45 [.ref 0, .int x1, .int x2, .null] [.int (f_X9_within M x2 (Int32.ofInt 0) (Int32.ofInt 255))] M L Q
      refine wp_ifeq (off := 21) 66 (by decide +kernel) (by decide) (fun c_3 => ?_) (fun c_3 => ?_)
      · have hP := hP.1 c_3
        refine wp_seg (pc' := 68) [.iconst (-2)] (by decide +kernel) (?_ : Wp E (d + 1) 64 68 [.ref 0, .int x1, .int x2, .null] [.int (Int32.ofInt (-2))] M L Q)
        exact wp_iret (by decide +kernel) rfl (hK _ _ _ hP)
      · have hP := hP.2 c_3
        refine wp_seg (pc' := 65) [.aload 0, .getfield 577, .getfield 194, .istore 3, .aload 0, .getfield 577, .iload 2, .putfield 194, .iload 3] (by decide +kernel) (?_ : Wp E (d + 1) 64 65 [.ref 0, .int x1, .int x2, .int (M 3 2)] [.int (M 3 2)] (mput M 3 2 x2) L Q)
        exact wp_iret (by decide +kernel) rfl (hK _ _ _ hP)
  · have hP := hP.1 c_1
    refine wp_seg (pc' := 8) [.iload 2, .iconst 1, .iconst 60] (by decide +kernel) (?_ : Wp E (d + 1) 64 8 [.ref 0, .int x1, .int x2, .null] [.int (Int32.ofInt 60), .int (Int32.ofInt 1), .int x2] M L Q)
    refine wp_callS 83 [.int x2, .int (Int32.ofInt 1), .int (Int32.ofInt 60)] (i := 126) (by decide +kernel) (by decide +kernel) (by decide +kernel) rfl rfl rfl (rest := []) rfl rfl ?_
    refine s_X9_within M x2 (Int32.ofInt 1) (Int32.ofInt 60)  ?_
    show Wp E (d + 1) 64 11 [.ref 0, .int x1, .int x2, .null] [.int (f_X9_within M x2 (Int32.ofInt 1) (Int32.ofInt 60))] M L Q
    refine wp_ifeq (off := 21) 32 (by decide +kernel) (by decide) (fun c_4 => ?_) (fun c_4 => ?_)
    · have hP := hP.1 c_4
      refine wp_seg (pc' := 34) [.iload 1, .iconst 1] (by decide +kernel) (?_ : Wp E (d + 1) 64 34 [.ref 0, .int x1, .int x2, .null] [.int (Int32.ofInt 1), .int x1] M L Q)
      refine wp_icmpne (off := 32) 66 (by decide +kernel) (by decide) (fun c_5 => ?_) (fun c_5 => ?_)
      · have hP := hP.2 c_5
        refine wp_seg (pc' := 68) [.iconst (-2)] (by decide +kernel) (?_ : Wp E (d + 1) 64 68 [.ref 0, .int x1, .int x2, .null] [.int (Int32.ofInt (-2))] M L Q)
        exact wp_iret (by decide +kernel) rfl (hK _ _ _ hP)
      · have hP := hP.1 c_5
        refine wp_seg (pc' := 42) [.iload 2, .iconst 0, .iconst 255] (by decide +kernel) (?_ : Wp E (d + 1) 64 42 [.ref 0, .int x1, .int x2, .null] [.int (Int32.ofInt 255), .int (Int32.ofInt 0), .int x2] M L Q)
        refine wp_callS 83 [.int x2, .int (Int32.ofInt 0), .int (Int32.ofInt 255)] (i := 126) (by decide +kernel) (by decide +kernel) (by decide +kernel) rfl rfl rfl (rest := []) rfl rfl ?_
        refine s_X9_within M x2 (Int32.ofInt 0) (Int32.ofInt 255)  ?_
        show Wp E (d + 1) 64 45 [.ref 0, .int x1, .int x2, .null] [.int (f_X9_within M x2 (Int32.ofInt 0) (Int32.ofInt 255))] M L Q
        refine wp_ifeq (off := 21) 66 (by decide +kernel) (by decide) (fun c_6 => ?_) (fun c_6 => ?_)
        · have hP := hP.1 c_6
          refine wp_seg (pc' := 68) [.iconst (-2)] (by decide +kernel) (?_ : Wp E (d + 1) 64 68 [.ref 0, .int x1, .int x2, .null] [.int (Int32.ofInt (-2))] M L Q)
          exact wp_iret (by decide +kernel) rfl (hK _ _ _ hP)
        · have hP := hP.2 c_6
          refine wp_seg (pc' := 65) [.aload 0, .getfield 577, .getfield 194, .istore 3, .aload 0, .getfield 577, .iload 2, .putfield 194, .iload 3] (by decide +kernel) (?_ : Wp E (d + 1) 64 65 [.ref 0, .int x1, .int x2, .int (M 3 2)] [.int (M 3 2)] (mput M 3 2 x2) L Q)
          exact wp_iret (by decide +kernel) rfl (hK _ _ _ hP)
    · have hP := hP.2 c_4
      refine wp_seg (pc' := 31) [.aload 0, .getfield 577, .getfield 193, .istore 3, .aload 0, .getfield 577, .iload 2, .putfield 193, .iload 3] (by decide +kernel) (?_ : Wp E (d + 1) 64 31 [.ref 0, .int x1, .int x2, .int (M 3 1)] [.int (M 3 1)] (mput M 3 1 x2) L Q)
      exact wp_iret (by decide +kernel) rfl (hK _ _ _ hP)

def P_X9_know (x1 : Int32) (x2 : Int32) (M : Mem) (L : LMem) (K : Int32 → Mem → LMem → Prop) : Prop := (((f_X9_isRoom M x1) = 0 → K (Int32.ofInt (-1)) M L) ∧ (¬ ((f_X9_isRoom M x1) = 0) → (((f_X9_within M x2 (Int32.ofInt 0) (Int32.ofInt 255)) = 0 → K (Int32.ofInt (-2)) M L) ∧ (¬ ((f_X9_within M x2 (Int32.ofInt 0) (Int32.ofInt 255)) = 0) → (vp_in x1 8 ∧ K (M 9 x1.toNatClampNeg) (mput M 9 x1.toNatClampNeg x2) L)))))
theorem t_X9_know {E : VE} {d : Nat} {Q : QQ} {K : Int32 → Mem → LMem → Prop} {x1 : Int32} {x2 : Int32} {M : Mem} {L : LMem} (hP : P_X9_know x1 x2 M L K) (hK : ∀ (v : Int32) (M : Mem) (L : LMem), K v M L → Q (some (.int v)) M L) : Wp E (d + 2) 70 0 [.ref 0, .int x1, .int x2, .null] [] M L Q := by
  unfold P_X9_know at hP
  refine wp_seg (pc' := 1) [.iload 1] (by decide +kernel) (?_ : Wp E (d + 2) 70 1 [.ref 0, .int x1, .int x2, .null] [.int x1] M L Q)
  refine wp_callS 84 [.int x1] (i := 150) (by decide +kernel) (by decide +kernel) (by decide +kernel) rfl rfl rfl (rest := []) rfl rfl ?_
  refine s_X9_isRoom M x1  ?_
  show Wp E (d + 2) 70 4 [.ref 0, .int x1, .int x2, .null] [.int (f_X9_isRoom M x1)] M L Q
  refine wp_ifne (off := 5) 9 (by decide +kernel) (by decide) (fun c_1 => ?_) (fun c_1 => ?_)
  · have hP := hP.2 c_1
    refine wp_seg (pc' := 14) [.iload 2, .iconst 0, .iconst 255] (by decide +kernel) (?_ : Wp E (d + 2) 70 14 [.ref 0, .int x1, .int x2, .null] [.int (Int32.ofInt 255), .int (Int32.ofInt 0), .int x2] M L Q)
    refine wp_callS 83 [.int x2, .int (Int32.ofInt 0), .int (Int32.ofInt 255)] (i := 126) (by decide +kernel) (by decide +kernel) (by decide +kernel) rfl rfl rfl (rest := []) rfl rfl ?_
    refine s_X9_within M x2 (Int32.ofInt 0) (Int32.ofInt 255)  ?_
    show Wp E (d + 2) 70 17 [.ref 0, .int x1, .int x2, .null] [.int (f_X9_within M x2 (Int32.ofInt 0) (Int32.ofInt 255))] M L Q
    refine wp_ifne (off := 6) 23 (by decide +kernel) (by decide) (fun c_2 => ?_) (fun c_2 => ?_)
    · have hP := hP.2 c_2
      obtain ⟨a_3, hP⟩ := hP
      refine wp_seg (pc' := 32) [.aload 0, .getfield 577, .getfield 195, .iload 1, .iaload] (by decide +kernel) (show aok 9 0 x1 ∧ Wp E (d + 2) 70 32 [.ref 0, .int x1, .int x2, .null] [.int (M 9 x1.toNatClampNeg)] M L Q from ⟨⟨rfl, a_3⟩, ?_⟩)
      refine wp_seg (pc' := 43) [.istore 3, .aload 0, .getfield 577, .getfield 195, .iload 1, .iload 2, .iastore] (by decide +kernel) (show aok 9 0 x1 ∧ Wp E (d + 2) 70 43 [.ref 0, .int x1, .int x2, .int (M 9 x1.toNatClampNeg)] [] (mput M 9 x1.toNatClampNeg x2) L Q from ⟨⟨rfl, a_3⟩, ?_⟩)
      refine wp_seg (pc' := 44) [.iload 3] (by decide +kernel) (?_ : Wp E (d + 2) 70 44 [.ref 0, .int x1, .int x2, .int (M 9 x1.toNatClampNeg)] [.int (M 9 x1.toNatClampNeg)] (mput M 9 x1.toNatClampNeg x2) L Q)
      exact wp_iret (by decide +kernel) rfl (hK _ _ _ hP)
    · have hP := hP.1 c_2
      refine wp_seg (pc' := 22) [.iconst (-2)] (by decide +kernel) (?_ : Wp E (d + 2) 70 22 [.ref 0, .int x1, .int x2, .null] [.int (Int32.ofInt (-2))] M L Q)
      exact wp_iret (by decide +kernel) rfl (hK _ _ _ hP)
  · have hP := hP.1 c_1
    refine wp_seg (pc' := 8) [.iconst (-1)] (by decide +kernel) (?_ : Wp E (d + 2) 70 8 [.ref 0, .int x1, .int x2, .null] [.int (Int32.ofInt (-1))] M L Q)
    exact wp_iret (by decide +kernel) rfl (hK _ _ _ hP)

def P_X9_call (x1 : Int32) (x2 : Int32) (x3 : Int32) (x4 : Int32) (M : Mem) (L : LMem) (K : Int32 → Mem → LMem → Prop) : Prop := (((f_X9_twoRooms M x1 x2) = 0 → K (Int32.ofInt (-1)) M L) ∧ (¬ ((f_X9_twoRooms M x1 x2) = 0) → (((f_X9_within M x3 (Int32.ofInt 1) (Int32.ofInt 9)) = 0 → K (Int32.ofInt (-2)) M L) ∧ (¬ ((f_X9_within M x3 (Int32.ofInt 1) (Int32.ofInt 9)) = 0) → (((f_X9_within M x4 (Int32.ofInt 1) (Int32.ofInt 60)) = 0 → K (Int32.ofInt (-2)) M L) ∧ (¬ ((f_X9_within M x4 (Int32.ofInt 1) (Int32.ofInt 60)) = 0) → (((M 3 8) < (Int32.ofInt 5) → vp_in (M 3 8) 5) ∧ (((f_X3_addWaiting M x1 x2 x3 x4) = 0 → K (Int32.ofInt (-4)) (g_X3_addWaiting M x1 x2 x3 x4) L) ∧ (¬ ((f_X3_addWaiting M x1 x2 x3 x4) = 0) → K (((g_X3_addWaiting M x1 x2 x3 x4) 3 8) - (Int32.ofInt 1)) (g_X3_addWaiting M x1 x2 x3 x4) L)))))))))
theorem t_X9_call {E : VE} {d : Nat} {Q : QQ} {K : Int32 → Mem → LMem → Prop} {x1 : Int32} {x2 : Int32} {x3 : Int32} {x4 : Int32} {M : Mem} {L : LMem} (hP : P_X9_call x1 x2 x3 x4 M L K) (hK : ∀ (v : Int32) (M : Mem) (L : LMem), K v M L → Q (some (.int v)) M L) : Wp E (d + 3) 72 0 [.ref 0, .int x1, .int x2, .int x3, .int x4] [] M L Q := by
  unfold P_X9_call at hP
  refine wp_seg (pc' := 2) [.iload 1, .iload 2] (by decide +kernel) (?_ : Wp E (d + 3) 72 2 [.ref 0, .int x1, .int x2, .int x3, .int x4] [.int x2, .int x1] M L Q)
  refine wp_callS 85 [.int x1, .int x2] (i := 136) (by decide +kernel) (by decide +kernel) (by decide +kernel) rfl rfl rfl (rest := []) rfl rfl ?_
  refine s_X9_twoRooms M x1 x2  ?_
  show Wp E (d + 3) 72 5 [.ref 0, .int x1, .int x2, .int x3, .int x4] [.int (f_X9_twoRooms M x1 x2)] M L Q
  refine wp_ifne (off := 5) 10 (by decide +kernel) (by decide) (fun c_1 => ?_) (fun c_1 => ?_)
  · have hP := hP.2 c_1
    refine wp_seg (pc' := 14) [.iload 3, .iconst 1, .iconst 9] (by decide +kernel) (?_ : Wp E (d + 3) 72 14 [.ref 0, .int x1, .int x2, .int x3, .int x4] [.int (Int32.ofInt 9), .int (Int32.ofInt 1), .int x3] M L Q)
    refine wp_callS 83 [.int x3, .int (Int32.ofInt 1), .int (Int32.ofInt 9)] (i := 126) (by decide +kernel) (by decide +kernel) (by decide +kernel) rfl rfl rfl (rest := []) rfl rfl ?_
    refine s_X9_within M x3 (Int32.ofInt 1) (Int32.ofInt 9)  ?_
    show Wp E (d + 3) 72 17 [.ref 0, .int x1, .int x2, .int x3, .int x4] [.int (f_X9_within M x3 (Int32.ofInt 1) (Int32.ofInt 9))] M L Q
    refine wp_ifeq (off := 14) 31 (by decide +kernel) (by decide) (fun c_2 => ?_) (fun c_2 => ?_)
    · have hP := hP.1 c_2
      refine wp_seg (pc' := 33) [.iconst (-2)] (by decide +kernel) (?_ : Wp E (d + 3) 72 33 [.ref 0, .int x1, .int x2, .int x3, .int x4] [.int (Int32.ofInt (-2))] M L Q)
      exact wp_iret (by decide +kernel) rfl (hK _ _ _ hP)
    · have hP := hP.2 c_2
      refine wp_seg (pc' := 25) [.iload 4, .iconst 1, .iconst 60] (by decide +kernel) (?_ : Wp E (d + 3) 72 25 [.ref 0, .int x1, .int x2, .int x3, .int x4] [.int (Int32.ofInt 60), .int (Int32.ofInt 1), .int x4] M L Q)
      refine wp_callS 83 [.int x4, .int (Int32.ofInt 1), .int (Int32.ofInt 60)] (i := 126) (by decide +kernel) (by decide +kernel) (by decide +kernel) rfl rfl rfl (rest := []) rfl rfl ?_
      refine s_X9_within M x4 (Int32.ofInt 1) (Int32.ofInt 60)  ?_
      show Wp E (d + 3) 72 28 [.ref 0, .int x1, .int x2, .int x3, .int x4] [.int (f_X9_within M x4 (Int32.ofInt 1) (Int32.ofInt 60))] M L Q
      refine wp_ifne (off := 6) 34 (by decide +kernel) (by decide) (fun c_3 => ?_) (fun c_3 => ?_)
      · have hP := hP.2 c_3
        refine wp_seg (pc' := 43) [.aload 0, .getfield 577, .iload 1, .iload 2, .iload 3, .iload 4] (by decide +kernel) (?_ : Wp E (d + 3) 72 43 [.ref 0, .int x1, .int x2, .int x3, .int x4] [.int x4, .int x3, .int x2, .int x1, .ref 3] M L Q)
        refine wp_callV 16 3 [.int x1, .int x2, .int x3, .int x4] (i := 186) (by decide +kernel) (by decide +kernel) (by decide +kernel) (by decide +kernel) rfl rfl rfl (rest := []) rfl rfl ?_
        obtain ⟨a_4, hP⟩ := hP
        refine s_X3_addWaiting M x1 x2 x3 x4 a_4 ?_
        show Wp E (d + 3) 72 46 [.ref 0, .int x1, .int x2, .int x3, .int x4] [.int (f_X3_addWaiting M x1 x2 x3 x4)] (g_X3_addWaiting M x1 x2 x3 x4) L Q
        refine wp_ifeq (off := 15) 61 (by decide +kernel) (by decide) (fun c_5 => ?_) (fun c_5 => ?_)
        · have hP := hP.1 c_5
          refine wp_seg (pc' := 63) [.iconst (-4)] (by decide +kernel) (?_ : Wp E (d + 3) 72 63 [.ref 0, .int x1, .int x2, .int x3, .int x4] [.int (Int32.ofInt (-4))] (g_X3_addWaiting M x1 x2 x3 x4) L Q)
          exact wp_iret (by decide +kernel) rfl (hK _ _ _ hP)
        · have hP := hP.2 c_5
          refine wp_seg (pc' := 63) [.aload 0, .getfield 577, .getfield 200, .iconst 1, .isub, .goto 0] (by decide +kernel) (?_ : Wp E (d + 3) 72 63 [.ref 0, .int x1, .int x2, .int x3, .int x4] [.int (((g_X3_addWaiting M x1 x2 x3 x4) 3 8) - (Int32.ofInt 1))] (g_X3_addWaiting M x1 x2 x3 x4) L Q)
          exact wp_iret (by decide +kernel) rfl (hK _ _ _ hP)
      · have hP := hP.1 c_3
        refine wp_seg (pc' := 33) [.iconst (-2)] (by decide +kernel) (?_ : Wp E (d + 3) 72 33 [.ref 0, .int x1, .int x2, .int x3, .int x4] [.int (Int32.ofInt (-2))] M L Q)
        exact wp_iret (by decide +kernel) rfl (hK _ _ _ hP)
  · have hP := hP.1 c_1
    refine wp_seg (pc' := 9) [.iconst (-1)] (by decide +kernel) (?_ : Wp E (d + 3) 72 9 [.ref 0, .int x1, .int x2, .int x3, .int x4] [.int (Int32.ofInt (-1))] M L Q)
    exact wp_iret (by decide +kernel) rfl (hK _ _ _ hP)

def P_X9_clear (M : Mem) (L : LMem) (K : Int32 → Mem → LMem → Prop) : Prop := K (M 3 8) (mput M 3 8 (Int32.ofInt 0)) L
theorem t_X9_clear {E : VE} {d : Nat} {Q : QQ} {K : Int32 → Mem → LMem → Prop} {M : Mem} {L : LMem} (hP : P_X9_clear M L K) (hK : ∀ (v : Int32) (M : Mem) (L : LMem), K v M L → Q (some (.int v)) M L) : Wp E d 73 0 [.ref 0, .null] [] M L Q := by
  unfold P_X9_clear at hP
  refine wp_seg (pc' := 17) [.aload 0, .getfield 577, .getfield 200, .istore 1, .aload 0, .getfield 577, .iconst 0, .putfield 200, .iload 1] (by decide +kernel) (?_ : Wp E d 73 17 [.ref 0, .int (M 3 8)] [.int (M 3 8)] (mput M 3 8 (Int32.ofInt 0)) L Q)
  exact wp_iret (by decide +kernel) rfl (hK _ _ _ hP)
