def P_X9_say (x1 : Int32) (M : Mem) (L : LMem) (K : Int32 → Mem → LMem → Prop) : Prop := ((x1 < (Int32.ofInt 33) → K (Int32.ofInt (-2)) M L) ∧ (¬ (x1 < (Int32.ofInt 33)) → ((x1 ≤ (Int32.ofInt 126) → (((M 1 1) < (Int32.ofInt 60) → vp_in (M 1 1) 60) ∧ (((f_X5_add M x1) = 0 → K (Int32.ofInt (-4)) (g_X5_add M x1) L) ∧ (¬ ((f_X5_add M x1) = 0) → K ((g_X5_add M x1) 1 1) (g_X5_add M x1) L)))) ∧ (¬ (x1 ≤ (Int32.ofInt 126)) → K (Int32.ofInt (-2)) M L))))
theorem t_X9_say {E : VE} {d : Nat} {Q : QQ} {K : Int32 → Mem → LMem → Prop} {x1 : Int32} {M : Mem} {L : LMem} (hP : P_X9_say x1 M L K) (hK : ∀ (v : Int32) (M : Mem) (L : LMem), K v M L → Q (some (.int v)) M L) : Wp E (d + 1) 62 0 [.ref 0, .int x1] [] M L Q := by
  unfold P_X9_say at hP
  refine wp_seg (pc' := 3) [.iload 1, .iconst 33] (by decide +kernel) (?_ : Wp E (d + 1) 62 3 [.ref 0, .int x1] [.int (Int32.ofInt 33), .int x1] M L Q)
  refine wp_icmplt (off := 9) 12 (by decide +kernel) (by decide) (fun c_1 => ?_) (fun c_1 => ?_)
  · have hP := hP.1 c_1
    refine wp_seg (pc' := 14) [.iconst (-2)] (by decide +kernel) (?_ : Wp E (d + 1) 62 14 [.ref 0, .int x1] [.int (Int32.ofInt (-2))] M L Q)
    exact wp_iret (by decide +kernel) rfl (hK _ _ _ hP)
  · have hP := hP.2 c_1
    refine wp_seg (pc' := 9) [.iload 1, .iconst 126] (by decide +kernel) (?_ : Wp E (d + 1) 62 9 [.ref 0, .int x1] [.int (Int32.ofInt 126), .int x1] M L Q)
    refine wp_icmple (off := 6) 15 (by decide +kernel) (by decide) (fun c_2 => ?_) (fun c_2 => ?_)
    · have hP := hP.1 c_2
      refine wp_seg (pc' := 20) [.aload 0, .getfield 576, .iload 1] (by decide +kernel) (?_ : Wp E (d + 1) 62 20 [.ref 0, .int x1] [.int x1, .ref 1] M L Q)
      refine wp_callV 29 1 [.int x1] (i := 78) (by decide +kernel) (by decide +kernel) (by decide +kernel) (by decide +kernel) rfl rfl rfl (rest := []) rfl rfl ?_
      obtain ⟨a_3, hP⟩ := hP
      refine s_X5_add M x1 a_3 ?_
      show Wp E (d + 1) 62 23 [.ref 0, .int x1] [.int (f_X5_add M x1)] (g_X5_add M x1) L Q
      refine wp_ifeq (off := 13) 36 (by decide +kernel) (by decide) (fun c_4 => ?_) (fun c_4 => ?_)
      · have hP := hP.1 c_4
        refine wp_seg (pc' := 38) [.iconst (-4)] (by decide +kernel) (?_ : Wp E (d + 1) 62 38 [.ref 0, .int x1] [.int (Int32.ofInt (-4))] (g_X5_add M x1) L Q)
        exact wp_iret (by decide +kernel) rfl (hK _ _ _ hP)
      · have hP := hP.2 c_4
        refine wp_seg (pc' := 38) [.aload 0, .getfield 576, .getfield 321, .goto 0] (by decide +kernel) (?_ : Wp E (d + 1) 62 38 [.ref 0, .int x1] [.int ((g_X5_add M x1) 1 1)] (g_X5_add M x1) L Q)
        exact wp_iret (by decide +kernel) rfl (hK _ _ _ hP)
    · have hP := hP.2 c_2
      refine wp_seg (pc' := 14) [.iconst (-2)] (by decide +kernel) (?_ : Wp E (d + 1) 62 14 [.ref 0, .int x1] [.int (Int32.ofInt (-2))] M L Q)
      exact wp_iret (by decide +kernel) rfl (hK _ _ _ hP)

def P_X10_say (x1 : Int32) (M : Mem) (L : LMem) (K : Int32 → Mem → LMem → Prop) : Prop := (((f_X10_in M x1.toInt64 (Int64.ofNat 33) (Int64.ofNat 126)) = 0 → K (Int32.ofInt (-2)) M L) ∧ (¬ ((f_X10_in M x1.toInt64 (Int64.ofNat 33) (Int64.ofNat 126)) = 0) → (((M 74 16) = (Int32.ofInt 60) → K (Int32.ofInt (-4)) M L) ∧ (¬ ((M 74 16) = (Int32.ofInt 60)) → (vp_in (M 74 16) 60 ∧ K ((M 74 16) + (Int32.ofInt 1)) (mput (mput M 84 ((M 74 16).toNatClampNeg) x1) 74 16 ((M 74 16) + (Int32.ofInt 1))) L)))))
theorem t_X10_say {E : VE} {d : Nat} {Q : QQ} {K : Int32 → Mem → LMem → Prop} {x1 : Int32} {M : Mem} {L : LMem} (hP : P_X10_say x1 M L K) (hK : ∀ (v : Int32) (M : Mem) (L : LMem), K v M L → Q (some (.int v)) M L) : Wp E (d + 1) 98 0 [.ref 74, .int x1] [] M L Q := by
  unfold P_X10_say at hP
  refine wp_seg (pc' := 8) [.iload 1, .i2l, .ldc2_w 33, .ldc2_w 126] (by decide +kernel) (?_ : Wp E (d + 1) 98 8 [.ref 74, .int x1] [.long (Int64.ofNat 126), .long (Int64.ofNat 33), .long x1.toInt64] M L Q)
  refine wp_callS 94 [.long x1.toInt64, .long (Int64.ofNat 33), .long (Int64.ofNat 126)] (i := 129) (by decide +kernel) (by decide +kernel) (by decide +kernel) rfl rfl rfl (rest := []) rfl rfl ?_
  refine s_X10_in M x1.toInt64 (Int64.ofNat 33) (Int64.ofNat 126)  ?_
  show Wp E (d + 1) 98 11 [.ref 74, .int x1] [.int (f_X10_in M x1.toInt64 (Int64.ofNat 33) (Int64.ofNat 126))] M L Q
  refine wp_ifne (off := 6) 17 (by decide +kernel) (by decide) (fun c_1 => ?_) (fun c_1 => ?_)
  · have hP := hP.2 c_1
    refine wp_seg (pc' := 23) [.aload 0, .getfield 656, .iconst 60] (by decide +kernel) (?_ : Wp E (d + 1) 98 23 [.ref 74, .int x1] [.int (Int32.ofInt 60), .int (M 74 16)] M L Q)
    refine wp_icmpne (off := 6) 29 (by decide +kernel) (by decide) (fun c_2 => ?_) (fun c_2 => ?_)
    · have hP := hP.2 c_2
      obtain ⟨a_3, hP⟩ := hP
      refine wp_seg (pc' := 39) [.aload 0, .getfield 655, .aload 0, .getfield 656, .iload 1, .iastore] (by decide +kernel) (show aok 84 0 (M 74 16) ∧ Wp E (d + 1) 98 39 [.ref 74, .int x1] [] (mput M 84 ((M 74 16).toNatClampNeg) x1) L Q from ⟨⟨rfl, a_3⟩, ?_⟩)
      refine wp_seg (pc' := 53) [.aload 0, .dup, .getfield 656, .iconst 1, .iadd, .putfield 656, .aload 0, .getfield 656] (by decide +kernel) (?_ : Wp E (d + 1) 98 53 [.ref 74, .int x1] [.int ((M 74 16) + (Int32.ofInt 1))] (mput (mput M 84 ((M 74 16).toNatClampNeg) x1) 74 16 ((M 74 16) + (Int32.ofInt 1))) L Q)
      exact wp_iret (by decide +kernel) rfl (hK _ _ _ hP)
    · have hP := hP.1 c_2
      refine wp_seg (pc' := 28) [.iconst (-4)] (by decide +kernel) (?_ : Wp E (d + 1) 98 28 [.ref 74, .int x1] [.int (Int32.ofInt (-4))] M L Q)
      exact wp_iret (by decide +kernel) rfl (hK _ _ _ hP)
  · have hP := hP.1 c_1
    refine wp_seg (pc' := 16) [.iconst (-2)] (by decide +kernel) (?_ : Wp E (d + 1) 98 16 [.ref 74, .int x1] [.int (Int32.ofInt (-2))] M L Q)
    exact wp_iret (by decide +kernel) rfl (hK _ _ _ hP)

def P_X9_wipe (M : Mem) (L : LMem) (K : Int32 → Mem → LMem → Prop) : Prop := K (f_X5_empty M) (g_X5_empty M) L
theorem t_X9_wipe {E : VE} {d : Nat} {Q : QQ} {K : Int32 → Mem → LMem → Prop} {M : Mem} {L : LMem} (hP : P_X9_wipe M L K) (hK : ∀ (v : Int32) (M : Mem) (L : LMem), K v M L → Q (some (.int v)) M L) : Wp E (d + 1) 63 0 [.ref 0] [] M L Q := by
  unfold P_X9_wipe at hP
  refine wp_seg (pc' := 4) [.aload 0, .getfield 576] (by decide +kernel) (?_ : Wp E (d + 1) 63 4 [.ref 0] [.ref 1] M L Q)
  refine wp_callV 30 1 [] (i := 86) (by decide +kernel) (by decide +kernel) (by decide +kernel) (by decide +kernel) rfl rfl rfl (rest := []) rfl rfl ?_
  refine s_X5_empty M  ?_
  show Wp E (d + 1) 63 7 [.ref 0] [.int (f_X5_empty M)] (g_X5_empty M) L Q
  exact wp_iret (by decide +kernel) rfl (hK _ _ _ hP)

def P_X10_wipe (M : Mem) (L : LMem) (K : Int32 → Mem → LMem → Prop) : Prop := K (M 74 16) (mput M 74 16 (Int32.ofInt 0)) L
theorem t_X10_wipe {E : VE} {d : Nat} {Q : QQ} {K : Int32 → Mem → LMem → Prop} {M : Mem} {L : LMem} (hP : P_X10_wipe M L K) (hK : ∀ (v : Int32) (M : Mem) (L : LMem), K v M L → Q (some (.int v)) M L) : Wp E d 99 0 [.ref 74, .null] [] M L Q := by
  unfold P_X10_wipe at hP
  refine wp_seg (pc' := 11) [.aload 0, .getfield 656, .istore 1, .aload 0, .iconst 0, .putfield 656, .iload 1] (by decide +kernel) (?_ : Wp E d 99 11 [.ref 74, .int (M 74 16)] [.int (M 74 16)] (mput M 74 16 (Int32.ofInt 0)) L Q)
  exact wp_iret (by decide +kernel) rfl (hK _ _ _ hP)

def P_X9_set (x1 : Int32) (x2 : Int32) (M : Mem) (L : LMem) (K : Int32 → Mem → LMem → Prop) : Prop := ((x1 = 0 → (((f_X9_within M x2 (Int32.ofInt 1) (Int32.ofInt 60)) = 0 → ((x1 = (Int32.ofInt 1) → (((f_X9_within M x2 (Int32.ofInt 0) (Int32.ofInt 255)) = 0 → K (Int32.ofInt (-2)) M L) ∧ (¬ ((f_X9_within M x2 (Int32.ofInt 0) (Int32.ofInt 255)) = 0) → K (M 3 2) (mput M 3 2 x2) L))) ∧ (¬ (x1 = (Int32.ofInt 1)) → K (Int32.ofInt (-2)) M L))) ∧ (¬ ((f_X9_within M x2 (Int32.ofInt 1) (Int32.ofInt 60)) = 0) → K (M 3 1) (mput M 3 1 x2) L))) ∧ (¬ (x1 = 0) → ((x1 = (Int32.ofInt 1) → (((f_X9_within M x2 (Int32.ofInt 0) (Int32.ofInt 255)) = 0 → K (Int32.ofInt (-2)) M L) ∧ (¬ ((f_X9_within M x2 (Int32.ofInt 0) (Int32.ofInt 255)) = 0) → K (M 3 2) (mput M 3 2 x2) L))) ∧ (¬ (x1 = (Int32.ofInt 1)) → K (Int32.ofInt (-2)) M L))))
theorem t_X9_set {E : VE} {d : Nat} {Q : QQ} {K : Int32 → Mem → LMem → Prop} {x1 : Int32} {x2 : Int32} {M : Mem} {L : LMem} (hP : P_X9_set x1 x2 M L K) (hK : ∀ (v : Int32) (M : Mem) (L : LMem), K v M L → Q (some (.int v)) M L) : Wp E (d + 1) 67 0 [.ref 0, .int x1, .int x2, .null] [] M L Q := by
  unfold P_X9_set at hP
  refine wp_seg (pc' := 1) [.iload 1] (by decide +kernel) (?_ : Wp E (d + 1) 67 1 [.ref 0, .int x1, .int x2, .null] [.int x1] M L Q)
  refine wp_ifne (off := 31) 32 (by decide +kernel) (by decide) (fun c_1 => ?_) (fun c_1 => ?_)
  · have hP := hP.2 c_1
    refine wp_seg (pc' := 34) [.iload 1, .iconst 1] (by decide +kernel) (?_ : Wp E (d + 1) 67 34 [.ref 0, .int x1, .int x2, .null] [.int (Int32.ofInt 1), .int x1] M L Q)
    refine wp_icmpne (off := 32) 66 (by decide +kernel) (by decide) (fun c_2 => ?_) (fun c_2 => ?_)
    · have hP := hP.2 c_2
      refine wp_seg (pc' := 68) [.iconst (-2)] (by decide +kernel) (?_ : Wp E (d + 1) 67 68 [.ref 0, .int x1, .int x2, .null] [.int (Int32.ofInt (-2))] M L Q)
      exact wp_iret (by decide +kernel) rfl (hK _ _ _ hP)
    · have hP := hP.1 c_2
      refine wp_seg (pc' := 42) [.iload 2, .iconst 0, .iconst 255] (by decide +kernel) (?_ : Wp E (d + 1) 67 42 [.ref 0, .int x1, .int x2, .null] [.int (Int32.ofInt 255), .int (Int32.ofInt 0), .int x2] M L Q)
      refine wp_callS 90 [.int x2, .int (Int32.ofInt 0), .int (Int32.ofInt 255)] (i := 126) (by decide +kernel) (by decide +kernel) (by decide +kernel) rfl rfl rfl (rest := []) rfl rfl ?_
      refine s_X9_within M x2 (Int32.ofInt 0) (Int32.ofInt 255)  ?_
      show Wp E (d + 1) 67 45 [.ref 0, .int x1, .int x2, .null] [.int (f_X9_within M x2 (Int32.ofInt 0) (Int32.ofInt 255))] M L Q
      refine wp_ifeq (off := 21) 66 (by decide +kernel) (by decide) (fun c_3 => ?_) (fun c_3 => ?_)
      · have hP := hP.1 c_3
        refine wp_seg (pc' := 68) [.iconst (-2)] (by decide +kernel) (?_ : Wp E (d + 1) 67 68 [.ref 0, .int x1, .int x2, .null] [.int (Int32.ofInt (-2))] M L Q)
        exact wp_iret (by decide +kernel) rfl (hK _ _ _ hP)
      · have hP := hP.2 c_3
        refine wp_seg (pc' := 65) [.aload 0, .getfield 577, .getfield 194, .istore 3, .aload 0, .getfield 577, .iload 2, .putfield 194, .iload 3] (by decide +kernel) (?_ : Wp E (d + 1) 67 65 [.ref 0, .int x1, .int x2, .int (M 3 2)] [.int (M 3 2)] (mput M 3 2 x2) L Q)
        exact wp_iret (by decide +kernel) rfl (hK _ _ _ hP)
  · have hP := hP.1 c_1
    refine wp_seg (pc' := 8) [.iload 2, .iconst 1, .iconst 60] (by decide +kernel) (?_ : Wp E (d + 1) 67 8 [.ref 0, .int x1, .int x2, .null] [.int (Int32.ofInt 60), .int (Int32.ofInt 1), .int x2] M L Q)
    refine wp_callS 90 [.int x2, .int (Int32.ofInt 1), .int (Int32.ofInt 60)] (i := 126) (by decide +kernel) (by decide +kernel) (by decide +kernel) rfl rfl rfl (rest := []) rfl rfl ?_
    refine s_X9_within M x2 (Int32.ofInt 1) (Int32.ofInt 60)  ?_
    show Wp E (d + 1) 67 11 [.ref 0, .int x1, .int x2, .null] [.int (f_X9_within M x2 (Int32.ofInt 1) (Int32.ofInt 60))] M L Q
    refine wp_ifeq (off := 21) 32 (by decide +kernel) (by decide) (fun c_4 => ?_) (fun c_4 => ?_)
    · have hP := hP.1 c_4
      refine wp_seg (pc' := 34) [.iload 1, .iconst 1] (by decide +kernel) (?_ : Wp E (d + 1) 67 34 [.ref 0, .int x1, .int x2, .null] [.int (Int32.ofInt 1), .int x1] M L Q)
      refine wp_icmpne (off := 32) 66 (by decide +kernel) (by decide) (fun c_5 => ?_) (fun c_5 => ?_)
      · have hP := hP.2 c_5
        refine wp_seg (pc' := 68) [.iconst (-2)] (by decide +kernel) (?_ : Wp E (d + 1) 67 68 [.ref 0, .int x1, .int x2, .null] [.int (Int32.ofInt (-2))] M L Q)
        exact wp_iret (by decide +kernel) rfl (hK _ _ _ hP)
      · have hP := hP.1 c_5
        refine wp_seg (pc' := 42) [.iload 2, .iconst 0, .iconst 255] (by decide +kernel) (?_ : Wp E (d + 1) 67 42 [.ref 0, .int x1, .int x2, .null] [.int (Int32.ofInt 255), .int (Int32.ofInt 0), .int x2] M L Q)
        refine wp_callS 90 [.int x2, .int (Int32.ofInt 0), .int (Int32.ofInt 255)] (i := 126) (by decide +kernel) (by decide +kernel) (by decide +kernel) rfl rfl rfl (rest := []) rfl rfl ?_
        refine s_X9_within M x2 (Int32.ofInt 0) (Int32.ofInt 255)  ?_
        show Wp E (d + 1) 67 45 [.ref 0, .int x1, .int x2, .null] [.int (f_X9_within M x2 (Int32.ofInt 0) (Int32.ofInt 255))] M L Q
        refine wp_ifeq (off := 21) 66 (by decide +kernel) (by decide) (fun c_6 => ?_) (fun c_6 => ?_)
        · have hP := hP.1 c_6
          refine wp_seg (pc' := 68) [.iconst (-2)] (by decide +kernel) (?_ : Wp E (d + 1) 67 68 [.ref 0, .int x1, .int x2, .null] [.int (Int32.ofInt (-2))] M L Q)
          exact wp_iret (by decide +kernel) rfl (hK _ _ _ hP)
        · have hP := hP.2 c_6
          refine wp_seg (pc' := 65) [.aload 0, .getfield 577, .getfield 194, .istore 3, .aload 0, .getfield 577, .iload 2, .putfield 194, .iload 3] (by decide +kernel) (?_ : Wp E (d + 1) 67 65 [.ref 0, .int x1, .int x2, .int (M 3 2)] [.int (M 3 2)] (mput M 3 2 x2) L Q)
          exact wp_iret (by decide +kernel) rfl (hK _ _ _ hP)
    · have hP := hP.2 c_4
      refine wp_seg (pc' := 31) [.aload 0, .getfield 577, .getfield 193, .istore 3, .aload 0, .getfield 577, .iload 2, .putfield 193, .iload 3] (by decide +kernel) (?_ : Wp E (d + 1) 67 31 [.ref 0, .int x1, .int x2, .int (M 3 1)] [.int (M 3 1)] (mput M 3 1 x2) L Q)
      exact wp_iret (by decide +kernel) rfl (hK _ _ _ hP)

def P_X10_set (x1 : Int32) (x2 : Int32) (M : Mem) (L : LMem) (K : Int32 → Mem → LMem → Prop) : Prop := (((f_X10_in M x1.toInt64 (Int64.ofNat 0) (Int64.ofNat 1)) = 0 → K (Int32.ofInt (-2)) M L) ∧ (¬ ((f_X10_in M x1.toInt64 (Int64.ofNat 0) (Int64.ofNat 1)) = 0) → ((x1 = 0 → (((f_X10_in M x2.toInt64 (Int64.ofNat 1) (Int64.ofNat 60)) = 0 → K (Int32.ofInt (-2)) M L) ∧ (¬ ((f_X10_in M x2.toInt64 (Int64.ofNat 1) (Int64.ofNat 60)) = 0) → ((x1 = (Int32.ofInt 1) → K (M 74 5) (mput (mput M 74 5 x2) 74 6 x2) L) ∧ (¬ (x1 = (Int32.ofInt 1)) → K (M 74 5) (mput (mput M 74 5 x2) 74 6 (M 74 6)) L))))) ∧ (¬ (x1 = 0) → (((f_X10_in M x2.toInt64 (Int64.ofNat 0) (Int64.ofNat 255)) = 0 → K (Int32.ofInt (-2)) M L) ∧ (¬ ((f_X10_in M x2.toInt64 (Int64.ofNat 0) (Int64.ofNat 255)) = 0) → ((x1 = (Int32.ofInt 1) → K (M 74 6) (mput (mput M 74 5 (M 74 5)) 74 6 x2) L) ∧ (¬ (x1 = (Int32.ofInt 1)) → K (M 74 6) (mput (mput M 74 5 (M 74 5)) 74 6 (M 74 6)) L))))))))
theorem t_X10_set {E : VE} {d : Nat} {Q : QQ} {K : Int32 → Mem → LMem → Prop} {x1 : Int32} {x2 : Int32} {M : Mem} {L : LMem} (hP : P_X10_set x1 x2 M L K) (hK : ∀ (v : Int32) (M : Mem) (L : LMem), K v M L → Q (some (.int v)) M L) : Wp E (d + 1) 108 0 [.ref 74, .int x1, .int x2, .null] [] M L Q := by
  unfold P_X10_set at hP
  refine wp_seg (pc' := 4) [.iload 1, .i2l, .ldc2_w 0, .ldc2_w 1] (by decide +kernel) (?_ : Wp E (d + 1) 108 4 [.ref 74, .int x1, .int x2, .null] [.long (Int64.ofNat 1), .long (Int64.ofNat 0), .long x1.toInt64] M L Q)
  refine wp_callS 94 [.long x1.toInt64, .long (Int64.ofNat 0), .long (Int64.ofNat 1)] (i := 129) (by decide +kernel) (by decide +kernel) (by decide +kernel) rfl rfl rfl (rest := []) rfl rfl ?_
  refine s_X10_in M x1.toInt64 (Int64.ofNat 0) (Int64.ofNat 1)  ?_
  show Wp E (d + 1) 108 7 [.ref 74, .int x1, .int x2, .null] [.int (f_X10_in M x1.toInt64 (Int64.ofNat 0) (Int64.ofNat 1))] M L Q
  refine wp_ifeq (off := 33) 40 (by decide +kernel) (by decide) (fun c_1 => ?_) (fun c_1 => ?_)
  · have hP := hP.1 c_1
    refine wp_seg (pc' := 42) [.iconst (-2)] (by decide +kernel) (?_ : Wp E (d + 1) 108 42 [.ref 74, .int x1, .int x2, .null] [.int (Int32.ofInt (-2))] M L Q)
    exact wp_iret (by decide +kernel) rfl (hK _ _ _ hP)
  · have hP := hP.2 c_1
    refine wp_seg (pc' := 13) [.iload 2, .i2l, .iload 1] (by decide +kernel) (?_ : Wp E (d + 1) 108 13 [.ref 74, .int x1, .int x2, .null] [.int x1, .long x2.toInt64] M L Q)
    refine wp_ifne (off := 7) 20 (by decide +kernel) (by decide) (fun c_2 => ?_) (fun c_2 => ?_)
    · have hP := hP.2 c_2
      refine wp_seg (pc' := 22) [.ldc2_w 0, .iload 1] (by decide +kernel) (?_ : Wp E (d + 1) 108 22 [.ref 74, .int x1, .int x2, .null] [.int x1, .long (Int64.ofNat 0), .long x2.toInt64] M L Q)
      refine wp_ifne (off := 9) 31 (by decide +kernel) (by decide) (fun c_3 => ?_) (fun c_3 => ?_)
      · skip
        refine wp_seg (pc' := 34) [.ldc2_w 255] (by decide +kernel) (?_ : Wp E (d + 1) 108 34 [.ref 74, .int x1, .int x2, .null] [.long (Int64.ofNat 255), .long (Int64.ofNat 0), .long x2.toInt64] M L Q)
        refine wp_callS 94 [.long x2.toInt64, .long (Int64.ofNat 0), .long (Int64.ofNat 255)] (i := 129) (by decide +kernel) (by decide +kernel) (by decide +kernel) rfl rfl rfl (rest := []) rfl rfl ?_
        refine s_X10_in M x2.toInt64 (Int64.ofNat 0) (Int64.ofNat 255)  ?_
        show Wp E (d + 1) 108 37 [.ref 74, .int x1, .int x2, .null] [.int (f_X10_in M x2.toInt64 (Int64.ofNat 0) (Int64.ofNat 255))] M L Q
        refine wp_ifne (off := 6) 43 (by decide +kernel) (by decide) (fun c_4 => ?_) (fun c_4 => ?_)
        · have hP := hP.2 c_4
          refine wp_seg (pc' := 44) [.iload 1] (by decide +kernel) (?_ : Wp E (d + 1) 108 44 [.ref 74, .int x1, .int x2, .null] [.int x1] M L Q)
          refine wp_ifne (off := 10) 54 (by decide +kernel) (by decide) (fun c_5 => ?_) (fun c_5 => ?_)
          · skip
            refine wp_seg (pc' := 61) [.aload 0, .getfield 646, .istore 3, .aload 0, .iload 1] (by decide +kernel) (?_ : Wp E (d + 1) 108 61 [.ref 74, .int x1, .int x2, .int (M 74 6)] [.int x1, .ref 74] M L Q)
            refine wp_ifne (off := 7) 68 (by decide +kernel) (by decide) (fun c_6 => ?_) (fun c_6 => ?_)
            · skip
              refine wp_seg (pc' := 78) [.aload 0, .getfield 645, .putfield 645, .aload 0, .iload 1, .iconst 1] (by decide +kernel) (?_ : Wp E (d + 1) 108 78 [.ref 74, .int x1, .int x2, .int (M 74 6)] [.int (Int32.ofInt 1), .int x1, .ref 74] (mput M 74 5 (M 74 5)) L Q)
              refine wp_icmpne (off := 7) 85 (by decide +kernel) (by decide) (fun c_7 => ?_) (fun c_7 => ?_)
              · have hP := hP.2 c_7
                refine wp_seg (pc' := 93) [.aload 0, .getfield 646, .putfield 646, .iload 3] (by decide +kernel) (?_ : Wp E (d + 1) 108 93 [.ref 74, .int x1, .int x2, .int (M 74 6)] [.int (M 74 6)] (mput (mput M 74 5 (M 74 5)) 74 6 (M 74 6)) L Q)
                exact wp_iret (by decide +kernel) rfl (hK _ _ _ hP)
              · have hP := hP.1 c_7
                refine wp_seg (pc' := 93) [.iload 2, .goto 0, .putfield 646, .iload 3] (by decide +kernel) (?_ : Wp E (d + 1) 108 93 [.ref 74, .int x1, .int x2, .int (M 74 6)] [.int (M 74 6)] (mput (mput M 74 5 (M 74 5)) 74 6 x2) L Q)
                exact wp_iret (by decide +kernel) rfl (hK _ _ _ hP)
            · exact absurd c_6 c_5
          · exact absurd c_5 c_3
        · have hP := hP.1 c_4
          refine wp_seg (pc' := 42) [.iconst (-2)] (by decide +kernel) (?_ : Wp E (d + 1) 108 42 [.ref 74, .int x1, .int x2, .null] [.int (Int32.ofInt (-2))] M L Q)
          exact wp_iret (by decide +kernel) rfl (hK _ _ _ hP)
      · exact absurd c_3 c_2
    · have hP := hP.1 c_2
      refine wp_seg (pc' := 22) [.ldc2_w 1, .goto 0, .iload 1] (by decide +kernel) (?_ : Wp E (d + 1) 108 22 [.ref 74, .int x1, .int x2, .null] [.int x1, .long (Int64.ofNat 1), .long x2.toInt64] M L Q)
      refine wp_ifne (off := 9) 31 (by decide +kernel) (by decide) (fun c_8 => ?_) (fun c_8 => ?_)
      · exact absurd c_2 c_8
      · skip
        refine wp_seg (pc' := 34) [.ldc2_w 60, .goto 0] (by decide +kernel) (?_ : Wp E (d + 1) 108 34 [.ref 74, .int x1, .int x2, .null] [.long (Int64.ofNat 60), .long (Int64.ofNat 1), .long x2.toInt64] M L Q)
        refine wp_callS 94 [.long x2.toInt64, .long (Int64.ofNat 1), .long (Int64.ofNat 60)] (i := 129) (by decide +kernel) (by decide +kernel) (by decide +kernel) rfl rfl rfl (rest := []) rfl rfl ?_
        refine s_X10_in M x2.toInt64 (Int64.ofNat 1) (Int64.ofNat 60)  ?_
        show Wp E (d + 1) 108 37 [.ref 74, .int x1, .int x2, .null] [.int (f_X10_in M x2.toInt64 (Int64.ofNat 1) (Int64.ofNat 60))] M L Q
        refine wp_ifne (off := 6) 43 (by decide +kernel) (by decide) (fun c_9 => ?_) (fun c_9 => ?_)
        · have hP := hP.2 c_9
          refine wp_seg (pc' := 44) [.iload 1] (by decide +kernel) (?_ : Wp E (d + 1) 108 44 [.ref 74, .int x1, .int x2, .null] [.int x1] M L Q)
          refine wp_ifne (off := 10) 54 (by decide +kernel) (by decide) (fun c_10 => ?_) (fun c_10 => ?_)
          · exact absurd c_8 c_10
          · skip
            refine wp_seg (pc' := 61) [.aload 0, .getfield 645, .goto 0, .istore 3, .aload 0, .iload 1] (by decide +kernel) (?_ : Wp E (d + 1) 108 61 [.ref 74, .int x1, .int x2, .int (M 74 5)] [.int x1, .ref 74] M L Q)
            refine wp_ifne (off := 7) 68 (by decide +kernel) (by decide) (fun c_11 => ?_) (fun c_11 => ?_)
            · exact absurd c_10 c_11
            · skip
              refine wp_seg (pc' := 78) [.iload 2, .goto 0, .putfield 645, .aload 0, .iload 1, .iconst 1] (by decide +kernel) (?_ : Wp E (d + 1) 108 78 [.ref 74, .int x1, .int x2, .int (M 74 5)] [.int (Int32.ofInt 1), .int x1, .ref 74] (mput M 74 5 x2) L Q)
              refine wp_icmpne (off := 7) 85 (by decide +kernel) (by decide) (fun c_12 => ?_) (fun c_12 => ?_)
              · have hP := hP.2 c_12
                refine wp_seg (pc' := 93) [.aload 0, .getfield 646, .putfield 646, .iload 3] (by decide +kernel) (?_ : Wp E (d + 1) 108 93 [.ref 74, .int x1, .int x2, .int (M 74 5)] [.int (M 74 5)] (mput (mput M 74 5 x2) 74 6 (M 74 6)) L Q)
                exact wp_iret (by decide +kernel) rfl (hK _ _ _ hP)
              · have hP := hP.1 c_12
                refine wp_seg (pc' := 93) [.iload 2, .goto 0, .putfield 646, .iload 3] (by decide +kernel) (?_ : Wp E (d + 1) 108 93 [.ref 74, .int x1, .int x2, .int (M 74 5)] [.int (M 74 5)] (mput (mput M 74 5 x2) 74 6 x2) L Q)
                exact wp_iret (by decide +kernel) rfl (hK _ _ _ hP)
        · have hP := hP.1 c_9
          refine wp_seg (pc' := 42) [.iconst (-2)] (by decide +kernel) (?_ : Wp E (d + 1) 108 42 [.ref 74, .int x1, .int x2, .null] [.int (Int32.ofInt (-2))] M L Q)
          exact wp_iret (by decide +kernel) rfl (hK _ _ _ hP)

def P_X9_know (x1 : Int32) (x2 : Int32) (M : Mem) (L : LMem) (K : Int32 → Mem → LMem → Prop) : Prop := (((f_X9_isRoom M x1) = 0 → K (Int32.ofInt (-1)) M L) ∧ (¬ ((f_X9_isRoom M x1) = 0) → (((f_X9_within M x2 (Int32.ofInt 0) (Int32.ofInt 255)) = 0 → K (Int32.ofInt (-2)) M L) ∧ (¬ ((f_X9_within M x2 (Int32.ofInt 0) (Int32.ofInt 255)) = 0) → (vp_in x1 8 ∧ K (M 9 x1.toNatClampNeg) (mput M 9 x1.toNatClampNeg x2) L)))))
theorem t_X9_know {E : VE} {d : Nat} {Q : QQ} {K : Int32 → Mem → LMem → Prop} {x1 : Int32} {x2 : Int32} {M : Mem} {L : LMem} (hP : P_X9_know x1 x2 M L K) (hK : ∀ (v : Int32) (M : Mem) (L : LMem), K v M L → Q (some (.int v)) M L) : Wp E (d + 2) 73 0 [.ref 0, .int x1, .int x2, .null] [] M L Q := by
  unfold P_X9_know at hP
  refine wp_seg (pc' := 1) [.iload 1] (by decide +kernel) (?_ : Wp E (d + 2) 73 1 [.ref 0, .int x1, .int x2, .null] [.int x1] M L Q)
  refine wp_callS 91 [.int x1] (i := 150) (by decide +kernel) (by decide +kernel) (by decide +kernel) rfl rfl rfl (rest := []) rfl rfl ?_
  refine s_X9_isRoom M x1  ?_
  show Wp E (d + 2) 73 4 [.ref 0, .int x1, .int x2, .null] [.int (f_X9_isRoom M x1)] M L Q
  refine wp_ifne (off := 5) 9 (by decide +kernel) (by decide) (fun c_1 => ?_) (fun c_1 => ?_)
  · have hP := hP.2 c_1
    refine wp_seg (pc' := 14) [.iload 2, .iconst 0, .iconst 255] (by decide +kernel) (?_ : Wp E (d + 2) 73 14 [.ref 0, .int x1, .int x2, .null] [.int (Int32.ofInt 255), .int (Int32.ofInt 0), .int x2] M L Q)
    refine wp_callS 90 [.int x2, .int (Int32.ofInt 0), .int (Int32.ofInt 255)] (i := 126) (by decide +kernel) (by decide +kernel) (by decide +kernel) rfl rfl rfl (rest := []) rfl rfl ?_
    refine s_X9_within M x2 (Int32.ofInt 0) (Int32.ofInt 255)  ?_
    show Wp E (d + 2) 73 17 [.ref 0, .int x1, .int x2, .null] [.int (f_X9_within M x2 (Int32.ofInt 0) (Int32.ofInt 255))] M L Q
    refine wp_ifne (off := 6) 23 (by decide +kernel) (by decide) (fun c_2 => ?_) (fun c_2 => ?_)
    · have hP := hP.2 c_2
      obtain ⟨a_3, hP⟩ := hP
      refine wp_seg (pc' := 32) [.aload 0, .getfield 577, .getfield 195, .iload 1, .iaload] (by decide +kernel) (show aok 9 0 x1 ∧ Wp E (d + 2) 73 32 [.ref 0, .int x1, .int x2, .null] [.int (M 9 x1.toNatClampNeg)] M L Q from ⟨⟨rfl, a_3⟩, ?_⟩)
      refine wp_seg (pc' := 43) [.istore 3, .aload 0, .getfield 577, .getfield 195, .iload 1, .iload 2, .iastore] (by decide +kernel) (show aok 9 0 x1 ∧ Wp E (d + 2) 73 43 [.ref 0, .int x1, .int x2, .int (M 9 x1.toNatClampNeg)] [] (mput M 9 x1.toNatClampNeg x2) L Q from ⟨⟨rfl, a_3⟩, ?_⟩)
      refine wp_seg (pc' := 44) [.iload 3] (by decide +kernel) (?_ : Wp E (d + 2) 73 44 [.ref 0, .int x1, .int x2, .int (M 9 x1.toNatClampNeg)] [.int (M 9 x1.toNatClampNeg)] (mput M 9 x1.toNatClampNeg x2) L Q)
      exact wp_iret (by decide +kernel) rfl (hK _ _ _ hP)
    · have hP := hP.1 c_2
      refine wp_seg (pc' := 22) [.iconst (-2)] (by decide +kernel) (?_ : Wp E (d + 2) 73 22 [.ref 0, .int x1, .int x2, .null] [.int (Int32.ofInt (-2))] M L Q)
      exact wp_iret (by decide +kernel) rfl (hK _ _ _ hP)
  · have hP := hP.1 c_1
    refine wp_seg (pc' := 8) [.iconst (-1)] (by decide +kernel) (?_ : Wp E (d + 2) 73 8 [.ref 0, .int x1, .int x2, .null] [.int (Int32.ofInt (-1))] M L Q)
    exact wp_iret (by decide +kernel) rfl (hK _ _ _ hP)

def P_X10_know (x1 : Int32) (x2 : Int32) (M : Mem) (L : LMem) (K : Int32 → Mem → LMem → Prop) : Prop := (((f_X10_isRoom M x1) = 0 → K (Int32.ofInt (-1)) M L) ∧ (¬ ((f_X10_isRoom M x1) = 0) → (((f_X10_in M x2.toInt64 (Int64.ofNat 0) (Int64.ofNat 255)) = 0 → K (Int32.ofInt (-2)) M L) ∧ (¬ ((f_X10_in M x2.toInt64 (Int64.ofNat 0) (Int64.ofNat 255)) = 0) → (vp_in x1 8 ∧ K (M 79 x1.toNatClampNeg) (mput M 79 x1.toNatClampNeg x2) L)))))
theorem t_X10_know {E : VE} {d : Nat} {Q : QQ} {K : Int32 → Mem → LMem → Prop} {x1 : Int32} {x2 : Int32} {M : Mem} {L : LMem} (hP : P_X10_know x1 x2 M L K) (hK : ∀ (v : Int32) (M : Mem) (L : LMem), K v M L → Q (some (.int v)) M L) : Wp E (d + 2) 128 0 [.ref 74, .int x1, .int x2, .null] [] M L Q := by
  unfold P_X10_know at hP
  refine wp_seg (pc' := 1) [.iload 1] (by decide +kernel) (?_ : Wp E (d + 2) 128 1 [.ref 74, .int x1, .int x2, .null] [.int x1] M L Q)
  refine wp_callS 95 [.int x1] (i := 133) (by decide +kernel) (by decide +kernel) (by decide +kernel) rfl rfl rfl (rest := []) rfl rfl ?_
  refine s_X10_isRoom M x1  ?_
  show Wp E (d + 2) 128 4 [.ref 74, .int x1, .int x2, .null] [.int (f_X10_isRoom M x1)] M L Q
  refine wp_ifne (off := 5) 9 (by decide +kernel) (by decide) (fun c_1 => ?_) (fun c_1 => ?_)
  · have hP := hP.2 c_1
    refine wp_seg (pc' := 15) [.iload 2, .i2l, .ldc2_w 0, .ldc2_w 255] (by decide +kernel) (?_ : Wp E (d + 2) 128 15 [.ref 74, .int x1, .int x2, .null] [.long (Int64.ofNat 255), .long (Int64.ofNat 0), .long x2.toInt64] M L Q)
    refine wp_callS 94 [.long x2.toInt64, .long (Int64.ofNat 0), .long (Int64.ofNat 255)] (i := 129) (by decide +kernel) (by decide +kernel) (by decide +kernel) rfl rfl rfl (rest := []) rfl rfl ?_
    refine s_X10_in M x2.toInt64 (Int64.ofNat 0) (Int64.ofNat 255)  ?_
    show Wp E (d + 2) 128 18 [.ref 74, .int x1, .int x2, .null] [.int (f_X10_in M x2.toInt64 (Int64.ofNat 0) (Int64.ofNat 255))] M L Q
    refine wp_ifne (off := 6) 24 (by decide +kernel) (by decide) (fun c_2 => ?_) (fun c_2 => ?_)
    · have hP := hP.2 c_2
      obtain ⟨a_3, hP⟩ := hP
      refine wp_seg (pc' := 30) [.aload 0, .getfield 647, .iload 1, .iaload] (by decide +kernel) (show aok 79 0 x1 ∧ Wp E (d + 2) 128 30 [.ref 74, .int x1, .int x2, .null] [.int (M 79 x1.toNatClampNeg)] M L Q from ⟨⟨rfl, a_3⟩, ?_⟩)
      refine wp_seg (pc' := 38) [.istore 3, .aload 0, .getfield 647, .iload 1, .iload 2, .iastore] (by decide +kernel) (show aok 79 0 x1 ∧ Wp E (d + 2) 128 38 [.ref 74, .int x1, .int x2, .int (M 79 x1.toNatClampNeg)] [] (mput M 79 x1.toNatClampNeg x2) L Q from ⟨⟨rfl, a_3⟩, ?_⟩)
      refine wp_seg (pc' := 39) [.iload 3] (by decide +kernel) (?_ : Wp E (d + 2) 128 39 [.ref 74, .int x1, .int x2, .int (M 79 x1.toNatClampNeg)] [.int (M 79 x1.toNatClampNeg)] (mput M 79 x1.toNatClampNeg x2) L Q)
      exact wp_iret (by decide +kernel) rfl (hK _ _ _ hP)
    · have hP := hP.1 c_2
      refine wp_seg (pc' := 23) [.iconst (-2)] (by decide +kernel) (?_ : Wp E (d + 2) 128 23 [.ref 74, .int x1, .int x2, .null] [.int (Int32.ofInt (-2))] M L Q)
      exact wp_iret (by decide +kernel) rfl (hK _ _ _ hP)
  · have hP := hP.1 c_1
    refine wp_seg (pc' := 8) [.iconst (-1)] (by decide +kernel) (?_ : Wp E (d + 2) 128 8 [.ref 74, .int x1, .int x2, .null] [.int (Int32.ofInt (-1))] M L Q)
    exact wp_iret (by decide +kernel) rfl (hK _ _ _ hP)

def P_X9_call (x1 : Int32) (x2 : Int32) (x3 : Int32) (x4 : Int32) (M : Mem) (L : LMem) (K : Int32 → Mem → LMem → Prop) : Prop := (((f_X9_twoRooms M x1 x2) = 0 → K (Int32.ofInt (-1)) M L) ∧ (¬ ((f_X9_twoRooms M x1 x2) = 0) → (((f_X9_within M x3 (Int32.ofInt 1) (Int32.ofInt 9)) = 0 → K (Int32.ofInt (-2)) M L) ∧ (¬ ((f_X9_within M x3 (Int32.ofInt 1) (Int32.ofInt 9)) = 0) → (((f_X9_within M x4 (Int32.ofInt 1) (Int32.ofInt 60)) = 0 → K (Int32.ofInt (-2)) M L) ∧ (¬ ((f_X9_within M x4 (Int32.ofInt 1) (Int32.ofInt 60)) = 0) → (((M 3 8) < (Int32.ofInt 5) → vp_in (M 3 8) 5) ∧ (((f_X3_addWaiting M x1 x2 x3 x4) = 0 → K (Int32.ofInt (-4)) (g_X3_addWaiting M x1 x2 x3 x4) L) ∧ (¬ ((f_X3_addWaiting M x1 x2 x3 x4) = 0) → K (((g_X3_addWaiting M x1 x2 x3 x4) 3 8) - (Int32.ofInt 1)) (g_X3_addWaiting M x1 x2 x3 x4) L)))))))))
theorem t_X9_call {E : VE} {d : Nat} {Q : QQ} {K : Int32 → Mem → LMem → Prop} {x1 : Int32} {x2 : Int32} {x3 : Int32} {x4 : Int32} {M : Mem} {L : LMem} (hP : P_X9_call x1 x2 x3 x4 M L K) (hK : ∀ (v : Int32) (M : Mem) (L : LMem), K v M L → Q (some (.int v)) M L) : Wp E (d + 3) 75 0 [.ref 0, .int x1, .int x2, .int x3, .int x4] [] M L Q := by
  unfold P_X9_call at hP
  refine wp_seg (pc' := 2) [.iload 1, .iload 2] (by decide +kernel) (?_ : Wp E (d + 3) 75 2 [.ref 0, .int x1, .int x2, .int x3, .int x4] [.int x2, .int x1] M L Q)
  refine wp_callS 92 [.int x1, .int x2] (i := 136) (by decide +kernel) (by decide +kernel) (by decide +kernel) rfl rfl rfl (rest := []) rfl rfl ?_
  refine s_X9_twoRooms M x1 x2  ?_
  show Wp E (d + 3) 75 5 [.ref 0, .int x1, .int x2, .int x3, .int x4] [.int (f_X9_twoRooms M x1 x2)] M L Q
  refine wp_ifne (off := 5) 10 (by decide +kernel) (by decide) (fun c_1 => ?_) (fun c_1 => ?_)
  · have hP := hP.2 c_1
    refine wp_seg (pc' := 14) [.iload 3, .iconst 1, .iconst 9] (by decide +kernel) (?_ : Wp E (d + 3) 75 14 [.ref 0, .int x1, .int x2, .int x3, .int x4] [.int (Int32.ofInt 9), .int (Int32.ofInt 1), .int x3] M L Q)
    refine wp_callS 90 [.int x3, .int (Int32.ofInt 1), .int (Int32.ofInt 9)] (i := 126) (by decide +kernel) (by decide +kernel) (by decide +kernel) rfl rfl rfl (rest := []) rfl rfl ?_
    refine s_X9_within M x3 (Int32.ofInt 1) (Int32.ofInt 9)  ?_
    show Wp E (d + 3) 75 17 [.ref 0, .int x1, .int x2, .int x3, .int x4] [.int (f_X9_within M x3 (Int32.ofInt 1) (Int32.ofInt 9))] M L Q
    refine wp_ifeq (off := 14) 31 (by decide +kernel) (by decide) (fun c_2 => ?_) (fun c_2 => ?_)
    · have hP := hP.1 c_2
      refine wp_seg (pc' := 33) [.iconst (-2)] (by decide +kernel) (?_ : Wp E (d + 3) 75 33 [.ref 0, .int x1, .int x2, .int x3, .int x4] [.int (Int32.ofInt (-2))] M L Q)
      exact wp_iret (by decide +kernel) rfl (hK _ _ _ hP)
    · have hP := hP.2 c_2
      refine wp_seg (pc' := 25) [.iload 4, .iconst 1, .iconst 60] (by decide +kernel) (?_ : Wp E (d + 3) 75 25 [.ref 0, .int x1, .int x2, .int x3, .int x4] [.int (Int32.ofInt 60), .int (Int32.ofInt 1), .int x4] M L Q)
      refine wp_callS 90 [.int x4, .int (Int32.ofInt 1), .int (Int32.ofInt 60)] (i := 126) (by decide +kernel) (by decide +kernel) (by decide +kernel) rfl rfl rfl (rest := []) rfl rfl ?_
      refine s_X9_within M x4 (Int32.ofInt 1) (Int32.ofInt 60)  ?_
      show Wp E (d + 3) 75 28 [.ref 0, .int x1, .int x2, .int x3, .int x4] [.int (f_X9_within M x4 (Int32.ofInt 1) (Int32.ofInt 60))] M L Q
      refine wp_ifne (off := 6) 34 (by decide +kernel) (by decide) (fun c_3 => ?_) (fun c_3 => ?_)
      · have hP := hP.2 c_3
        refine wp_seg (pc' := 43) [.aload 0, .getfield 577, .iload 1, .iload 2, .iload 3, .iload 4] (by decide +kernel) (?_ : Wp E (d + 3) 75 43 [.ref 0, .int x1, .int x2, .int x3, .int x4] [.int x4, .int x3, .int x2, .int x1, .ref 3] M L Q)
        refine wp_callV 18 3 [.int x1, .int x2, .int x3, .int x4] (i := 186) (by decide +kernel) (by decide +kernel) (by decide +kernel) (by decide +kernel) rfl rfl rfl (rest := []) rfl rfl ?_
        obtain ⟨a_4, hP⟩ := hP
        refine s_X3_addWaiting M x1 x2 x3 x4 a_4 ?_
        show Wp E (d + 3) 75 46 [.ref 0, .int x1, .int x2, .int x3, .int x4] [.int (f_X3_addWaiting M x1 x2 x3 x4)] (g_X3_addWaiting M x1 x2 x3 x4) L Q
        refine wp_ifeq (off := 15) 61 (by decide +kernel) (by decide) (fun c_5 => ?_) (fun c_5 => ?_)
        · have hP := hP.1 c_5
          refine wp_seg (pc' := 63) [.iconst (-4)] (by decide +kernel) (?_ : Wp E (d + 3) 75 63 [.ref 0, .int x1, .int x2, .int x3, .int x4] [.int (Int32.ofInt (-4))] (g_X3_addWaiting M x1 x2 x3 x4) L Q)
          exact wp_iret (by decide +kernel) rfl (hK _ _ _ hP)
        · have hP := hP.2 c_5
          refine wp_seg (pc' := 63) [.aload 0, .getfield 577, .getfield 200, .iconst 1, .isub, .goto 0] (by decide +kernel) (?_ : Wp E (d + 3) 75 63 [.ref 0, .int x1, .int x2, .int x3, .int x4] [.int (((g_X3_addWaiting M x1 x2 x3 x4) 3 8) - (Int32.ofInt 1))] (g_X3_addWaiting M x1 x2 x3 x4) L Q)
          exact wp_iret (by decide +kernel) rfl (hK _ _ _ hP)
      · have hP := hP.1 c_3
        refine wp_seg (pc' := 33) [.iconst (-2)] (by decide +kernel) (?_ : Wp E (d + 3) 75 33 [.ref 0, .int x1, .int x2, .int x3, .int x4] [.int (Int32.ofInt (-2))] M L Q)
        exact wp_iret (by decide +kernel) rfl (hK _ _ _ hP)
  · have hP := hP.1 c_1
    refine wp_seg (pc' := 9) [.iconst (-1)] (by decide +kernel) (?_ : Wp E (d + 3) 75 9 [.ref 0, .int x1, .int x2, .int x3, .int x4] [.int (Int32.ofInt (-1))] M L Q)
    exact wp_iret (by decide +kernel) rfl (hK _ _ _ hP)

def P_X10_call (x1 : Int32) (x2 : Int32) (x3 : Int32) (x4 : Int32) (M : Mem) (L : LMem) (K : Int32 → Mem → LMem → Prop) : Prop := (((f_X10_areTwo M x1 x2) = 0 → K (Int32.ofInt (-1)) M L) ∧ (¬ ((f_X10_areTwo M x1 x2) = 0) → (((f_X10_in M x3.toInt64 (Int64.ofNat 1) (Int64.ofNat 9)) = 0 → K (Int32.ofInt (-2)) M L) ∧ (¬ ((f_X10_in M x3.toInt64 (Int64.ofNat 1) (Int64.ofNat 9)) = 0) → (((f_X10_in M x4.toInt64 (Int64.ofNat 1) (Int64.ofNat 60)) = 0 → K (Int32.ofInt (-2)) M L) ∧ (¬ ((f_X10_in M x4.toInt64 (Int64.ofNat 1) (Int64.ofNat 60)) = 0) → (((M 74 12) = (Int32.ofInt 5) → K (Int32.ofInt (-4)) M L) ∧ (¬ ((M 74 12) = (Int32.ofInt 5)) → (vp_in (M 74 12) 5 ∧ K (((M 74 12) + (Int32.ofInt 1)) - (Int32.ofInt 1)) (mput (mput (mput (mput (mput M 80 ((M 74 12).toNatClampNeg) x1) 81 ((M 74 12).toNatClampNeg) x2) 82 ((M 74 12).toNatClampNeg) x3) 83 ((M 74 12).toNatClampNeg) x4) 74 12 ((M 74 12) + (Int32.ofInt 1))) L)))))))))
theorem t_X10_call {E : VE} {d : Nat} {Q : QQ} {K : Int32 → Mem → LMem → Prop} {x1 : Int32} {x2 : Int32} {x3 : Int32} {x4 : Int32} {M : Mem} {L : LMem} (hP : P_X10_call x1 x2 x3 x4 M L K) (hK : ∀ (v : Int32) (M : Mem) (L : LMem), K v M L → Q (some (.int v)) M L) : Wp E (d + 3) 130 0 [.ref 74, .int x1, .int x2, .int x3, .int x4] [] M L Q := by
  unfold P_X10_call at hP
  refine wp_seg (pc' := 2) [.iload 1, .iload 2] (by decide +kernel) (?_ : Wp E (d + 3) 130 2 [.ref 74, .int x1, .int x2, .int x3, .int x4] [.int x2, .int x1] M L Q)
  refine wp_callS 96 [.int x1, .int x2] (i := 198) (by decide +kernel) (by decide +kernel) (by decide +kernel) rfl rfl rfl (rest := []) rfl rfl ?_
  refine s_X10_areTwo M x1 x2  ?_
  show Wp E (d + 3) 130 5 [.ref 74, .int x1, .int x2, .int x3, .int x4] [.int (f_X10_areTwo M x1 x2)] M L Q
  refine wp_ifne (off := 5) 10 (by decide +kernel) (by decide) (fun c_1 => ?_) (fun c_1 => ?_)
  · have hP := hP.2 c_1
    refine wp_seg (pc' := 16) [.iload 3, .i2l, .ldc2_w 1, .ldc2_w 9] (by decide +kernel) (?_ : Wp E (d + 3) 130 16 [.ref 74, .int x1, .int x2, .int x3, .int x4] [.long (Int64.ofNat 9), .long (Int64.ofNat 1), .long x3.toInt64] M L Q)
    refine wp_callS 94 [.long x3.toInt64, .long (Int64.ofNat 1), .long (Int64.ofNat 9)] (i := 129) (by decide +kernel) (by decide +kernel) (by decide +kernel) rfl rfl rfl (rest := []) rfl rfl ?_
    refine s_X10_in M x3.toInt64 (Int64.ofNat 1) (Int64.ofNat 9)  ?_
    show Wp E (d + 3) 130 19 [.ref 74, .int x1, .int x2, .int x3, .int x4] [.int (f_X10_in M x3.toInt64 (Int64.ofNat 1) (Int64.ofNat 9))] M L Q
    refine wp_ifeq (off := 16) 35 (by decide +kernel) (by decide) (fun c_2 => ?_) (fun c_2 => ?_)
    · have hP := hP.1 c_2
      refine wp_seg (pc' := 37) [.iconst (-2)] (by decide +kernel) (?_ : Wp E (d + 3) 130 37 [.ref 74, .int x1, .int x2, .int x3, .int x4] [.int (Int32.ofInt (-2))] M L Q)
      exact wp_iret (by decide +kernel) rfl (hK _ _ _ hP)
    · have hP := hP.2 c_2
      refine wp_seg (pc' := 29) [.iload 4, .i2l, .ldc2_w 1, .ldc2_w 60] (by decide +kernel) (?_ : Wp E (d + 3) 130 29 [.ref 74, .int x1, .int x2, .int x3, .int x4] [.long (Int64.ofNat 60), .long (Int64.ofNat 1), .long x4.toInt64] M L Q)
      refine wp_callS 94 [.long x4.toInt64, .long (Int64.ofNat 1), .long (Int64.ofNat 60)] (i := 129) (by decide +kernel) (by decide +kernel) (by decide +kernel) rfl rfl rfl (rest := []) rfl rfl ?_
      refine s_X10_in M x4.toInt64 (Int64.ofNat 1) (Int64.ofNat 60)  ?_
      show Wp E (d + 3) 130 32 [.ref 74, .int x1, .int x2, .int x3, .int x4] [.int (f_X10_in M x4.toInt64 (Int64.ofNat 1) (Int64.ofNat 60))] M L Q
      refine wp_ifne (off := 6) 38 (by decide +kernel) (by decide) (fun c_3 => ?_) (fun c_3 => ?_)
      · have hP := hP.2 c_3
        refine wp_seg (pc' := 43) [.aload 0, .getfield 652, .iconst 5] (by decide +kernel) (?_ : Wp E (d + 3) 130 43 [.ref 74, .int x1, .int x2, .int x3, .int x4] [.int (Int32.ofInt 5), .int (M 74 12)] M L Q)
        refine wp_icmpne (off := 6) 49 (by decide +kernel) (by decide) (fun c_4 => ?_) (fun c_4 => ?_)
        · have hP := hP.2 c_4
          obtain ⟨a_5, hP⟩ := hP
          refine wp_seg (pc' := 59) [.aload 0, .getfield 648, .aload 0, .getfield 652, .iload 1, .iastore] (by decide +kernel) (show aok 80 0 (M 74 12) ∧ Wp E (d + 3) 130 59 [.ref 74, .int x1, .int x2, .int x3, .int x4] [] (mput M 80 ((M 74 12).toNatClampNeg) x1) L Q from ⟨⟨rfl, a_5⟩, ?_⟩)
          refine wp_seg (pc' := 69) [.aload 0, .getfield 649, .aload 0, .getfield 652, .iload 2, .iastore] (by decide +kernel) (show aok 81 0 (M 74 12) ∧ Wp E (d + 3) 130 69 [.ref 74, .int x1, .int x2, .int x3, .int x4] [] (mput (mput M 80 ((M 74 12).toNatClampNeg) x1) 81 ((M 74 12).toNatClampNeg) x2) L Q from ⟨⟨rfl, a_5⟩, ?_⟩)
          refine wp_seg (pc' := 79) [.aload 0, .getfield 650, .aload 0, .getfield 652, .iload 3, .iastore] (by decide +kernel) (show aok 82 0 (M 74 12) ∧ Wp E (d + 3) 130 79 [.ref 74, .int x1, .int x2, .int x3, .int x4] [] (mput (mput (mput M 80 ((M 74 12).toNatClampNeg) x1) 81 ((M 74 12).toNatClampNeg) x2) 82 ((M 74 12).toNatClampNeg) x3) L Q from ⟨⟨rfl, a_5⟩, ?_⟩)
          refine wp_seg (pc' := 90) [.aload 0, .getfield 651, .aload 0, .getfield 652, .iload 4, .iastore] (by decide +kernel) (show aok 83 0 (M 74 12) ∧ Wp E (d + 3) 130 90 [.ref 74, .int x1, .int x2, .int x3, .int x4] [] (mput (mput (mput (mput M 80 ((M 74 12).toNatClampNeg) x1) 81 ((M 74 12).toNatClampNeg) x2) 82 ((M 74 12).toNatClampNeg) x3) 83 ((M 74 12).toNatClampNeg) x4) L Q from ⟨⟨rfl, a_5⟩, ?_⟩)
          refine wp_seg (pc' := 106) [.aload 0, .dup, .getfield 652, .iconst 1, .iadd, .putfield 652, .aload 0, .getfield 652, .iconst 1, .isub] (by decide +kernel) (?_ : Wp E (d + 3) 130 106 [.ref 74, .int x1, .int x2, .int x3, .int x4] [.int (((M 74 12) + (Int32.ofInt 1)) - (Int32.ofInt 1))] (mput (mput (mput (mput (mput M 80 ((M 74 12).toNatClampNeg) x1) 81 ((M 74 12).toNatClampNeg) x2) 82 ((M 74 12).toNatClampNeg) x3) 83 ((M 74 12).toNatClampNeg) x4) 74 12 ((M 74 12) + (Int32.ofInt 1))) L Q)
          exact wp_iret (by decide +kernel) rfl (hK _ _ _ hP)
        · have hP := hP.1 c_4
          refine wp_seg (pc' := 48) [.iconst (-4)] (by decide +kernel) (?_ : Wp E (d + 3) 130 48 [.ref 74, .int x1, .int x2, .int x3, .int x4] [.int (Int32.ofInt (-4))] M L Q)
          exact wp_iret (by decide +kernel) rfl (hK _ _ _ hP)
      · have hP := hP.1 c_3
        refine wp_seg (pc' := 37) [.iconst (-2)] (by decide +kernel) (?_ : Wp E (d + 3) 130 37 [.ref 74, .int x1, .int x2, .int x3, .int x4] [.int (Int32.ofInt (-2))] M L Q)
        exact wp_iret (by decide +kernel) rfl (hK _ _ _ hP)
  · have hP := hP.1 c_1
    refine wp_seg (pc' := 9) [.iconst (-1)] (by decide +kernel) (?_ : Wp E (d + 3) 130 9 [.ref 74, .int x1, .int x2, .int x3, .int x4] [.int (Int32.ofInt (-1))] M L Q)
    exact wp_iret (by decide +kernel) rfl (hK _ _ _ hP)

def P_X9_clear (M : Mem) (L : LMem) (K : Int32 → Mem → LMem → Prop) : Prop := K (M 3 8) (mput M 3 8 (Int32.ofInt 0)) L
theorem t_X9_clear {E : VE} {d : Nat} {Q : QQ} {K : Int32 → Mem → LMem → Prop} {M : Mem} {L : LMem} (hP : P_X9_clear M L K) (hK : ∀ (v : Int32) (M : Mem) (L : LMem), K v M L → Q (some (.int v)) M L) : Wp E d 76 0 [.ref 0, .null] [] M L Q := by
  unfold P_X9_clear at hP
  refine wp_seg (pc' := 17) [.aload 0, .getfield 577, .getfield 200, .istore 1, .aload 0, .getfield 577, .iconst 0, .putfield 200, .iload 1] (by decide +kernel) (?_ : Wp E d 76 17 [.ref 0, .int (M 3 8)] [.int (M 3 8)] (mput M 3 8 (Int32.ofInt 0)) L Q)
  exact wp_iret (by decide +kernel) rfl (hK _ _ _ hP)

def P_X10_clear (M : Mem) (L : LMem) (K : Int32 → Mem → LMem → Prop) : Prop := K (M 74 12) (mput M 74 12 (Int32.ofInt 0)) L
theorem t_X10_clear {E : VE} {d : Nat} {Q : QQ} {K : Int32 → Mem → LMem → Prop} {M : Mem} {L : LMem} (hP : P_X10_clear M L K) (hK : ∀ (v : Int32) (M : Mem) (L : LMem), K v M L → Q (some (.int v)) M L) : Wp E d 131 0 [.ref 74, .null] [] M L Q := by
  unfold P_X10_clear at hP
  refine wp_seg (pc' := 11) [.aload 0, .getfield 652, .istore 1, .aload 0, .iconst 0, .putfield 652, .iload 1] (by decide +kernel) (?_ : Wp E d 131 11 [.ref 74, .int (M 74 12)] [.int (M 74 12)] (mput M 74 12 (Int32.ofInt 0)) L Q)
  exact wp_iret (by decide +kernel) rfl (hK _ _ _ hP)

def P_X10_tube (x1 : Int32) (x2 : Int32) (M : Mem) (L : LMem) (K : Int32 → Mem → LMem → Prop) : Prop := (((f_X10_in M x1.toInt64 (Int64.ofNat 0) (((M 74 4) - (Int32.ofInt 1)).toInt64)) = 0 → K (Int32.ofInt (-1)) M L) ∧ (¬ ((f_X10_in M x1.toInt64 (Int64.ofNat 0) (((M 74 4) - (Int32.ofInt 1)).toInt64)) = 0) → ((x2 = 0 → (vp_in x1 13 ∧ K (M 75 x1.toNatClampNeg) M L)) ∧ (¬ (x2 = 0) → ((x2 = (Int32.ofInt 1) → (vp_in x1 13 ∧ K (M 76 x1.toNatClampNeg) M L)) ∧ (¬ (x2 = (Int32.ofInt 1)) → ((x2 = (Int32.ofInt 2) → (vp_in x1 13 ∧ K (M 77 x1.toNatClampNeg) M L)) ∧ (¬ (x2 = (Int32.ofInt 2)) → ((x2 = (Int32.ofInt 3) → (vp_in x1 13 ∧ K (M 78 x1.toNatClampNeg) M L)) ∧ (¬ (x2 = (Int32.ofInt 3)) → K (Int32.ofInt (-2)) M L))))))))))
theorem t_X10_tube {E : VE} {d : Nat} {Q : QQ} {K : Int32 → Mem → LMem → Prop} {x1 : Int32} {x2 : Int32} {M : Mem} {L : LMem} (hP : P_X10_tube x1 x2 M L K) (hK : ∀ (v : Int32) (M : Mem) (L : LMem), K v M L → Q (some (.int v)) M L) : Wp E (d + 1) 107 0 [.ref 74, .int x1, .int x2] [] M L Q := by
  unfold P_X10_tube at hP
  refine wp_seg (pc' := 10) [.iload 1, .i2l, .ldc2_w 0, .aload 0, .getfield 644, .iconst 1, .isub, .i2l] (by decide +kernel) (?_ : Wp E (d + 1) 107 10 [.ref 74, .int x1, .int x2] [.long (((M 74 4) - (Int32.ofInt 1)).toInt64), .long (Int64.ofNat 0), .long x1.toInt64] M L Q)
  refine wp_callS 94 [.long x1.toInt64, .long (Int64.ofNat 0), .long (((M 74 4) - (Int32.ofInt 1)).toInt64)] (i := 129) (by decide +kernel) (by decide +kernel) (by decide +kernel) rfl rfl rfl (rest := []) rfl rfl ?_
  refine s_X10_in M x1.toInt64 (Int64.ofNat 0) (((M 74 4) - (Int32.ofInt 1)).toInt64)  ?_
  show Wp E (d + 1) 107 13 [.ref 74, .int x1, .int x2] [.int (f_X10_in M x1.toInt64 (Int64.ofNat 0) (((M 74 4) - (Int32.ofInt 1)).toInt64))] M L Q
  refine wp_ifne (off := 5) 18 (by decide +kernel) (by decide) (fun c_1 => ?_) (fun c_1 => ?_)
  · have hP := hP.2 c_1
    refine wp_seg (pc' := 19) [.iload 2] (by decide +kernel) (?_ : Wp E (d + 1) 107 19 [.ref 74, .int x1, .int x2] [.int x2] M L Q)
    refine wp_ifne (off := 12) 31 (by decide +kernel) (by decide) (fun c_2 => ?_) (fun c_2 => ?_)
    · have hP := hP.2 c_2
      refine wp_seg (pc' := 33) [.iload 2, .iconst 1] (by decide +kernel) (?_ : Wp E (d + 1) 107 33 [.ref 74, .int x1, .int x2] [.int (Int32.ofInt 1), .int x2] M L Q)
      refine wp_icmpne (off := 12) 45 (by decide +kernel) (by decide) (fun c_3 => ?_) (fun c_3 => ?_)
      · have hP := hP.2 c_3
        refine wp_seg (pc' := 47) [.iload 2, .iconst 2] (by decide +kernel) (?_ : Wp E (d + 1) 107 47 [.ref 74, .int x1, .int x2] [.int (Int32.ofInt 2), .int x2] M L Q)
        refine wp_icmpne (off := 12) 59 (by decide +kernel) (by decide) (fun c_4 => ?_) (fun c_4 => ?_)
        · have hP := hP.2 c_4
          refine wp_seg (pc' := 61) [.iload 2, .iconst 3] (by decide +kernel) (?_ : Wp E (d + 1) 107 61 [.ref 74, .int x1, .int x2] [.int (Int32.ofInt 3), .int x2] M L Q)
          refine wp_icmpne (off := 12) 73 (by decide +kernel) (by decide) (fun c_5 => ?_) (fun c_5 => ?_)
          · have hP := hP.2 c_5
            refine wp_seg (pc' := 75) [.iconst (-2)] (by decide +kernel) (?_ : Wp E (d + 1) 107 75 [.ref 74, .int x1, .int x2] [.int (Int32.ofInt (-2))] M L Q)
            exact wp_iret (by decide +kernel) rfl (hK _ _ _ hP)
          · have hP := hP.1 c_5
            obtain ⟨a_6, hP⟩ := hP
            refine wp_seg (pc' := 70) [.aload 0, .getfield 643, .iload 1, .iaload] (by decide +kernel) (show aok 78 0 x1 ∧ Wp E (d + 1) 107 70 [.ref 74, .int x1, .int x2] [.int (M 78 x1.toNatClampNeg)] M L Q from ⟨⟨rfl, a_6⟩, ?_⟩)
            refine wp_seg (pc' := 75) [.goto 0] (by decide +kernel) (?_ : Wp E (d + 1) 107 75 [.ref 74, .int x1, .int x2] [.int (M 78 x1.toNatClampNeg)] M L Q)
            exact wp_iret (by decide +kernel) rfl (hK _ _ _ hP)
        · have hP := hP.1 c_4
          obtain ⟨a_7, hP⟩ := hP
          refine wp_seg (pc' := 56) [.aload 0, .getfield 642, .iload 1, .iaload] (by decide +kernel) (show aok 77 0 x1 ∧ Wp E (d + 1) 107 56 [.ref 74, .int x1, .int x2] [.int (M 77 x1.toNatClampNeg)] M L Q from ⟨⟨rfl, a_7⟩, ?_⟩)
          refine wp_seg (pc' := 75) [.goto 0] (by decide +kernel) (?_ : Wp E (d + 1) 107 75 [.ref 74, .int x1, .int x2] [.int (M 77 x1.toNatClampNeg)] M L Q)
          exact wp_iret (by decide +kernel) rfl (hK _ _ _ hP)
      · have hP := hP.1 c_3
        obtain ⟨a_8, hP⟩ := hP
        refine wp_seg (pc' := 42) [.aload 0, .getfield 641, .iload 1, .iaload] (by decide +kernel) (show aok 76 0 x1 ∧ Wp E (d + 1) 107 42 [.ref 74, .int x1, .int x2] [.int (M 76 x1.toNatClampNeg)] M L Q from ⟨⟨rfl, a_8⟩, ?_⟩)
        refine wp_seg (pc' := 75) [.goto 0] (by decide +kernel) (?_ : Wp E (d + 1) 107 75 [.ref 74, .int x1, .int x2] [.int (M 76 x1.toNatClampNeg)] M L Q)
        exact wp_iret (by decide +kernel) rfl (hK _ _ _ hP)
    · have hP := hP.1 c_2
      obtain ⟨a_9, hP⟩ := hP
      refine wp_seg (pc' := 28) [.aload 0, .getfield 640, .iload 1, .iaload] (by decide +kernel) (show aok 75 0 x1 ∧ Wp E (d + 1) 107 28 [.ref 74, .int x1, .int x2] [.int (M 75 x1.toNatClampNeg)] M L Q from ⟨⟨rfl, a_9⟩, ?_⟩)
      refine wp_seg (pc' := 75) [.goto 0] (by decide +kernel) (?_ : Wp E (d + 1) 107 75 [.ref 74, .int x1, .int x2] [.int (M 75 x1.toNatClampNeg)] M L Q)
      exact wp_iret (by decide +kernel) rfl (hK _ _ _ hP)
  · have hP := hP.1 c_1
    refine wp_seg (pc' := 17) [.iconst (-1)] (by decide +kernel) (?_ : Wp E (d + 1) 107 17 [.ref 74, .int x1, .int x2] [.int (Int32.ofInt (-1))] M L Q)
    exact wp_iret (by decide +kernel) rfl (hK _ _ _ hP)
