def PL_X0_goingOn_4 (K : Int32 → Mem → LMem → Prop)  : Nat → Int32 → Int32 → Mem → LMem → Prop
  | 0, _, _, _, _ => False
  | n_ + 1, v1, v2, M, L => (((M 41 7) ≤ v2 → K v1 M L) ∧ (¬ ((M 41 7) ≤ v2) → (vp_in v2 20 ∧ (((M 47 v2.toNatClampNeg) = 0 → PL_X0_goingOn_4 K n_ (v1 + Int32.ofInt 1) (v2 + Int32.ofInt 1) M L) ∧ (¬ ((M 47 v2.toNatClampNeg) = 0) → PL_X0_goingOn_4 K n_ v1 (v2 + Int32.ofInt 1) M L)))))
theorem tl_X0_goingOn_4 {E : VE} {d : Nat} {Q : QQ} {K : Int32 → Mem → LMem → Prop}  (hK : ∀ (v : Int32) (M : Mem) (L : LMem), K v M L → Q (some (.int v)) M L)  : ∀ (n_ : Nat) (v1 : Int32) (v2 : Int32) (M : Mem) (L : LMem), PL_X0_goingOn_4 K n_ v1 v2 M L → Wp E d 3 4 [.ref 41, .int v1, .int v2] [] M L Q := by
  intro n_
  induction n_ with
  | zero => intro v1 v2 M L hP; exact False.elim hP
  | succ n_ ih =>
    intro v1 v2 M L hP
    unfold PL_X0_goingOn_4 at hP
    refine wp_seg (pc' := 9) [.iload 2, .aload 0, .getfield 7] (by decide +kernel) (?_ : Wp E d 3 9 [.ref 41, .int v1, .int v2] [.int (M 41 7), .int v2] M L Q)
    refine wp_icmpge (off := 21) 30 (by decide +kernel) (by decide) (fun c_1 => ?_) (fun c_1 => ?_)
    · have hP := hP.1 c_1
      refine wp_seg (pc' := 31) [.iload 1] (by decide +kernel) (?_ : Wp E d 3 31 [.ref 41, .int v1, .int v2] [.int v1] M L Q)
      exact wp_iret (by decide +kernel) rfl (hK _ _ _ hP)
    · have hP := hP.2 c_1
      obtain ⟨a_2, hP⟩ := hP
      refine wp_seg (pc' := 18) [.aload 0, .getfield 5, .iload 2, .baload] (by decide +kernel) (show (aok 47 1 v2 ∨ aok 47 3 v2) ∧ Wp E d 3 18 [.ref 41, .int v1, .int v2] [.int (M 47 v2.toNatClampNeg)] M L Q from ⟨Or.inl ⟨rfl, a_2⟩, ?_⟩)
      refine wp_ifne (off := 6) 24 (by decide +kernel) (by decide) (fun c_3 => ?_) (fun c_3 => ?_)
      · have hP := hP.2 c_3
        refine wp_seg (pc' := 4) [.iinc 2 1, .goto 0] (by decide +kernel) (?_ : Wp E d 3 4 [.ref 41, .int v1, .int (v2 + Int32.ofInt 1)] [] M L Q)
        exact ih v1 (v2 + Int32.ofInt 1) M L hP
      · have hP := hP.1 c_3
        refine wp_seg (pc' := 4) [.iinc 1 1, .iinc 2 1, .goto 0] (by decide +kernel) (?_ : Wp E d 3 4 [.ref 41, .int (v1 + Int32.ofInt 1), .int (v2 + Int32.ofInt 1)] [] M L Q)
        exact ih (v1 + Int32.ofInt 1) (v2 + Int32.ofInt 1) M L hP
def P_X0_goingOn (M : Mem) (L : LMem) (K : Int32 → Mem → LMem → Prop) : Prop := PL_X0_goingOn_4 K 100000 (Int32.ofInt 0) (Int32.ofInt 0) M L
theorem t_X0_goingOn {E : VE} {d : Nat} {Q : QQ} {K : Int32 → Mem → LMem → Prop} {M : Mem} {L : LMem} (hP : P_X0_goingOn M L K) (hK : ∀ (v : Int32) (M : Mem) (L : LMem), K v M L → Q (some (.int v)) M L) : Wp E d 3 0 [.ref 41, .null, .null] [] M L Q := by
  unfold P_X0_goingOn at hP
  refine wp_seg (pc' := 4) [.iconst 0, .istore 1, .iconst 0, .istore 2] (by decide +kernel) (?_ : Wp E d 3 4 [.ref 41, .int (Int32.ofInt 0), .int (Int32.ofInt 0)] [] M L Q)
  exact tl_X0_goingOn_4 hK 100000 (Int32.ofInt 0) (Int32.ofInt 0) M L hP

def PL_X0_endCalls_41 (K : Mem → LMem → Prop) (C_2 : Int32 → Mem → LMem → Prop) : Nat → Int32 → Int32 → Mem → LMem → Prop
  | 0, _, _, _, _ => False
  | n_ + 1, v1, v2, M, L => (((Int32.ofInt 8) ≤ v2 → C_2 (v1 + Int32.ofInt 1) M L) ∧ (¬ ((Int32.ofInt 8) ≤ v2) → (vp_in v1 20 ∧ (((((M 45 v1.toNatClampNeg) >>> (v2 &&& 31)) &&& (Int32.ofInt 1)) = 0 → PL_X0_endCalls_41 K C_2 n_ v1 (v2 + Int32.ofInt 1) M L) ∧ (¬ ((((M 45 v1.toNatClampNeg) >>> (v2 &&& 31)) &&& (Int32.ofInt 1)) = 0) → (vp_in v2 8 ∧ PL_X0_endCalls_41 K C_2 n_ v1 (v2 + Int32.ofInt 1) (mput M 48 v2.toNatClampNeg ((M 48 v2.toNatClampNeg) ||| (M 46 v1.toNatClampNeg))) L))))))
theorem tl_X0_endCalls_41 {E : VE} {d : Nat} {Q : QQ} {K : Mem → LMem → Prop} {C_2 : Int32 → Mem → LMem → Prop} (hK : ∀ (M : Mem) (L : LMem), K M L → Q none M L) (hC_2 : ∀ (v1 : Int32) (M : Mem) (L : LMem), C_2 v1 M L → Wp E d 4 2 [.ref 41, .int v1, .null] [] M L Q) : ∀ (n_ : Nat) (v1 : Int32) (v2 : Int32) (M : Mem) (L : LMem), PL_X0_endCalls_41 K C_2 n_ v1 v2 M L → Wp E d 4 41 [.ref 41, .int v1, .int v2] [] M L Q := by
  intro n_
  induction n_ with
  | zero => intro v1 v2 M L hP; exact False.elim hP
  | succ n_ ih =>
    intro v1 v2 M L hP
    unfold PL_X0_endCalls_41 at hP
    refine wp_seg (pc' := 44) [.iload 2, .iconst 8] (by decide +kernel) (?_ : Wp E d 4 44 [.ref 41, .int v1, .int v2] [.int (Int32.ofInt 8), .int v2] M L Q)
    refine wp_icmpge (off := 37) 81 (by decide +kernel) (by decide) (fun c_5 => ?_) (fun c_5 => ?_)
    · have hP := hP.1 c_5
      refine wp_seg (pc' := 2) [.iinc 1 1, .goto 0] (by decide +kernel) (?_ : Wp E d 4 2 [.ref 41, .int (v1 + Int32.ofInt 1), .int v2] [] M L Q)
      refine wp_drop (lo := [.ref 41, .int (v1 + Int32.ofInt 1), .null]) ⟨Or.inr rfl, Or.inr rfl, Or.inl rfl, trivial⟩ ?_
      exact hC_2 (v1 + Int32.ofInt 1) M L hP
    · have hP := hP.2 c_5
      obtain ⟨a_6, hP⟩ := hP
      refine wp_seg (pc' := 53) [.aload 0, .getfield 3, .iload 1, .iaload] (by decide +kernel) (show aok 45 0 v1 ∧ Wp E d 4 53 [.ref 41, .int v1, .int v2] [.int (M 45 v1.toNatClampNeg)] M L Q from ⟨⟨rfl, a_6⟩, ?_⟩)
      refine wp_seg (pc' := 57) [.iload 2, .ishr, .iconst 1, .iand] (by decide +kernel) (?_ : Wp E d 4 57 [.ref 41, .int v1, .int v2] [.int (((M 45 v1.toNatClampNeg) >>> (v2 &&& 31)) &&& (Int32.ofInt 1))] M L Q)
      refine wp_ifeq (off := 18) 75 (by decide +kernel) (by decide) (fun c_7 => ?_) (fun c_7 => ?_)
      · have hP := hP.1 c_7
        refine wp_seg (pc' := 41) [.iinc 2 1, .goto 0] (by decide +kernel) (?_ : Wp E d 4 41 [.ref 41, .int v1, .int (v2 + Int32.ofInt 1)] [] M L Q)
        exact ih v1 (v2 + Int32.ofInt 1) M L hP
      · have hP := hP.2 c_7
        obtain ⟨a_8, hP⟩ := hP
        refine wp_seg (pc' := 67) [.aload 0, .getfield 6, .iload 2, .dup2, .iaload] (by decide +kernel) (show aok 48 0 v2 ∧ Wp E d 4 67 [.ref 41, .int v1, .int v2] [.int (M 48 v2.toNatClampNeg), .int v2, .ref 48] M L Q from ⟨⟨rfl, a_8⟩, ?_⟩)
        refine wp_seg (pc' := 73) [.aload 0, .getfield 4, .iload 1, .iaload] (by decide +kernel) (show aok 46 0 v1 ∧ Wp E d 4 73 [.ref 41, .int v1, .int v2] [.int (M 46 v1.toNatClampNeg), .int (M 48 v2.toNatClampNeg), .int v2, .ref 48] M L Q from ⟨⟨rfl, a_6⟩, ?_⟩)
        refine wp_seg (pc' := 75) [.ior, .iastore] (by decide +kernel) (show aok 48 0 v2 ∧ Wp E d 4 75 [.ref 41, .int v1, .int v2] [] (mput M 48 v2.toNatClampNeg ((M 48 v2.toNatClampNeg) ||| (M 46 v1.toNatClampNeg))) L Q from ⟨⟨rfl, a_8⟩, ?_⟩)
        refine wp_seg (pc' := 41) [.iinc 2 1, .goto 0] (by decide +kernel) (?_ : Wp E d 4 41 [.ref 41, .int v1, .int (v2 + Int32.ofInt 1)] [] (mput M 48 v2.toNatClampNeg ((M 48 v2.toNatClampNeg) ||| (M 46 v1.toNatClampNeg))) L Q)
        exact ih v1 (v2 + Int32.ofInt 1) (mput M 48 v2.toNatClampNeg ((M 48 v2.toNatClampNeg) ||| (M 46 v1.toNatClampNeg))) L hP
def PL_X0_endCalls_2 (K : Mem → LMem → Prop)  : Nat → Int32 → Mem → LMem → Prop
  | 0, _, _, _ => False
  | n_ + 1, v1, M, L => (((M 41 7) ≤ v1 → K M L) ∧ (¬ ((M 41 7) ≤ v1) → (vp_in v1 20 ∧ (((M 47 v1.toNatClampNeg) = 0 → (((M 41 8) < (M 43 v1.toNatClampNeg) → PL_X0_endCalls_2 K n_ (v1 + Int32.ofInt 1) M L) ∧ (¬ ((M 41 8) < (M 43 v1.toNatClampNeg)) → PL_X0_endCalls_41 K (PL_X0_endCalls_2 K n_) 100000 v1 (Int32.ofInt 0) (mput M 47 v1.toNatClampNeg (vp_nar .boolean (Int32.ofInt 1))) L))) ∧ (¬ ((M 47 v1.toNatClampNeg) = 0) → PL_X0_endCalls_2 K n_ (v1 + Int32.ofInt 1) M L)))))
theorem tl_X0_endCalls_2 {E : VE} {d : Nat} {Q : QQ} {K : Mem → LMem → Prop}  (hK : ∀ (M : Mem) (L : LMem), K M L → Q none M L)  : ∀ (n_ : Nat) (v1 : Int32) (M : Mem) (L : LMem), PL_X0_endCalls_2 K n_ v1 M L → Wp E d 4 2 [.ref 41, .int v1, .null] [] M L Q := by
  intro n_
  induction n_ with
  | zero => intro v1 M L hP; exact False.elim hP
  | succ n_ ih =>
    intro v1 M L hP
    unfold PL_X0_endCalls_2 at hP
    refine wp_seg (pc' := 7) [.iload 1, .aload 0, .getfield 7] (by decide +kernel) (?_ : Wp E d 4 7 [.ref 41, .int v1, .null] [.int (M 41 7), .int v1] M L Q)
    refine wp_icmpge (off := 80) 87 (by decide +kernel) (by decide) (fun c_1 => ?_) (fun c_1 => ?_)
    · have hP := hP.1 c_1
      exact wp_vret (by decide +kernel) rfl (hK _ _ hP)
    · have hP := hP.2 c_1
      obtain ⟨a_2, hP⟩ := hP
      refine wp_seg (pc' := 16) [.aload 0, .getfield 5, .iload 1, .baload] (by decide +kernel) (show (aok 47 1 v1 ∨ aok 47 3 v1) ∧ Wp E d 4 16 [.ref 41, .int v1, .null] [.int (M 47 v1.toNatClampNeg)] M L Q from ⟨Or.inl ⟨rfl, a_2⟩, ?_⟩)
      refine wp_ifne (off := 65) 81 (by decide +kernel) (by decide) (fun c_3 => ?_) (fun c_3 => ?_)
      · have hP := hP.2 c_3
        refine wp_seg (pc' := 2) [.iinc 1 1, .goto 0] (by decide +kernel) (?_ : Wp E d 4 2 [.ref 41, .int (v1 + Int32.ofInt 1), .null] [] M L Q)
        exact ih (v1 + Int32.ofInt 1) M L hP
      · have hP := hP.1 c_3
        refine wp_seg (pc' := 25) [.aload 0, .getfield 1, .iload 1, .iaload] (by decide +kernel) (show aok 43 0 v1 ∧ Wp E d 4 25 [.ref 41, .int v1, .null] [.int (M 43 v1.toNatClampNeg)] M L Q from ⟨⟨rfl, a_2⟩, ?_⟩)
        refine wp_seg (pc' := 29) [.aload 0, .getfield 8] (by decide +kernel) (?_ : Wp E d 4 29 [.ref 41, .int v1, .null] [.int (M 41 8), .int (M 43 v1.toNatClampNeg)] M L Q)
        refine wp_icmpgt (off := 52) 81 (by decide +kernel) (by decide) (fun c_4 => ?_) (fun c_4 => ?_)
        · have hP := hP.1 c_4
          refine wp_seg (pc' := 2) [.iinc 1 1, .goto 0] (by decide +kernel) (?_ : Wp E d 4 2 [.ref 41, .int (v1 + Int32.ofInt 1), .null] [] M L Q)
          exact ih (v1 + Int32.ofInt 1) M L hP
        · have hP := hP.2 c_4
          refine wp_seg (pc' := 39) [.aload 0, .getfield 5, .iload 1, .iconst 1, .bastore] (by decide +kernel) (Or.inl (show aok 47 1 v1 ∧ Wp E d 4 39 [.ref 41, .int v1, .null] [] (mput M 47 v1.toNatClampNeg (vp_nar .boolean (Int32.ofInt 1))) L Q from ⟨⟨rfl, a_2⟩, ?_⟩))
          refine wp_seg (pc' := 41) [.iconst 0, .istore 2] (by decide +kernel) (?_ : Wp E d 4 41 [.ref 41, .int v1, .int (Int32.ofInt 0)] [] (mput M 47 v1.toNatClampNeg (vp_nar .boolean (Int32.ofInt 1))) L Q)
          exact tl_X0_endCalls_41 hK (fun v1 M L hP => ih v1 M L hP) 100000 v1 (Int32.ofInt 0) (mput M 47 v1.toNatClampNeg (vp_nar .boolean (Int32.ofInt 1))) L hP
def P_X0_endCalls (M : Mem) (L : LMem) (K : Mem → LMem → Prop) : Prop := PL_X0_endCalls_2 K 100000 (Int32.ofInt 0) M L
theorem t_X0_endCalls {E : VE} {d : Nat} {Q : QQ} {K : Mem → LMem → Prop} {M : Mem} {L : LMem} (hP : P_X0_endCalls M L K) (hK : ∀ (M : Mem) (L : LMem), K M L → Q none M L) : Wp E d 4 0 [.ref 41, .null, .null] [] M L Q := by
  unfold P_X0_endCalls at hP
  refine wp_seg (pc' := 2) [.iconst 0, .istore 1] (by decide +kernel) (?_ : Wp E d 4 2 [.ref 41, .int (Int32.ofInt 0), .null] [] M L Q)
  exact tl_X0_endCalls_2 hK 100000 (Int32.ofInt 0) M L hP

def PL_X0_whyNot_12 (K : Int32 → Mem → LMem → Prop)  : Nat → Int32 → Int32 → Int32 → Int32 → Int32 → Int32 → Mem → LMem → Prop
  | 0, _, _, _, _, _, _, _, _ => False
  | n_ + 1, v1, v2, v5, v6, v7, v8, M, L => (((M 41 7) ≤ v8 → P_X6_find v1 v2 (Int32.ofInt 0) M L (fun v_4 M_2 L_3 => ((v_4 = 0 → K (Int32.ofInt 1) M_2 L_3) ∧ (¬ (v_4 = 0) → ((((v5 >>> (v1 &&& 31)) &&& (Int32.ofInt 1)) = 0 → ((((v5 >>> (v2 &&& 31)) &&& (Int32.ofInt 1)) = 0 → P_X2_ofKind (Int32.ofInt 61) M_2 L_3 (fun v_10 M_8 L_9 => P_X6_find v1 v2 (f_X9_takenOf M_8 v6 v7 v_10) M_8 L_9 (fun v_13 M_11 L_12 => ((v_13 = 0 → K (Int32.ofInt 4) M_11 L_12) ∧ (¬ (v_13 = 0) → K (Int32.ofInt 0) M_11 L_12))))) ∧ (¬ (((v5 >>> (v2 &&& 31)) &&& (Int32.ofInt 1)) = 0) → K (Int32.ofInt 3) M_2 L_3))) ∧ (¬ (((v5 >>> (v1 &&& 31)) &&& (Int32.ofInt 1)) = 0) → K (Int32.ofInt 2) M_2 L_3)))))) ∧ (¬ ((M 41 7) ≤ v8) → (vp_in v8 20 ∧ (((M 47 v8.toNatClampNeg) = 0 → PL_X0_whyNot_12 K n_ v1 v2 (v5 ||| (M 42 v8.toNatClampNeg)) (v6 ||| (M 44 v8.toNatClampNeg)) (v7 ||| (v6 &&& (M 44 v8.toNatClampNeg))) (v8 + Int32.ofInt 1) M L) ∧ (¬ ((M 47 v8.toNatClampNeg) = 0) → PL_X0_whyNot_12 K n_ v1 v2 v5 v6 v7 (v8 + Int32.ofInt 1) M L)))))
theorem tl_X0_whyNot_12 {E : VE} {d : Nat} {Q : QQ} {K : Int32 → Mem → LMem → Prop}  (hK : ∀ (v : Int32) (M : Mem) (L : LMem), K v M L → Q (some (.int v)) M L)  : ∀ (n_ : Nat) (v1 : Int32) (v2 : Int32) (v5 : Int32) (v6 : Int32) (v7 : Int32) (v8 : Int32) (M : Mem) (L : LMem), PL_X0_whyNot_12 K n_ v1 v2 v5 v6 v7 v8 M L → Wp E (d + 4) 2 12 [.ref 41, .int v1, .int v2, .ref 3, .ref 37, .int v5, .int v6, .int v7, .int v8] [] M L Q := by
  intro n_
  induction n_ with
  | zero => intro v1 v2 v5 v6 v7 v8 M L hP; exact False.elim hP
  | succ n_ ih =>
    intro v1 v2 v5 v6 v7 v8 M L hP
    unfold PL_X0_whyNot_12 at hP
    refine wp_seg (pc' := 18) [.iload 8, .aload 0, .getfield 7] (by decide +kernel) (?_ : Wp E (d + 4) 2 18 [.ref 41, .int v1, .int v2, .ref 3, .ref 37, .int v5, .int v6, .int v7, .int v8] [.int (M 41 7), .int v8] M L Q)
    refine wp_icmpge (off := 58) 76 (by decide +kernel) (by decide) (fun c_1 => ?_) (fun c_1 => ?_)
    · have hP := hP.1 c_1
      refine wp_seg (pc' := 82) [.aload 4, .aload 3, .iload 1, .iload 2, .iconst 0] (by decide +kernel) (?_ : Wp E (d + 4) 2 82 [.ref 41, .int v1, .int v2, .ref 3, .ref 37, .int v5, .int v6, .int v7, .int v8] [.int (Int32.ofInt 0), .int v2, .int v1, .ref 3, .ref 37] M L Q)
      refine wp_callV 38 37 [.ref 3, .int v1, .int v2, .int (Int32.ofInt 0)] (i := 112) (by decide +kernel) (by decide +kernel) (by decide +kernel) (by decide +kernel) rfl rfl rfl (rest := []) rfl rfl ?_
      refine t_X6_find hP (fun v_4 M_2 L_3 hP => ?_)
      show Wp E (d + 4) 2 85 [.ref 41, .int v1, .int v2, .ref 3, .ref 37, .int v5, .int v6, .int v7, .int v8] [.int v_4] M_2 L_3 Q
      refine wp_ifne (off := 5) 90 (by decide +kernel) (by decide) (fun c_5 => ?_) (fun c_5 => ?_)
      · have hP := hP.2 c_5
        refine wp_seg (pc' := 96) [.iload 5, .iload 1, .ishr, .iconst 1, .iand] (by decide +kernel) (?_ : Wp E (d + 4) 2 96 [.ref 41, .int v1, .int v2, .ref 3, .ref 37, .int v5, .int v6, .int v7, .int v8] [.int ((v5 >>> (v1 &&& 31)) &&& (Int32.ofInt 1))] M_2 L_3 Q)
        refine wp_ifeq (off := 5) 101 (by decide +kernel) (by decide) (fun c_6 => ?_) (fun c_6 => ?_)
        · have hP := hP.1 c_6
          refine wp_seg (pc' := 107) [.iload 5, .iload 2, .ishr, .iconst 1, .iand] (by decide +kernel) (?_ : Wp E (d + 4) 2 107 [.ref 41, .int v1, .int v2, .ref 3, .ref 37, .int v5, .int v6, .int v7, .int v8] [.int ((v5 >>> (v2 &&& 31)) &&& (Int32.ofInt 1))] M_2 L_3 Q)
          refine wp_ifeq (off := 5) 112 (by decide +kernel) (by decide) (fun c_7 => ?_) (fun c_7 => ?_)
          · have hP := hP.1 c_7
            refine wp_seg (pc' := 127) [.aload 4, .aload 3, .iload 1, .iload 2, .iload 6, .iload 7, .aload 3, .getfield 192, .iconst 61] (by decide +kernel) (?_ : Wp E (d + 4) 2 127 [.ref 41, .int v1, .int v2, .ref 3, .ref 37, .int v5, .int v6, .int v7, .int v8] [.int (Int32.ofInt 61), .ref 4, .int v7, .int v6, .int v2, .int v1, .ref 3, .ref 37] M_2 L_3 Q)
            refine wp_callV 14 4 [.int (Int32.ofInt 61)] (i := 116) (by decide +kernel) (by decide +kernel) (by decide +kernel) (by decide +kernel) rfl rfl rfl (rest := [.int v7, .int v6, .int v2, .int v1, .ref 3, .ref 37]) rfl rfl ?_
            refine t_X2_ofKind hP (fun v_10 M_8 L_9 hP => ?_)
            show Wp E (d + 4) 2 130 [.ref 41, .int v1, .int v2, .ref 3, .ref 37, .int v5, .int v6, .int v7, .int v8] [.int v_10, .int v7, .int v6, .int v2, .int v1, .ref 3, .ref 37] M_8 L_9 Q
            refine wp_callN 86 [.int v6, .int v7, .int v_10] (i := 121) (by decide +kernel) (by decide +kernel) (by decide +kernel) (by decide +kernel) rfl rfl rfl (rest := [.int v2, .int v1, .ref 3, .ref 37]) rfl rfl ?_
            refine s_X9_takenOf M_8 v6 v7 v_10  ?_
            show Wp E (d + 4) 2 133 [.ref 41, .int v1, .int v2, .ref 3, .ref 37, .int v5, .int v6, .int v7, .int v8] [.int (f_X9_takenOf M_8 v6 v7 v_10), .int v2, .int v1, .ref 3, .ref 37] M_8 L_9 Q
            refine wp_callV 38 37 [.ref 3, .int v1, .int v2, .int (f_X9_takenOf M_8 v6 v7 v_10)] (i := 112) (by decide +kernel) (by decide +kernel) (by decide +kernel) (by decide +kernel) rfl rfl rfl (rest := []) rfl rfl ?_
            refine t_X6_find hP (fun v_13 M_11 L_12 hP => ?_)
            show Wp E (d + 4) 2 136 [.ref 41, .int v1, .int v2, .ref 3, .ref 37, .int v5, .int v6, .int v7, .int v8] [.int v_13] M_11 L_12 Q
            refine wp_ifeq (off := 7) 143 (by decide +kernel) (by decide) (fun c_14 => ?_) (fun c_14 => ?_)
            · have hP := hP.1 c_14
              refine wp_seg (pc' := 144) [.iconst 4] (by decide +kernel) (?_ : Wp E (d + 4) 2 144 [.ref 41, .int v1, .int v2, .ref 3, .ref 37, .int v5, .int v6, .int v7, .int v8] [.int (Int32.ofInt 4)] M_11 L_12 Q)
              exact wp_iret (by decide +kernel) rfl (hK _ _ _ hP)
            · have hP := hP.2 c_14
              refine wp_seg (pc' := 144) [.iconst 0, .goto 0] (by decide +kernel) (?_ : Wp E (d + 4) 2 144 [.ref 41, .int v1, .int v2, .ref 3, .ref 37, .int v5, .int v6, .int v7, .int v8] [.int (Int32.ofInt 0)] M_11 L_12 Q)
              exact wp_iret (by decide +kernel) rfl (hK _ _ _ hP)
          · have hP := hP.2 c_7
            refine wp_seg (pc' := 111) [.iconst 3] (by decide +kernel) (?_ : Wp E (d + 4) 2 111 [.ref 41, .int v1, .int v2, .ref 3, .ref 37, .int v5, .int v6, .int v7, .int v8] [.int (Int32.ofInt 3)] M_2 L_3 Q)
            exact wp_iret (by decide +kernel) rfl (hK _ _ _ hP)
        · have hP := hP.2 c_6
          refine wp_seg (pc' := 100) [.iconst 2] (by decide +kernel) (?_ : Wp E (d + 4) 2 100 [.ref 41, .int v1, .int v2, .ref 3, .ref 37, .int v5, .int v6, .int v7, .int v8] [.int (Int32.ofInt 2)] M_2 L_3 Q)
          exact wp_iret (by decide +kernel) rfl (hK _ _ _ hP)
      · have hP := hP.1 c_5
        refine wp_seg (pc' := 89) [.iconst 1] (by decide +kernel) (?_ : Wp E (d + 4) 2 89 [.ref 41, .int v1, .int v2, .ref 3, .ref 37, .int v5, .int v6, .int v7, .int v8] [.int (Int32.ofInt 1)] M_2 L_3 Q)
        exact wp_iret (by decide +kernel) rfl (hK _ _ _ hP)
    · have hP := hP.2 c_1
      obtain ⟨a_15, hP⟩ := hP
      refine wp_seg (pc' := 28) [.aload 0, .getfield 5, .iload 8, .baload] (by decide +kernel) (show (aok 47 1 v8 ∨ aok 47 3 v8) ∧ Wp E (d + 4) 2 28 [.ref 41, .int v1, .int v2, .ref 3, .ref 37, .int v5, .int v6, .int v7, .int v8] [.int (M 47 v8.toNatClampNeg)] M L Q from ⟨Or.inl ⟨rfl, a_15⟩, ?_⟩)
      refine wp_ifne (off := 42) 70 (by decide +kernel) (by decide) (fun c_16 => ?_) (fun c_16 => ?_)
      · have hP := hP.2 c_16
        refine wp_seg (pc' := 12) [.iinc 8 1, .goto 0] (by decide +kernel) (?_ : Wp E (d + 4) 2 12 [.ref 41, .int v1, .int v2, .ref 3, .ref 37, .int v5, .int v6, .int v7, .int (v8 + Int32.ofInt 1)] [] M L Q)
        exact ih v1 v2 v5 v6 v7 (v8 + Int32.ofInt 1) M L hP
      · have hP := hP.1 c_16
        refine wp_seg (pc' := 40) [.iload 5, .aload 0, .getfield 0, .iload 8, .iaload] (by decide +kernel) (show aok 42 0 v8 ∧ Wp E (d + 4) 2 40 [.ref 41, .int v1, .int v2, .ref 3, .ref 37, .int v5, .int v6, .int v7, .int v8] [.int (M 42 v8.toNatClampNeg), .int v5] M L Q from ⟨⟨rfl, a_15⟩, ?_⟩)
        refine wp_seg (pc' := 54) [.ior, .istore 5, .iload 7, .iload 6, .aload 0, .getfield 2, .iload 8, .iaload] (by decide +kernel) (show aok 44 0 v8 ∧ Wp E (d + 4) 2 54 [.ref 41, .int v1, .int v2, .ref 3, .ref 37, .int (v5 ||| (M 42 v8.toNatClampNeg)), .int v6, .int v7, .int v8] [.int (M 44 v8.toNatClampNeg), .int v6, .int v7] M L Q from ⟨⟨rfl, a_15⟩, ?_⟩)
        refine wp_seg (pc' := 67) [.iand, .ior, .istore 7, .iload 6, .aload 0, .getfield 2, .iload 8, .iaload] (by decide +kernel) (show aok 44 0 v8 ∧ Wp E (d + 4) 2 67 [.ref 41, .int v1, .int v2, .ref 3, .ref 37, .int (v5 ||| (M 42 v8.toNatClampNeg)), .int v6, .int (v7 ||| (v6 &&& (M 44 v8.toNatClampNeg))), .int v8] [.int (M 44 v8.toNatClampNeg), .int v6] M L Q from ⟨⟨rfl, a_15⟩, ?_⟩)
        refine wp_seg (pc' := 12) [.ior, .istore 6, .iinc 8 1, .goto 0] (by decide +kernel) (?_ : Wp E (d + 4) 2 12 [.ref 41, .int v1, .int v2, .ref 3, .ref 37, .int (v5 ||| (M 42 v8.toNatClampNeg)), .int (v6 ||| (M 44 v8.toNatClampNeg)), .int (v7 ||| (v6 &&& (M 44 v8.toNatClampNeg))), .int (v8 + Int32.ofInt 1)] [] M L Q)
        exact ih v1 v2 (v5 ||| (M 42 v8.toNatClampNeg)) (v6 ||| (M 44 v8.toNatClampNeg)) (v7 ||| (v6 &&& (M 44 v8.toNatClampNeg))) (v8 + Int32.ofInt 1) M L hP
def P_X0_whyNot (x1 : Int32) (x2 : Int32) (M : Mem) (L : LMem) (K : Int32 → Mem → LMem → Prop) : Prop := PL_X0_whyNot_12 K 100000 x1 x2 (Int32.ofInt 0) (Int32.ofInt 0) (Int32.ofInt 0) (Int32.ofInt 0) M L
theorem t_X0_whyNot {E : VE} {d : Nat} {Q : QQ} {K : Int32 → Mem → LMem → Prop} {x1 : Int32} {x2 : Int32} {M : Mem} {L : LMem} (hP : P_X0_whyNot x1 x2 M L K) (hK : ∀ (v : Int32) (M : Mem) (L : LMem), K v M L → Q (some (.int v)) M L) : Wp E (d + 4) 2 0 [.ref 41, .int x1, .int x2, .ref 3, .ref 37, .null, .null, .null, .null] [] M L Q := by
  unfold P_X0_whyNot at hP
  refine wp_seg (pc' := 12) [.iconst 0, .istore 5, .iconst 0, .istore 6, .iconst 0, .istore 7, .iconst 0, .istore 8] (by decide +kernel) (?_ : Wp E (d + 4) 2 12 [.ref 41, .int x1, .int x2, .ref 3, .ref 37, .int (Int32.ofInt 0), .int (Int32.ofInt 0), .int (Int32.ofInt 0), .int (Int32.ofInt 0)] [] M L Q)
  exact tl_X0_whyNot_12 hK 100000 x1 x2 (Int32.ofInt 0) (Int32.ofInt 0) (Int32.ofInt 0) (Int32.ofInt 0) M L hP

def P_X0_beginCall (x1 : Int32) (x2 : Int32) (x3 : Int32) (x5 : Int32) (M : Mem) (L : LMem) (K : Mem → LMem → Prop) : Prop := (((M 41 7) < (Int32.ofInt 20) → (vp_in (M 41 7) 20 ∧ (vp_in x1 8 ∧ P_X0_goingOn (mput (mput (mput (mput (mput (mput (mput (mput (mput M 42 ((M 41 7).toNatClampNeg) (((Int32.ofInt 1) <<< (x1 &&& 31)) ||| ((Int32.ofInt 1) <<< (x2 &&& 31)))) 43 ((M 41 7).toNatClampNeg) ((M 41 8) + x3)) 44 ((M 41 7).toNatClampNeg) (M 37 5)) 45 ((M 41 7).toNatClampNeg) (x5 ||| ((mput M 42 ((M 41 7).toNatClampNeg) (((Int32.ofInt 1) <<< (x1 &&& 31)) ||| ((Int32.ofInt 1) <<< (x2 &&& 31)))) 42 ((M 41 7).toNatClampNeg)))) 46 ((M 41 7).toNatClampNeg) (M 48 x1.toNatClampNeg)) 47 ((M 41 7).toNatClampNeg) (vp_nar .boolean (Int32.ofInt 0))) 41 9 (if (M 41 9) < ((mput (mput M 42 ((M 41 7).toNatClampNeg) (((Int32.ofInt 1) <<< (x1 &&& 31)) ||| ((Int32.ofInt 1) <<< (x2 &&& 31)))) 43 ((M 41 7).toNatClampNeg) ((M 41 8) + x3)) 43 ((M 41 7).toNatClampNeg)) then ((mput (mput M 42 ((M 41 7).toNatClampNeg) (((Int32.ofInt 1) <<< (x1 &&& 31)) ||| ((Int32.ofInt 1) <<< (x2 &&& 31)))) 43 ((M 41 7).toNatClampNeg) ((M 41 8) + x3)) 43 ((M 41 7).toNatClampNeg)) else (M 41 9))) 41 11 ((M 41 11) ||| (M 37 5))) 41 7 ((M 41 7) + (Int32.ofInt 1))) L (fun v_6 M_4 L_5 => K (mput M_4 41 10 (if (M 41 10) < v_6 then v_6 else (M 41 10))) L_5)))) ∧ (¬ ((M 41 7) < (Int32.ofInt 20)) → K M L))
theorem t_X0_beginCall {E : VE} {d : Nat} {Q : QQ} {K : Mem → LMem → Prop} {x1 : Int32} {x2 : Int32} {x3 : Int32} {x5 : Int32} {M : Mem} {L : LMem} (hP : P_X0_beginCall x1 x2 x3 x5 M L K) (hK : ∀ (M : Mem) (L : LMem), K M L → Q none M L) : Wp E (d + 1) 1 0 [.ref 41, .int x1, .int x2, .int x3, .ref 37, .int x5] [] M L Q := by
  unfold P_X0_beginCall at hP
  refine wp_seg (pc' := 6) [.aload 0, .getfield 7, .iconst 20] (by decide +kernel) (?_ : Wp E (d + 1) 1 6 [.ref 41, .int x1, .int x2, .int x3, .ref 37, .int x5] [.int (Int32.ofInt 20), .int (M 41 7)] M L Q)
  refine wp_icmplt (off := 4) 10 (by decide +kernel) (by decide) (fun c_1 => ?_) (fun c_1 => ?_)
  · have hP := hP.1 c_1
    obtain ⟨a_2, hP⟩ := hP
    refine wp_seg (pc' := 26) [.aload 0, .getfield 0, .aload 0, .getfield 7, .iconst 1, .iload 1, .ishl, .iconst 1, .iload 2, .ishl, .ior, .iastore] (by decide +kernel) (show aok 42 0 (M 41 7) ∧ Wp E (d + 1) 1 26 [.ref 41, .int x1, .int x2, .int x3, .ref 37, .int x5] [] (mput M 42 ((M 41 7).toNatClampNeg) (((Int32.ofInt 1) <<< (x1 &&& 31)) ||| ((Int32.ofInt 1) <<< (x2 &&& 31)))) L Q from ⟨⟨rfl, a_2⟩, ?_⟩)
    refine wp_seg (pc' := 41) [.aload 0, .getfield 1, .aload 0, .getfield 7, .aload 0, .getfield 8, .iload 3, .iadd, .iastore] (by decide +kernel) (show aok 43 0 (M 41 7) ∧ Wp E (d + 1) 1 41 [.ref 41, .int x1, .int x2, .int x3, .ref 37, .int x5] [] (mput (mput M 42 ((M 41 7).toNatClampNeg) (((Int32.ofInt 1) <<< (x1 &&& 31)) ||| ((Int32.ofInt 1) <<< (x2 &&& 31)))) 43 ((M 41 7).toNatClampNeg) ((M 41 8) + x3)) L Q from ⟨⟨rfl, a_2⟩, ?_⟩)
    refine wp_seg (pc' := 55) [.aload 0, .getfield 2, .aload 0, .getfield 7, .aload 4, .getfield 389, .iastore] (by decide +kernel) (show aok 44 0 (M 41 7) ∧ Wp E (d + 1) 1 55 [.ref 41, .int x1, .int x2, .int x3, .ref 37, .int x5] [] (mput (mput (mput M 42 ((M 41 7).toNatClampNeg) (((Int32.ofInt 1) <<< (x1 &&& 31)) ||| ((Int32.ofInt 1) <<< (x2 &&& 31)))) 43 ((M 41 7).toNatClampNeg) ((M 41 8) + x3)) 44 ((M 41 7).toNatClampNeg) (M 37 5)) L Q from ⟨⟨rfl, a_2⟩, ?_⟩)
    refine wp_seg (pc' := 74) [.aload 0, .getfield 3, .aload 0, .getfield 7, .iload 5, .aload 0, .getfield 0, .aload 0, .getfield 7, .iaload] (by decide +kernel) (show aok 42 0 (M 41 7) ∧ Wp E (d + 1) 1 74 [.ref 41, .int x1, .int x2, .int x3, .ref 37, .int x5] [.int ((mput M 42 ((M 41 7).toNatClampNeg) (((Int32.ofInt 1) <<< (x1 &&& 31)) ||| ((Int32.ofInt 1) <<< (x2 &&& 31)))) 42 ((M 41 7).toNatClampNeg)), .int x5, .int (M 41 7), .ref 45] (mput (mput (mput M 42 ((M 41 7).toNatClampNeg) (((Int32.ofInt 1) <<< (x1 &&& 31)) ||| ((Int32.ofInt 1) <<< (x2 &&& 31)))) 43 ((M 41 7).toNatClampNeg) ((M 41 8) + x3)) 44 ((M 41 7).toNatClampNeg) (M 37 5)) L Q from ⟨⟨rfl, a_2⟩, ?_⟩)
    refine wp_seg (pc' := 76) [.ior, .iastore] (by decide +kernel) (show aok 45 0 (M 41 7) ∧ Wp E (d + 1) 1 76 [.ref 41, .int x1, .int x2, .int x3, .ref 37, .int x5] [] (mput (mput (mput (mput M 42 ((M 41 7).toNatClampNeg) (((Int32.ofInt 1) <<< (x1 &&& 31)) ||| ((Int32.ofInt 1) <<< (x2 &&& 31)))) 43 ((M 41 7).toNatClampNeg) ((M 41 8) + x3)) 44 ((M 41 7).toNatClampNeg) (M 37 5)) 45 ((M 41 7).toNatClampNeg) (x5 ||| ((mput M 42 ((M 41 7).toNatClampNeg) (((Int32.ofInt 1) <<< (x1 &&& 31)) ||| ((Int32.ofInt 1) <<< (x2 &&& 31)))) 42 ((M 41 7).toNatClampNeg)))) L Q from ⟨⟨rfl, a_2⟩, ?_⟩)
    obtain ⟨a_3, hP⟩ := hP
    refine wp_seg (pc' := 90) [.aload 0, .getfield 4, .aload 0, .getfield 7, .aload 0, .getfield 6, .iload 1, .iaload] (by decide +kernel) (show aok 48 0 x1 ∧ Wp E (d + 1) 1 90 [.ref 41, .int x1, .int x2, .int x3, .ref 37, .int x5] [.int (M 48 x1.toNatClampNeg), .int (M 41 7), .ref 46] (mput (mput (mput (mput M 42 ((M 41 7).toNatClampNeg) (((Int32.ofInt 1) <<< (x1 &&& 31)) ||| ((Int32.ofInt 1) <<< (x2 &&& 31)))) 43 ((M 41 7).toNatClampNeg) ((M 41 8) + x3)) 44 ((M 41 7).toNatClampNeg) (M 37 5)) 45 ((M 41 7).toNatClampNeg) (x5 ||| ((mput M 42 ((M 41 7).toNatClampNeg) (((Int32.ofInt 1) <<< (x1 &&& 31)) ||| ((Int32.ofInt 1) <<< (x2 &&& 31)))) 42 ((M 41 7).toNatClampNeg)))) L Q from ⟨⟨rfl, a_3⟩, ?_⟩)
    refine wp_seg (pc' := 91) [.iastore] (by decide +kernel) (show aok 46 0 (M 41 7) ∧ Wp E (d + 1) 1 91 [.ref 41, .int x1, .int x2, .int x3, .ref 37, .int x5] [] (mput (mput (mput (mput (mput M 42 ((M 41 7).toNatClampNeg) (((Int32.ofInt 1) <<< (x1 &&& 31)) ||| ((Int32.ofInt 1) <<< (x2 &&& 31)))) 43 ((M 41 7).toNatClampNeg) ((M 41 8) + x3)) 44 ((M 41 7).toNatClampNeg) (M 37 5)) 45 ((M 41 7).toNatClampNeg) (x5 ||| ((mput M 42 ((M 41 7).toNatClampNeg) (((Int32.ofInt 1) <<< (x1 &&& 31)) ||| ((Int32.ofInt 1) <<< (x2 &&& 31)))) 42 ((M 41 7).toNatClampNeg)))) 46 ((M 41 7).toNatClampNeg) (M 48 x1.toNatClampNeg)) L Q from ⟨⟨rfl, a_2⟩, ?_⟩)
    refine wp_seg (pc' := 101) [.aload 0, .getfield 5, .aload 0, .getfield 7, .iconst 0, .bastore] (by decide +kernel) (Or.inl (show aok 47 1 (M 41 7) ∧ Wp E (d + 1) 1 101 [.ref 41, .int x1, .int x2, .int x3, .ref 37, .int x5] [] (mput (mput (mput (mput (mput (mput M 42 ((M 41 7).toNatClampNeg) (((Int32.ofInt 1) <<< (x1 &&& 31)) ||| ((Int32.ofInt 1) <<< (x2 &&& 31)))) 43 ((M 41 7).toNatClampNeg) ((M 41 8) + x3)) 44 ((M 41 7).toNatClampNeg) (M 37 5)) 45 ((M 41 7).toNatClampNeg) (x5 ||| ((mput M 42 ((M 41 7).toNatClampNeg) (((Int32.ofInt 1) <<< (x1 &&& 31)) ||| ((Int32.ofInt 1) <<< (x2 &&& 31)))) 42 ((M 41 7).toNatClampNeg)))) 46 ((M 41 7).toNatClampNeg) (M 48 x1.toNatClampNeg)) 47 ((M 41 7).toNatClampNeg) (vp_nar .boolean (Int32.ofInt 0))) L Q from ⟨⟨rfl, a_2⟩, ?_⟩))
    refine wp_seg (pc' := 115) [.aload 0, .aload 0, .getfield 9, .aload 0, .getfield 1, .aload 0, .getfield 7, .iaload] (by decide +kernel) (show aok 43 0 (M 41 7) ∧ Wp E (d + 1) 1 115 [.ref 41, .int x1, .int x2, .int x3, .ref 37, .int x5] [.int ((mput (mput M 42 ((M 41 7).toNatClampNeg) (((Int32.ofInt 1) <<< (x1 &&& 31)) ||| ((Int32.ofInt 1) <<< (x2 &&& 31)))) 43 ((M 41 7).toNatClampNeg) ((M 41 8) + x3)) 43 ((M 41 7).toNatClampNeg)), .int (M 41 9), .ref 41] (mput (mput (mput (mput (mput (mput M 42 ((M 41 7).toNatClampNeg) (((Int32.ofInt 1) <<< (x1 &&& 31)) ||| ((Int32.ofInt 1) <<< (x2 &&& 31)))) 43 ((M 41 7).toNatClampNeg) ((M 41 8) + x3)) 44 ((M 41 7).toNatClampNeg) (M 37 5)) 45 ((M 41 7).toNatClampNeg) (x5 ||| ((mput M 42 ((M 41 7).toNatClampNeg) (((Int32.ofInt 1) <<< (x1 &&& 31)) ||| ((Int32.ofInt 1) <<< (x2 &&& 31)))) 42 ((M 41 7).toNatClampNeg)))) 46 ((M 41 7).toNatClampNeg) (M 48 x1.toNatClampNeg)) 47 ((M 41 7).toNatClampNeg) (vp_nar .boolean (Int32.ofInt 0))) L Q from ⟨⟨rfl, a_2⟩, ?_⟩)
    refine wp_seg (pc' := 118) [.invokestatic 0] (by decide +kernel) (?_ : Wp E (d + 1) 1 118 [.ref 41, .int x1, .int x2, .int x3, .ref 37, .int x5] [.int (if (M 41 9) < ((mput (mput M 42 ((M 41 7).toNatClampNeg) (((Int32.ofInt 1) <<< (x1 &&& 31)) ||| ((Int32.ofInt 1) <<< (x2 &&& 31)))) 43 ((M 41 7).toNatClampNeg) ((M 41 8) + x3)) 43 ((M 41 7).toNatClampNeg)) then ((mput (mput M 42 ((M 41 7).toNatClampNeg) (((Int32.ofInt 1) <<< (x1 &&& 31)) ||| ((Int32.ofInt 1) <<< (x2 &&& 31)))) 43 ((M 41 7).toNatClampNeg) ((M 41 8) + x3)) 43 ((M 41 7).toNatClampNeg)) else (M 41 9)), .ref 41] (mput (mput (mput (mput (mput (mput M 42 ((M 41 7).toNatClampNeg) (((Int32.ofInt 1) <<< (x1 &&& 31)) ||| ((Int32.ofInt 1) <<< (x2 &&& 31)))) 43 ((M 41 7).toNatClampNeg) ((M 41 8) + x3)) 44 ((M 41 7).toNatClampNeg) (M 37 5)) 45 ((M 41 7).toNatClampNeg) (x5 ||| ((mput M 42 ((M 41 7).toNatClampNeg) (((Int32.ofInt 1) <<< (x1 &&& 31)) ||| ((Int32.ofInt 1) <<< (x2 &&& 31)))) 42 ((M 41 7).toNatClampNeg)))) 46 ((M 41 7).toNatClampNeg) (M 48 x1.toNatClampNeg)) 47 ((M 41 7).toNatClampNeg) (vp_nar .boolean (Int32.ofInt 0))) L Q)
    refine wp_seg (pc' := 151) [.putfield 9, .aload 0, .dup, .getfield 11, .aload 4, .getfield 389, .ior, .putfield 11, .aload 0, .dup, .getfield 7, .iconst 1, .iadd, .putfield 7, .aload 0, .aload 0, .getfield 10, .aload 0] (by decide +kernel) (?_ : Wp E (d + 1) 1 151 [.ref 41, .int x1, .int x2, .int x3, .ref 37, .int x5] [.ref 41, .int (M 41 10), .ref 41] (mput (mput (mput (mput (mput (mput (mput (mput (mput M 42 ((M 41 7).toNatClampNeg) (((Int32.ofInt 1) <<< (x1 &&& 31)) ||| ((Int32.ofInt 1) <<< (x2 &&& 31)))) 43 ((M 41 7).toNatClampNeg) ((M 41 8) + x3)) 44 ((M 41 7).toNatClampNeg) (M 37 5)) 45 ((M 41 7).toNatClampNeg) (x5 ||| ((mput M 42 ((M 41 7).toNatClampNeg) (((Int32.ofInt 1) <<< (x1 &&& 31)) ||| ((Int32.ofInt 1) <<< (x2 &&& 31)))) 42 ((M 41 7).toNatClampNeg)))) 46 ((M 41 7).toNatClampNeg) (M 48 x1.toNatClampNeg)) 47 ((M 41 7).toNatClampNeg) (vp_nar .boolean (Int32.ofInt 0))) 41 9 (if (M 41 9) < ((mput (mput M 42 ((M 41 7).toNatClampNeg) (((Int32.ofInt 1) <<< (x1 &&& 31)) ||| ((Int32.ofInt 1) <<< (x2 &&& 31)))) 43 ((M 41 7).toNatClampNeg) ((M 41 8) + x3)) 43 ((M 41 7).toNatClampNeg)) then ((mput (mput M 42 ((M 41 7).toNatClampNeg) (((Int32.ofInt 1) <<< (x1 &&& 31)) ||| ((Int32.ofInt 1) <<< (x2 &&& 31)))) 43 ((M 41 7).toNatClampNeg) ((M 41 8) + x3)) 43 ((M 41 7).toNatClampNeg)) else (M 41 9))) 41 11 ((M 41 11) ||| (M 37 5))) 41 7 ((M 41 7) + (Int32.ofInt 1))) L Q)
    refine wp_callV 3 41 [] (i := 108) (by decide +kernel) (by decide +kernel) (by decide +kernel) (by decide +kernel) rfl rfl rfl (rest := [.int (M 41 10), .ref 41]) rfl rfl ?_
    refine t_X0_goingOn hP (fun v_6 M_4 L_5 hP => ?_)
    show Wp E (d + 1) 1 154 [.ref 41, .int x1, .int x2, .int x3, .ref 37, .int x5] [.int v_6, .int (M 41 10), .ref 41] M_4 L_5 Q
    refine wp_seg (pc' := 157) [.invokestatic 0] (by decide +kernel) (?_ : Wp E (d + 1) 1 157 [.ref 41, .int x1, .int x2, .int x3, .ref 37, .int x5] [.int (if (M 41 10) < v_6 then v_6 else (M 41 10)), .ref 41] M_4 L_5 Q)
    refine wp_seg (pc' := 160) [.putfield 10] (by decide +kernel) (?_ : Wp E (d + 1) 1 160 [.ref 41, .int x1, .int x2, .int x3, .ref 37, .int x5] [] (mput M_4 41 10 (if (M 41 10) < v_6 then v_6 else (M 41 10))) L_5 Q)
    exact wp_vret (by decide +kernel) rfl (hK _ _ hP)
  · have hP := hP.2 c_1
    exact wp_vret (by decide +kernel) rfl (hK _ _ hP)

def PL_X0_run_51 (K : Mem → LMem → Prop)  : Nat → Int32 → Int32 → Int32 → Mem → LMem → Prop
  | 0, _, _, _, _, _ => False
  | n_ + 1, v4, v5, v6, M, L => (((Int32.ofInt 20) ≤ v6 → P_X0_endCalls (mput M 41 8 (if (M 41 8) < (M 41 9) then (M 41 9) else (M 41 8))) L (fun M_2 L_3 => K M_2 L_3)) ∧ (¬ ((Int32.ofInt 20) ≤ v6) → (((M 1 1) ≤ v5 → P_X0_endCalls (mput M 41 8 (if (M 41 8) < (M 41 9) then (M 41 9) else (M 41 8))) L (fun M_5 L_6 => K M_5 L_6)) ∧ (¬ ((M 1 1) ≤ v5) → (((M 41 12) = 0 → (((f_X5_signAt M v5) = (Int32.ofInt 46) → P_X0_endCalls (mput M 41 8 ((M 41 8) + (f_X5_numberOf M (v5 + (Int32.ofInt 1))))) L (fun M_20 L_21 => PL_X0_run_51 K n_ v4 (v5 + Int32.ofInt 2) (v6 + Int32.ofInt 1) M_20 L_21)) ∧ (¬ ((f_X5_signAt M v5) = (Int32.ofInt 46)) → P_X0_whyNot (f_X5_roomOf M v5) (f_X5_roomOf M (v5 + (Int32.ofInt 1))) M L (fun v_13 M_11 L_12 => ((v_13 = 0 → P_X6_hearers v4 (mput M_11 41 12 v_13) L_12 (fun v_17 M_15 L_16 => P_X0_beginCall (f_X5_roomOf M v5) (f_X5_roomOf M (v5 + (Int32.ofInt 1))) (f_X5_numberOf (mput M_11 41 12 v_13) (v5 + (Int32.ofInt 2))) v_17 M_15 L_16 (fun M_18 L_19 => PL_X0_run_51 K n_ v4 (v5 + Int32.ofInt 3) (v6 + Int32.ofInt 1) M_18 L_19))) ∧ (¬ (v_13 = 0) → PL_X0_run_51 K n_ v4 (v5 + Int32.ofInt 3) (v6 + Int32.ofInt 1) (mput M_11 41 12 v_13) L_12)))))) ∧ (¬ ((M 41 12) = 0) → P_X0_endCalls (mput M 41 8 (if (M 41 8) < (M 41 9) then (M 41 9) else (M 41 8))) L (fun M_8 L_9 => K M_8 L_9)))))))
theorem tl_X0_run_51 {E : VE} {d : Nat} {Q : QQ} {K : Mem → LMem → Prop}  (hK : ∀ (M : Mem) (L : LMem), K M L → Q none M L)  : ∀ (n_ : Nat) (v4 : Int32) (v5 : Int32) (v6 : Int32) (M : Mem) (L : LMem), PL_X0_run_51 K n_ v4 v5 v6 M L → Wp E (d + 5) 0 51 [.ref 41, .ref 1, .ref 3, .ref 37, .int v4, .int v5, .int v6, .null, .null] [] M L Q := by
  intro n_
  induction n_ with
  | zero => intro v4 v5 v6 M L hP; exact False.elim hP
  | succ n_ ih =>
    intro v4 v5 v6 M L hP
    unfold PL_X0_run_51 at hP
    refine wp_seg (pc' := 55) [.iload 6, .iconst 20] (by decide +kernel) (?_ : Wp E (d + 5) 0 55 [.ref 41, .ref 1, .ref 3, .ref 37, .int v4, .int v5, .int v6, .null, .null] [.int (Int32.ofInt 20), .int v6] M L Q)
    refine wp_icmpge (off := 132) 187 (by decide +kernel) (by decide) (fun c_1 => ?_) (fun c_1 => ?_)
    · have hP := hP.1 c_1
      refine wp_seg (pc' := 199) [.aload 0, .aload 0, .getfield 8, .aload 0, .getfield 9, .invokestatic 0] (by decide +kernel) (?_ : Wp E (d + 5) 0 199 [.ref 41, .ref 1, .ref 3, .ref 37, .int v4, .int v5, .int v6, .null, .null] [.int (if (M 41 8) < (M 41 9) then (M 41 9) else (M 41 8)), .ref 41] M L Q)
      refine wp_seg (pc' := 203) [.putfield 8, .aload 0] (by decide +kernel) (?_ : Wp E (d + 5) 0 203 [.ref 41, .ref 1, .ref 3, .ref 37, .int v4, .int v5, .int v6, .null, .null] [.ref 41] (mput M 41 8 (if (M 41 8) < (M 41 9) then (M 41 9) else (M 41 8))) L Q)
      refine wp_callV 4 41 [] (i := 76) (by decide +kernel) (by decide +kernel) (by decide +kernel) (by decide +kernel) rfl rfl rfl (rest := []) rfl rfl ?_
      refine t_X0_endCalls hP (fun M_2 L_3 hP => ?_)
      show Wp E (d + 5) 0 206 [.ref 41, .ref 1, .ref 3, .ref 37, .int v4, .int v5, .int v6, .null, .null] [] M_2 L_3 Q
      exact wp_vret (by decide +kernel) rfl (hK _ _ hP)
    · have hP := hP.2 c_1
      refine wp_seg (pc' := 64) [.iload 5, .aload 1, .getfield 321] (by decide +kernel) (?_ : Wp E (d + 5) 0 64 [.ref 41, .ref 1, .ref 3, .ref 37, .int v4, .int v5, .int v6, .null, .null] [.int (M 1 1), .int v5] M L Q)
      refine wp_icmpge (off := 123) 187 (by decide +kernel) (by decide) (fun c_4 => ?_) (fun c_4 => ?_)
      · have hP := hP.1 c_4
        refine wp_seg (pc' := 199) [.aload 0, .aload 0, .getfield 8, .aload 0, .getfield 9, .invokestatic 0] (by decide +kernel) (?_ : Wp E (d + 5) 0 199 [.ref 41, .ref 1, .ref 3, .ref 37, .int v4, .int v5, .int v6, .null, .null] [.int (if (M 41 8) < (M 41 9) then (M 41 9) else (M 41 8)), .ref 41] M L Q)
        refine wp_seg (pc' := 203) [.putfield 8, .aload 0] (by decide +kernel) (?_ : Wp E (d + 5) 0 203 [.ref 41, .ref 1, .ref 3, .ref 37, .int v4, .int v5, .int v6, .null, .null] [.ref 41] (mput M 41 8 (if (M 41 8) < (M 41 9) then (M 41 9) else (M 41 8))) L Q)
        refine wp_callV 4 41 [] (i := 76) (by decide +kernel) (by decide +kernel) (by decide +kernel) (by decide +kernel) rfl rfl rfl (rest := []) rfl rfl ?_
        refine t_X0_endCalls hP (fun M_5 L_6 hP => ?_)
        show Wp E (d + 5) 0 206 [.ref 41, .ref 1, .ref 3, .ref 37, .int v4, .int v5, .int v6, .null, .null] [] M_5 L_6 Q
        exact wp_vret (by decide +kernel) rfl (hK _ _ hP)
      · have hP := hP.2 c_4
        refine wp_seg (pc' := 71) [.aload 0, .getfield 12] (by decide +kernel) (?_ : Wp E (d + 5) 0 71 [.ref 41, .ref 1, .ref 3, .ref 37, .int v4, .int v5, .int v6, .null, .null] [.int (M 41 12)] M L Q)
        refine wp_ifne (off := 116) 187 (by decide +kernel) (by decide) (fun c_7 => ?_) (fun c_7 => ?_)
        · have hP := hP.2 c_7
          refine wp_seg (pc' := 199) [.aload 0, .aload 0, .getfield 8, .aload 0, .getfield 9, .invokestatic 0] (by decide +kernel) (?_ : Wp E (d + 5) 0 199 [.ref 41, .ref 1, .ref 3, .ref 37, .int v4, .int v5, .int v6, .null, .null] [.int (if (M 41 8) < (M 41 9) then (M 41 9) else (M 41 8)), .ref 41] M L Q)
          refine wp_seg (pc' := 203) [.putfield 8, .aload 0] (by decide +kernel) (?_ : Wp E (d + 5) 0 203 [.ref 41, .ref 1, .ref 3, .ref 37, .int v4, .int v5, .int v6, .null, .null] [.ref 41] (mput M 41 8 (if (M 41 8) < (M 41 9) then (M 41 9) else (M 41 8))) L Q)
          refine wp_callV 4 41 [] (i := 76) (by decide +kernel) (by decide +kernel) (by decide +kernel) (by decide +kernel) rfl rfl rfl (rest := []) rfl rfl ?_
          refine t_X0_endCalls hP (fun M_8 L_9 hP => ?_)
          show Wp E (d + 5) 0 206 [.ref 41, .ref 1, .ref 3, .ref 37, .int v4, .int v5, .int v6, .null, .null] [] M_8 L_9 Q
          exact wp_vret (by decide +kernel) rfl (hK _ _ hP)
        · have hP := hP.1 c_7
          refine wp_seg (pc' := 77) [.aload 1, .iload 5] (by decide +kernel) (?_ : Wp E (d + 5) 0 77 [.ref 41, .ref 1, .ref 3, .ref 37, .int v4, .int v5, .int v6, .null, .null] [.int v5, .ref 1] M L Q)
          refine wp_callV 29 1 [.int v5] (i := 69) (by decide +kernel) (by decide +kernel) (by decide +kernel) (by decide +kernel) rfl rfl rfl (rest := []) rfl rfl ?_
          refine s_X5_signAt M v5  ?_
          show Wp E (d + 5) 0 80 [.ref 41, .ref 1, .ref 3, .ref 37, .int v4, .int v5, .int v6, .null, .null] [.int (f_X5_signAt M v5)] M L Q
          refine wp_seg (pc' := 82) [.iconst 46] (by decide +kernel) (?_ : Wp E (d + 5) 0 82 [.ref 41, .ref 1, .ref 3, .ref 37, .int v4, .int v5, .int v6, .null, .null] [.int (Int32.ofInt 46), .int (f_X5_signAt M v5)] M L Q)
          refine wp_icmpne (off := 30) 112 (by decide +kernel) (by decide) (fun c_10 => ?_) (fun c_10 => ?_)
          · have hP := hP.2 c_10
            refine wp_seg (pc' := 115) [.aload 1, .iload 5] (by decide +kernel) (?_ : Wp E (d + 5) 0 115 [.ref 41, .ref 1, .ref 3, .ref 37, .int v4, .int v5, .int v6, .null, .null] [.int v5, .ref 1] M L Q)
            refine wp_callV 34 1 [.int v5] (i := 79) (by decide +kernel) (by decide +kernel) (by decide +kernel) (by decide +kernel) rfl rfl rfl (rest := []) rfl rfl ?_
            refine s_X5_roomOf M v5  ?_
            show Wp E (d + 5) 0 118 [.ref 41, .ref 1, .ref 3, .ref 37, .int v4, .int v5, .int v6, .null, .null] [.int (f_X5_roomOf M v5)] M L Q
            refine wp_seg (pc' := 125) [.istore 7, .aload 1, .iload 5, .iconst 1, .iadd] (by decide +kernel) (?_ : Wp E (d + 5) 0 125 [.ref 41, .ref 1, .ref 3, .ref 37, .int v4, .int v5, .int v6, .int (f_X5_roomOf M v5), .null] [.int (v5 + (Int32.ofInt 1)), .ref 1] M L Q)
            refine wp_callV 34 1 [.int (v5 + (Int32.ofInt 1))] (i := 79) (by decide +kernel) (by decide +kernel) (by decide +kernel) (by decide +kernel) rfl rfl rfl (rest := []) rfl rfl ?_
            refine s_X5_roomOf M (v5 + (Int32.ofInt 1))  ?_
            show Wp E (d + 5) 0 128 [.ref 41, .ref 1, .ref 3, .ref 37, .int v4, .int v5, .int v6, .int (f_X5_roomOf M v5), .null] [.int (f_X5_roomOf M (v5 + (Int32.ofInt 1)))] M L Q
            refine wp_seg (pc' := 138) [.istore 8, .aload 0, .aload 0, .iload 7, .iload 8, .aload 2, .aload 3] (by decide +kernel) (?_ : Wp E (d + 5) 0 138 [.ref 41, .ref 1, .ref 3, .ref 37, .int v4, .int v5, .int v6, .int (f_X5_roomOf M v5), .int (f_X5_roomOf M (v5 + (Int32.ofInt 1)))] [.ref 37, .ref 3, .int (f_X5_roomOf M (v5 + (Int32.ofInt 1))), .int (f_X5_roomOf M v5), .ref 41, .ref 41] M L Q)
            refine wp_callV 2 41 [.int (f_X5_roomOf M v5), .int (f_X5_roomOf M (v5 + (Int32.ofInt 1))), .ref 3, .ref 37] (i := 82) (by decide +kernel) (by decide +kernel) (by decide +kernel) (by decide +kernel) rfl rfl rfl (rest := [.ref 41]) rfl rfl ?_
            refine t_X0_whyNot hP (fun v_13 M_11 L_12 hP => ?_)
            show Wp E (d + 5) 0 141 [.ref 41, .ref 1, .ref 3, .ref 37, .int v4, .int v5, .int v6, .int (f_X5_roomOf M v5), .int (f_X5_roomOf M (v5 + (Int32.ofInt 1)))] [.int v_13, .ref 41] M_11 L_12 Q
            refine wp_seg (pc' := 148) [.putfield 12, .aload 0, .getfield 12] (by decide +kernel) (?_ : Wp E (d + 5) 0 148 [.ref 41, .ref 1, .ref 3, .ref 37, .int v4, .int v5, .int v6, .int (f_X5_roomOf M v5), .int (f_X5_roomOf M (v5 + (Int32.ofInt 1)))] [.int v_13] (mput M_11 41 12 v_13) L_12 Q)
            refine wp_ifne (off := 30) 178 (by decide +kernel) (by decide) (fun c_14 => ?_) (fun c_14 => ?_)
            · have hP := hP.2 c_14
              refine wp_seg (pc' := 51) [.iinc 5 3, .iinc 6 1, .goto 0] (by decide +kernel) (?_ : Wp E (d + 5) 0 51 [.ref 41, .ref 1, .ref 3, .ref 37, .int v4, .int (v5 + Int32.ofInt 3), .int (v6 + Int32.ofInt 1), .int (f_X5_roomOf M v5), .int (f_X5_roomOf M (v5 + (Int32.ofInt 1)))] [] (mput M_11 41 12 v_13) L_12 Q)
              refine wp_drop (lo := [.ref 41, .ref 1, .ref 3, .ref 37, .int v4, .int (v5 + Int32.ofInt 3), .int (v6 + Int32.ofInt 1), .null, .null]) ⟨Or.inr rfl, Or.inr rfl, Or.inr rfl, Or.inr rfl, Or.inr rfl, Or.inr rfl, Or.inr rfl, Or.inl rfl, Or.inl rfl, trivial⟩ ?_
              exact ih v4 (v5 + Int32.ofInt 3) (v6 + Int32.ofInt 1) (mput M_11 41 12 v_13) L_12 hP
            · have hP := hP.1 c_14
              refine wp_seg (pc' := 161) [.aload 0, .iload 7, .iload 8, .aload 1, .iload 5, .iconst 2, .iadd] (by decide +kernel) (?_ : Wp E (d + 5) 0 161 [.ref 41, .ref 1, .ref 3, .ref 37, .int v4, .int v5, .int v6, .int (f_X5_roomOf M v5), .int (f_X5_roomOf M (v5 + (Int32.ofInt 1)))] [.int (v5 + (Int32.ofInt 2)), .ref 1, .int (f_X5_roomOf M (v5 + (Int32.ofInt 1))), .int (f_X5_roomOf M v5), .ref 41] (mput M_11 41 12 v_13) L_12 Q)
              refine wp_callV 35 1 [.int (v5 + (Int32.ofInt 2))] (i := 73) (by decide +kernel) (by decide +kernel) (by decide +kernel) (by decide +kernel) rfl rfl rfl (rest := [.int (f_X5_roomOf M (v5 + (Int32.ofInt 1))), .int (f_X5_roomOf M v5), .ref 41]) rfl rfl ?_
              refine s_X5_numberOf (mput M_11 41 12 v_13) (v5 + (Int32.ofInt 2))  ?_
              show Wp E (d + 5) 0 164 [.ref 41, .ref 1, .ref 3, .ref 37, .int v4, .int v5, .int v6, .int (f_X5_roomOf M v5), .int (f_X5_roomOf M (v5 + (Int32.ofInt 1)))] [.int (f_X5_numberOf (mput M_11 41 12 v_13) (v5 + (Int32.ofInt 2))), .int (f_X5_roomOf M (v5 + (Int32.ofInt 1))), .int (f_X5_roomOf M v5), .ref 41] (mput M_11 41 12 v_13) L_12 Q
              refine wp_seg (pc' := 172) [.aload 3, .aload 3, .aload 2, .getfield 192, .iload 4] (by decide +kernel) (?_ : Wp E (d + 5) 0 172 [.ref 41, .ref 1, .ref 3, .ref 37, .int v4, .int v5, .int v6, .int (f_X5_roomOf M v5), .int (f_X5_roomOf M (v5 + (Int32.ofInt 1)))] [.int v4, .ref 4, .ref 37, .ref 37, .int (f_X5_numberOf (mput M_11 41 12 v_13) (v5 + (Int32.ofInt 2))), .int (f_X5_roomOf M (v5 + (Int32.ofInt 1))), .int (f_X5_roomOf M v5), .ref 41] (mput M_11 41 12 v_13) L_12 Q)
              refine wp_callV 45 37 [.ref 4, .int v4] (i := 90) (by decide +kernel) (by decide +kernel) (by decide +kernel) (by decide +kernel) rfl rfl rfl (rest := [.ref 37, .int (f_X5_numberOf (mput M_11 41 12 v_13) (v5 + (Int32.ofInt 2))), .int (f_X5_roomOf M (v5 + (Int32.ofInt 1))), .int (f_X5_roomOf M v5), .ref 41]) rfl rfl ?_
              refine t_X6_hearers hP (fun v_17 M_15 L_16 hP => ?_)
              show Wp E (d + 5) 0 175 [.ref 41, .ref 1, .ref 3, .ref 37, .int v4, .int v5, .int v6, .int (f_X5_roomOf M v5), .int (f_X5_roomOf M (v5 + (Int32.ofInt 1)))] [.int v_17, .ref 37, .int (f_X5_numberOf (mput M_11 41 12 v_13) (v5 + (Int32.ofInt 2))), .int (f_X5_roomOf M (v5 + (Int32.ofInt 1))), .int (f_X5_roomOf M v5), .ref 41] M_15 L_16 Q
              refine wp_callV 1 41 [.int (f_X5_roomOf M v5), .int (f_X5_roomOf M (v5 + (Int32.ofInt 1))), .int (f_X5_numberOf (mput M_11 41 12 v_13) (v5 + (Int32.ofInt 2))), .ref 37, .int v_17] (i := 95) (by decide +kernel) (by decide +kernel) (by decide +kernel) (by decide +kernel) rfl rfl rfl (rest := []) rfl rfl ?_
              refine t_X0_beginCall hP (fun M_18 L_19 hP => ?_)
              show Wp E (d + 5) 0 178 [.ref 41, .ref 1, .ref 3, .ref 37, .int v4, .int v5, .int v6, .int (f_X5_roomOf M v5), .int (f_X5_roomOf M (v5 + (Int32.ofInt 1)))] [] M_18 L_19 Q
              refine wp_seg (pc' := 51) [.iinc 5 3, .iinc 6 1, .goto 0] (by decide +kernel) (?_ : Wp E (d + 5) 0 51 [.ref 41, .ref 1, .ref 3, .ref 37, .int v4, .int (v5 + Int32.ofInt 3), .int (v6 + Int32.ofInt 1), .int (f_X5_roomOf M v5), .int (f_X5_roomOf M (v5 + (Int32.ofInt 1)))] [] M_18 L_19 Q)
              refine wp_drop (lo := [.ref 41, .ref 1, .ref 3, .ref 37, .int v4, .int (v5 + Int32.ofInt 3), .int (v6 + Int32.ofInt 1), .null, .null]) ⟨Or.inr rfl, Or.inr rfl, Or.inr rfl, Or.inr rfl, Or.inr rfl, Or.inr rfl, Or.inr rfl, Or.inl rfl, Or.inl rfl, trivial⟩ ?_
              exact ih v4 (v5 + Int32.ofInt 3) (v6 + Int32.ofInt 1) M_18 L_19 hP
          · have hP := hP.1 c_10
            refine wp_seg (pc' := 95) [.aload 0, .dup, .getfield 8, .aload 1, .iload 5, .iconst 1, .iadd] (by decide +kernel) (?_ : Wp E (d + 5) 0 95 [.ref 41, .ref 1, .ref 3, .ref 37, .int v4, .int v5, .int v6, .null, .null] [.int (v5 + (Int32.ofInt 1)), .ref 1, .int (M 41 8), .ref 41] M L Q)
            refine wp_callV 35 1 [.int (v5 + (Int32.ofInt 1))] (i := 73) (by decide +kernel) (by decide +kernel) (by decide +kernel) (by decide +kernel) rfl rfl rfl (rest := [.int (M 41 8), .ref 41]) rfl rfl ?_
            refine s_X5_numberOf M (v5 + (Int32.ofInt 1))  ?_
            show Wp E (d + 5) 0 98 [.ref 41, .ref 1, .ref 3, .ref 37, .int v4, .int v5, .int v6, .null, .null] [.int (f_X5_numberOf M (v5 + (Int32.ofInt 1))), .int (M 41 8), .ref 41] M L Q
            refine wp_seg (pc' := 103) [.iadd, .putfield 8, .aload 0] (by decide +kernel) (?_ : Wp E (d + 5) 0 103 [.ref 41, .ref 1, .ref 3, .ref 37, .int v4, .int v5, .int v6, .null, .null] [.ref 41] (mput M 41 8 ((M 41 8) + (f_X5_numberOf M (v5 + (Int32.ofInt 1))))) L Q)
            refine wp_callV 4 41 [] (i := 76) (by decide +kernel) (by decide +kernel) (by decide +kernel) (by decide +kernel) rfl rfl rfl (rest := []) rfl rfl ?_
            refine t_X0_endCalls hP (fun M_20 L_21 hP => ?_)
            show Wp E (d + 5) 0 106 [.ref 41, .ref 1, .ref 3, .ref 37, .int v4, .int v5, .int v6, .null, .null] [] M_20 L_21 Q
            refine wp_seg (pc' := 51) [.iinc 5 2, .goto 0, .iinc 6 1, .goto 0] (by decide +kernel) (?_ : Wp E (d + 5) 0 51 [.ref 41, .ref 1, .ref 3, .ref 37, .int v4, .int (v5 + Int32.ofInt 2), .int (v6 + Int32.ofInt 1), .null, .null] [] M_20 L_21 Q)
            exact ih v4 (v5 + Int32.ofInt 2) (v6 + Int32.ofInt 1) M_20 L_21 hP
def P_X0_run (x4 : Int32) (M : Mem) (L : LMem) (K : Mem → LMem → Prop) : Prop := PL_X0_run_51 K 100000 x4 (Int32.ofInt 0) (Int32.ofInt 0) (mput (mput (mput (mput (mput (mput (mcpy M 9 48 ((Int32.ofInt 0).toNatClampNeg) ((Int32.ofInt 0).toNatClampNeg) ((Int32.ofInt 8).toNatClampNeg)) 41 7 (Int32.ofInt 0)) 41 8 (Int32.ofInt 0)) 41 9 (Int32.ofInt 0)) 41 10 (Int32.ofInt 0)) 41 11 (Int32.ofInt 0)) 41 12 (Int32.ofInt 0)) L
theorem t_X0_run {E : VE} {d : Nat} {Q : QQ} {K : Mem → LMem → Prop} {x4 : Int32} {M : Mem} {L : LMem} (hP : P_X0_run x4 M L K) (hK : ∀ (M : Mem) (L : LMem), K M L → Q none M L) : Wp E (d + 5) 0 0 [.ref 41, .ref 1, .ref 3, .ref 37, .int x4, .null, .null, .null, .null] [] M L Q := by
  unfold P_X0_run at hP
  refine wp_seg (pc' := 15) [.aload 2, .getfield 195, .iconst 0, .aload 0, .getfield 6, .iconst 0, .iconst 8, .invokestatic 2] (by decide +kernel) (show (oty 9 = 0 ∧ oty 48 = 0 ∧ ¬ (Int32.ofInt 0) < 0 ∧ ¬ (Int32.ofInt 0) < 0 ∧ ¬ (Int32.ofInt 8) < 0 ∧ (Int32.ofInt 0).toNatClampNeg + (Int32.ofInt 8).toNatClampNeg ≤ oln 9 ∧ (Int32.ofInt 0).toNatClampNeg + (Int32.ofInt 8).toNatClampNeg ≤ oln 48) ∧ Wp E (d + 5) 0 15 [.ref 41, .ref 1, .ref 3, .ref 37, .int x4, .null, .null, .null, .null] [] (mcpy M 9 48 ((Int32.ofInt 0).toNatClampNeg) ((Int32.ofInt 0).toNatClampNeg) ((Int32.ofInt 8).toNatClampNeg)) L Q from ⟨(by decide), ?_⟩)
  refine wp_seg (pc' := 45) [.aload 0, .iconst 0, .putfield 7, .aload 0, .iconst 0, .putfield 8, .aload 0, .iconst 0, .putfield 9, .aload 0, .iconst 0, .putfield 10, .aload 0, .iconst 0, .putfield 11, .aload 0, .iconst 0, .putfield 12] (by decide +kernel) (?_ : Wp E (d + 5) 0 45 [.ref 41, .ref 1, .ref 3, .ref 37, .int x4, .null, .null, .null, .null] [] (mput (mput (mput (mput (mput (mput (mcpy M 9 48 ((Int32.ofInt 0).toNatClampNeg) ((Int32.ofInt 0).toNatClampNeg) ((Int32.ofInt 8).toNatClampNeg)) 41 7 (Int32.ofInt 0)) 41 8 (Int32.ofInt 0)) 41 9 (Int32.ofInt 0)) 41 10 (Int32.ofInt 0)) 41 11 (Int32.ofInt 0)) 41 12 (Int32.ofInt 0)) L Q)
  refine wp_seg (pc' := 51) [.iconst 0, .istore 5, .iconst 0, .istore 6] (by decide +kernel) (?_ : Wp E (d + 5) 0 51 [.ref 41, .ref 1, .ref 3, .ref 37, .int x4, .int (Int32.ofInt 0), .int (Int32.ofInt 0), .null, .null] [] (mput (mput (mput (mput (mput (mput (mcpy M 9 48 ((Int32.ofInt 0).toNatClampNeg) ((Int32.ofInt 0).toNatClampNeg) ((Int32.ofInt 8).toNatClampNeg)) 41 7 (Int32.ofInt 0)) 41 8 (Int32.ofInt 0)) 41 9 (Int32.ofInt 0)) 41 10 (Int32.ofInt 0)) 41 11 (Int32.ofInt 0)) 41 12 (Int32.ofInt 0)) L Q)
  exact tl_X0_run_51 hK 100000 x4 (Int32.ofInt 0) (Int32.ofInt 0) (mput (mput (mput (mput (mput (mput (mcpy M 9 48 ((Int32.ofInt 0).toNatClampNeg) ((Int32.ofInt 0).toNatClampNeg) ((Int32.ofInt 8).toNatClampNeg)) 41 7 (Int32.ofInt 0)) 41 8 (Int32.ofInt 0)) 41 9 (Int32.ofInt 0)) 41 10 (Int32.ofInt 0)) 41 11 (Int32.ofInt 0)) 41 12 (Int32.ofInt 0)) L hP

def PL_X4_firstFree_2 (K : Int32 → Mem → LMem → Prop)  : Nat → Int64 → Int32 → Int32 → Mem → LMem → Prop
  | 0, _, _, _, _, _ => False
  | n_ + 1, v0, v2, v3, M, L => (((Int32.ofInt 55) ≤ v3 → K (Int32.ofInt 64) M L) ∧ (¬ ((Int32.ofInt 55) ≤ v3) → (((lg_cmp (v0 &&& (f_X4_span M v3 v2)) (Int64.ofNat 0)) = 0 → K v3 M L) ∧ (¬ ((lg_cmp (v0 &&& (f_X4_span M v3 v2)) (Int64.ofNat 0)) = 0) → PL_X4_firstFree_2 K n_ v0 v2 (v3 + Int32.ofInt 1) M L))))
theorem tl_X4_firstFree_2 {E : VE} {d : Nat} {Q : QQ} {K : Int32 → Mem → LMem → Prop}  (hK : ∀ (v : Int32) (M : Mem) (L : LMem), K v M L → Q (some (.int v)) M L)  : ∀ (n_ : Nat) (v0 : Int64) (v2 : Int32) (v3 : Int32) (M : Mem) (L : LMem), PL_X4_firstFree_2 K n_ v0 v2 v3 M L → Wp E (d + 1) 22 2 [.long v0, .null, .int v2, .int v3] [] M L Q := by
  intro n_
  induction n_ with
  | zero => intro v0 v2 v3 M L hP; exact False.elim hP
  | succ n_ ih =>
    intro v0 v2 v3 M L hP
    unfold PL_X4_firstFree_2 at hP
    refine wp_seg (pc' := 5) [.iload 3, .iconst 55] (by decide +kernel) (?_ : Wp E (d + 1) 22 5 [.long v0, .null, .int v2, .int v3] [.int (Int32.ofInt 55), .int v3] M L Q)
    refine wp_icmpge (off := 23) 28 (by decide +kernel) (by decide) (fun c_1 => ?_) (fun c_1 => ?_)
    · have hP := hP.1 c_1
      refine wp_seg (pc' := 30) [.iconst 64] (by decide +kernel) (?_ : Wp E (d + 1) 22 30 [.long v0, .null, .int v2, .int v3] [.int (Int32.ofInt 64)] M L Q)
      exact wp_iret (by decide +kernel) rfl (hK _ _ _ hP)
    · have hP := hP.2 c_1
      refine wp_seg (pc' := 11) [.lload 0, .iload 3, .iload 2] (by decide +kernel) (?_ : Wp E (d + 1) 22 11 [.long v0, .null, .int v2, .int v3] [.int v2, .int v3, .long v0] M L Q)
      refine wp_callS 21 [.int v3, .int v2] (i := 102) (by decide +kernel) (by decide +kernel) (by decide +kernel) rfl rfl rfl (rest := [.long v0]) rfl rfl ?_
      refine s_X4_span M v3 v2  ?_
      show Wp E (d + 1) 22 14 [.long v0, .null, .int v2, .int v3] [.long (f_X4_span M v3 v2), .long v0] M L Q
      refine wp_seg (pc' := 17) [.land, .ldc2_w 0, .lcmp] (by decide +kernel) (?_ : Wp E (d + 1) 22 17 [.long v0, .null, .int v2, .int v3] [.int (lg_cmp (v0 &&& (f_X4_span M v3 v2)) (Int64.ofNat 0))] M L Q)
      refine wp_ifne (off := 5) 22 (by decide +kernel) (by decide) (fun c_2 => ?_) (fun c_2 => ?_)
      · have hP := hP.2 c_2
        refine wp_seg (pc' := 2) [.iinc 3 1, .goto 0] (by decide +kernel) (?_ : Wp E (d + 1) 22 2 [.long v0, .null, .int v2, .int (v3 + Int32.ofInt 1)] [] M L Q)
        exact ih v0 v2 (v3 + Int32.ofInt 1) M L hP
      · have hP := hP.1 c_2
        refine wp_seg (pc' := 21) [.iload 3] (by decide +kernel) (?_ : Wp E (d + 1) 22 21 [.long v0, .null, .int v2, .int v3] [.int v3] M L Q)
        exact wp_iret (by decide +kernel) rfl (hK _ _ _ hP)
def P_X4_firstFree (x1 : Int64) (x2 : Int32) (M : Mem) (L : LMem) (K : Int32 → Mem → LMem → Prop) : Prop := PL_X4_firstFree_2 K 100000 x1 x2 (Int32.ofInt 0) M L
theorem t_X4_firstFree {E : VE} {d : Nat} {Q : QQ} {K : Int32 → Mem → LMem → Prop} {x1 : Int64} {x2 : Int32} {M : Mem} {L : LMem} (hP : P_X4_firstFree x1 x2 M L K) (hK : ∀ (v : Int32) (M : Mem) (L : LMem), K v M L → Q (some (.int v)) M L) : Wp E (d + 1) 22 0 [.long x1, .null, .int x2, .null] [] M L Q := by
  unfold P_X4_firstFree at hP
  refine wp_seg (pc' := 2) [.iconst 0, .istore 3] (by decide +kernel) (?_ : Wp E (d + 1) 22 2 [.long x1, .null, .int x2, .int (Int32.ofInt 0)] [] M L Q)
  exact tl_X4_firstFree_2 hK 100000 x1 x2 (Int32.ofInt 0) M L hP

def PL_X4_minutesOf_5 (K : Int64 → Mem → LMem → Prop)  : Nat → Int32 → Int32 → Int64 → Int32 → Mem → LMem → Prop
  | 0, _, _, _, _, _, _ => False
  | n_ + 1, v1, v2, v3, v5, M, L => ((v2 ≤ v5 → K v3 M L) ∧ (¬ (v2 ≤ v5) → (vp_in v5 5 ∧ (vp_in (M 54 v5.toNatClampNeg) 5 ∧ ((((M 51 ((M 54 v5.toNatClampNeg).toNatClampNeg)) &&& v1) = 0 → PL_X4_minutesOf_5 K n_ v1 v2 v3 (v5 + Int32.ofInt 1) M L) ∧ (¬ (((M 51 ((M 54 v5.toNatClampNeg).toNatClampNeg)) &&& v1) = 0) → PL_X4_minutesOf_5 K n_ v1 v2 (v3 ||| (L v5.toNatClampNeg)) (v5 + Int32.ofInt 1) M L))))))
theorem tl_X4_minutesOf_5 {E : VE} {d : Nat} {Q : QQ} {K : Int64 → Mem → LMem → Prop}  (hK : ∀ (v : Int64) (M : Mem) (L : LMem), K v M L → Q (some (.long v)) M L)  : ∀ (n_ : Nat) (v1 : Int32) (v2 : Int32) (v3 : Int64) (v5 : Int32) (M : Mem) (L : LMem), PL_X4_minutesOf_5 K n_ v1 v2 v3 v5 M L → Wp E d 24 5 [.ref 49, .int v1, .int v2, .long v3, .null, .int v5] [] M L Q := by
  intro n_
  induction n_ with
  | zero => intro v1 v2 v3 v5 M L hP; exact False.elim hP
  | succ n_ ih =>
    intro v1 v2 v3 v5 M L hP
    unfold PL_X4_minutesOf_5 at hP
    refine wp_seg (pc' := 8) [.iload 5, .iload 2] (by decide +kernel) (?_ : Wp E d 24 8 [.ref 49, .int v1, .int v2, .long v3, .null, .int v5] [.int v2, .int v5] M L Q)
    refine wp_icmpge (off := 36) 44 (by decide +kernel) (by decide) (fun c_1 => ?_) (fun c_1 => ?_)
    · have hP := hP.1 c_1
      refine wp_seg (pc' := 45) [.lload 3] (by decide +kernel) (?_ : Wp E d 24 45 [.ref 49, .int v1, .int v2, .long v3, .null, .int v5] [.long v3] M L Q)
      exact wp_lret (by decide +kernel) rfl (hK _ _ _ hP)
    · have hP := hP.2 c_1
      obtain ⟨a_2, hP⟩ := hP
      refine wp_seg (pc' := 22) [.aload 0, .getfield 257, .aload 0, .getfield 260, .iload 5, .iaload] (by decide +kernel) (show aok 54 0 v5 ∧ Wp E d 24 22 [.ref 49, .int v1, .int v2, .long v3, .null, .int v5] [.int (M 54 v5.toNatClampNeg), .ref 51] M L Q from ⟨⟨rfl, a_2⟩, ?_⟩)
      obtain ⟨a_3, hP⟩ := hP
      refine wp_seg (pc' := 23) [.iaload] (by decide +kernel) (show aok 51 0 (M 54 v5.toNatClampNeg) ∧ Wp E d 24 23 [.ref 49, .int v1, .int v2, .long v3, .null, .int v5] [.int (M 51 ((M 54 v5.toNatClampNeg).toNatClampNeg))] M L Q from ⟨⟨rfl, a_3⟩, ?_⟩)
      refine wp_seg (pc' := 25) [.iload 1, .iand] (by decide +kernel) (?_ : Wp E d 24 25 [.ref 49, .int v1, .int v2, .long v3, .null, .int v5] [.int ((M 51 ((M 54 v5.toNatClampNeg).toNatClampNeg)) &&& v1)] M L Q)
      refine wp_ifeq (off := 13) 38 (by decide +kernel) (by decide) (fun c_4 => ?_) (fun c_4 => ?_)
      · have hP := hP.1 c_4
        refine wp_seg (pc' := 5) [.iinc 5 1, .goto 0] (by decide +kernel) (?_ : Wp E d 24 5 [.ref 49, .int v1, .int v2, .long v3, .null, .int (v5 + Int32.ofInt 1)] [] M L Q)
        exact ih v1 v2 v3 (v5 + Int32.ofInt 1) M L hP
      · have hP := hP.2 c_4
        refine wp_seg (pc' := 36) [.lload 3, .aload 0, .getfield 262, .iload 5, .laload] (by decide +kernel) (show aok 56 2 v5 ∧ Wp E d 24 36 [.ref 49, .int v1, .int v2, .long v3, .null, .int v5] [.long (L v5.toNatClampNeg), .long v3] M L Q from ⟨⟨rfl, a_2⟩, ?_⟩)
        refine wp_seg (pc' := 5) [.lor, .lstore 3, .iinc 5 1, .goto 0] (by decide +kernel) (?_ : Wp E d 24 5 [.ref 49, .int v1, .int v2, .long (v3 ||| (L v5.toNatClampNeg)), .null, .int (v5 + Int32.ofInt 1)] [] M L Q)
        exact ih v1 v2 (v3 ||| (L v5.toNatClampNeg)) (v5 + Int32.ofInt 1) M L hP
def P_X4_minutesOf (x1 : Int32) (x2 : Int32) (M : Mem) (L : LMem) (K : Int64 → Mem → LMem → Prop) : Prop := PL_X4_minutesOf_5 K 100000 x1 x2 (Int64.ofNat 0) (Int32.ofInt 0) M L
theorem t_X4_minutesOf {E : VE} {d : Nat} {Q : QQ} {K : Int64 → Mem → LMem → Prop} {x1 : Int32} {x2 : Int32} {M : Mem} {L : LMem} (hP : P_X4_minutesOf x1 x2 M L K) (hK : ∀ (v : Int64) (M : Mem) (L : LMem), K v M L → Q (some (.long v)) M L) : Wp E d 24 0 [.ref 49, .int x1, .int x2, .null, .null, .null] [] M L Q := by
  unfold P_X4_minutesOf at hP
  refine wp_seg (pc' := 5) [.ldc2_w 0, .lstore 3, .iconst 0, .istore 5] (by decide +kernel) (?_ : Wp E d 24 5 [.ref 49, .int x1, .int x2, .long (Int64.ofNat 0), .null, .int (Int32.ofInt 0)] [] M L Q)
  exact tl_X4_minutesOf_5 hK 100000 x1 x2 (Int64.ofNat 0) (Int32.ofInt 0) M L hP

def PL_X4_busyMinutes_13 (K : Int64 → Mem → LMem → Prop)  : Nat → Int32 → Int64 → Int32 → Int32 → Mem → LMem → Prop
  | 0, _, _, _, _, _, _ => False
  | n_ + 1, v1, v2, v4, v5, M, L => ((v1 ≤ v5 → K v2 M L) ∧ (¬ (v1 ≤ v5) → (vp_in v5 5 ∧ (vp_in v4 5 ∧ (vp_in (M 54 v5.toNatClampNeg) 5 ∧ ((((M 50 v4.toNatClampNeg) &&& (M 50 ((M 54 v5.toNatClampNeg).toNatClampNeg))) = 0 → (((((M 51 v4.toNatClampNeg) &&& (M 51 ((M 54 v5.toNatClampNeg).toNatClampNeg))) &&& ((M 49 8) ^^^ (Int32.ofInt (-1)))) = 0 → P_X4_minutesOf ((M 51 v4.toNatClampNeg) &&& (M 51 ((M 54 v5.toNatClampNeg).toNatClampNeg))) v5 M L (fun v_10 M_8 L_9 => PL_X4_busyMinutes_13 K n_ v1 (v2 ||| ((L v5.toNatClampNeg) &&& v_10)) v4 (v5 + Int32.ofInt 1) M_8 L_9)) ∧ (¬ ((((M 51 v4.toNatClampNeg) &&& (M 51 ((M 54 v5.toNatClampNeg).toNatClampNeg))) &&& ((M 49 8) ^^^ (Int32.ofInt (-1)))) = 0) → PL_X4_busyMinutes_13 K n_ v1 (v2 ||| (L v5.toNatClampNeg)) v4 (v5 + Int32.ofInt 1) M L))) ∧ (¬ (((M 50 v4.toNatClampNeg) &&& (M 50 ((M 54 v5.toNatClampNeg).toNatClampNeg))) = 0) → PL_X4_busyMinutes_13 K n_ v1 (v2 ||| (L v5.toNatClampNeg)) v4 (v5 + Int32.ofInt 1) M L)))))))
theorem tl_X4_busyMinutes_13 {E : VE} {d : Nat} {Q : QQ} {K : Int64 → Mem → LMem → Prop}  (hK : ∀ (v : Int64) (M : Mem) (L : LMem), K v M L → Q (some (.long v)) M L)  : ∀ (n_ : Nat) (v1 : Int32) (v2 : Int64) (v4 : Int32) (v5 : Int32) (M : Mem) (L : LMem), PL_X4_busyMinutes_13 K n_ v1 v2 v4 v5 M L → Wp E (d + 1) 23 13 [.ref 49, .int v1, .long v2, .null, .int v4, .int v5, .null, .null] [] M L Q := by
  intro n_
  induction n_ with
  | zero => intro v1 v2 v4 v5 M L hP; exact False.elim hP
  | succ n_ ih =>
    intro v1 v2 v4 v5 M L hP
    unfold PL_X4_busyMinutes_13 at hP
    refine wp_seg (pc' := 16) [.iload 5, .iload 1] (by decide +kernel) (?_ : Wp E (d + 1) 23 16 [.ref 49, .int v1, .long v2, .null, .int v4, .int v5, .null, .null] [.int v1, .int v5] M L Q)
    refine wp_icmpge (off := 97) 113 (by decide +kernel) (by decide) (fun c_2 => ?_) (fun c_2 => ?_)
    · have hP := hP.1 c_2
      refine wp_seg (pc' := 114) [.lload 2] (by decide +kernel) (?_ : Wp E (d + 1) 23 114 [.ref 49, .int v1, .long v2, .null, .int v4, .int v5, .null, .null] [.long v2] M L Q)
      exact wp_lret (by decide +kernel) rfl (hK _ _ _ hP)
    · have hP := hP.2 c_2
      obtain ⟨a_3, hP⟩ := hP
      refine wp_seg (pc' := 26) [.aload 0, .getfield 260, .iload 5, .iaload] (by decide +kernel) (show aok 54 0 v5 ∧ Wp E (d + 1) 23 26 [.ref 49, .int v1, .long v2, .null, .int v4, .int v5, .null, .null] [.int (M 54 v5.toNatClampNeg)] M L Q from ⟨⟨rfl, a_3⟩, ?_⟩)
      obtain ⟨a_4, hP⟩ := hP
      refine wp_seg (pc' := 35) [.istore 6, .aload 0, .getfield 257, .iload 4, .iaload] (by decide +kernel) (show aok 51 0 v4 ∧ Wp E (d + 1) 23 35 [.ref 49, .int v1, .long v2, .null, .int v4, .int v5, .int (M 54 v5.toNatClampNeg), .null] [.int (M 51 v4.toNatClampNeg)] M L Q from ⟨⟨rfl, a_4⟩, ?_⟩)
      obtain ⟨a_5, hP⟩ := hP
      refine wp_seg (pc' := 42) [.aload 0, .getfield 257, .iload 6, .iaload] (by decide +kernel) (show aok 51 0 (M 54 v5.toNatClampNeg) ∧ Wp E (d + 1) 23 42 [.ref 49, .int v1, .long v2, .null, .int v4, .int v5, .int (M 54 v5.toNatClampNeg), .null] [.int (M 51 ((M 54 v5.toNatClampNeg).toNatClampNeg)), .int (M 51 v4.toNatClampNeg)] M L Q from ⟨⟨rfl, a_5⟩, ?_⟩)
      refine wp_seg (pc' := 52) [.iand, .istore 7, .aload 0, .getfield 256, .iload 4, .iaload] (by decide +kernel) (show aok 50 0 v4 ∧ Wp E (d + 1) 23 52 [.ref 49, .int v1, .long v2, .null, .int v4, .int v5, .int (M 54 v5.toNatClampNeg), .int ((M 51 v4.toNatClampNeg) &&& (M 51 ((M 54 v5.toNatClampNeg).toNatClampNeg)))] [.int (M 50 v4.toNatClampNeg)] M L Q from ⟨⟨rfl, a_4⟩, ?_⟩)
      refine wp_seg (pc' := 59) [.aload 0, .getfield 256, .iload 6, .iaload] (by decide +kernel) (show aok 50 0 (M 54 v5.toNatClampNeg) ∧ Wp E (d + 1) 23 59 [.ref 49, .int v1, .long v2, .null, .int v4, .int v5, .int (M 54 v5.toNatClampNeg), .int ((M 51 v4.toNatClampNeg) &&& (M 51 ((M 54 v5.toNatClampNeg).toNatClampNeg)))] [.int (M 50 ((M 54 v5.toNatClampNeg).toNatClampNeg)), .int (M 50 v4.toNatClampNeg)] M L Q from ⟨⟨rfl, a_5⟩, ?_⟩)
      refine wp_seg (pc' := 60) [.iand] (by decide +kernel) (?_ : Wp E (d + 1) 23 60 [.ref 49, .int v1, .long v2, .null, .int v4, .int v5, .int (M 54 v5.toNatClampNeg), .int ((M 51 v4.toNatClampNeg) &&& (M 51 ((M 54 v5.toNatClampNeg).toNatClampNeg)))] [.int ((M 50 v4.toNatClampNeg) &&& (M 50 ((M 54 v5.toNatClampNeg).toNatClampNeg)))] M L Q)
      refine wp_ifne (off := 15) 75 (by decide +kernel) (by decide) (fun c_6 => ?_) (fun c_6 => ?_)
      · have hP := hP.2 c_6
        refine wp_seg (pc' := 83) [.lload 2, .aload 0, .getfield 262, .iload 5, .laload] (by decide +kernel) (show aok 56 2 v5 ∧ Wp E (d + 1) 23 83 [.ref 49, .int v1, .long v2, .null, .int v4, .int v5, .int (M 54 v5.toNatClampNeg), .int ((M 51 v4.toNatClampNeg) &&& (M 51 ((M 54 v5.toNatClampNeg).toNatClampNeg)))] [.long (L v5.toNatClampNeg), .long v2] M L Q from ⟨⟨rfl, a_3⟩, ?_⟩)
        refine wp_seg (pc' := 13) [.lor, .lstore 2, .goto 0, .iinc 5 1, .goto 0] (by decide +kernel) (?_ : Wp E (d + 1) 23 13 [.ref 49, .int v1, .long (v2 ||| (L v5.toNatClampNeg)), .null, .int v4, .int (v5 + Int32.ofInt 1), .int (M 54 v5.toNatClampNeg), .int ((M 51 v4.toNatClampNeg) &&& (M 51 ((M 54 v5.toNatClampNeg).toNatClampNeg)))] [] M L Q)
        refine wp_drop (lo := [.ref 49, .int v1, .long (v2 ||| (L v5.toNatClampNeg)), .null, .int v4, .int (v5 + Int32.ofInt 1), .null, .null]) ⟨Or.inr rfl, Or.inr rfl, Or.inr rfl, Or.inl rfl, Or.inr rfl, Or.inr rfl, Or.inl rfl, Or.inl rfl, trivial⟩ ?_
        exact ih v1 (v2 ||| (L v5.toNatClampNeg)) v4 (v5 + Int32.ofInt 1) M L hP
      · have hP := hP.1 c_6
        refine wp_seg (pc' := 72) [.iload 7, .aload 0, .getfield 264, .iconst (-1), .ixor, .iand] (by decide +kernel) (?_ : Wp E (d + 1) 23 72 [.ref 49, .int v1, .long v2, .null, .int v4, .int v5, .int (M 54 v5.toNatClampNeg), .int ((M 51 v4.toNatClampNeg) &&& (M 51 ((M 54 v5.toNatClampNeg).toNatClampNeg)))] [.int (((M 51 v4.toNatClampNeg) &&& (M 51 ((M 54 v5.toNatClampNeg).toNatClampNeg))) &&& ((M 49 8) ^^^ (Int32.ofInt (-1))))] M L Q)
        refine wp_ifeq (off := 16) 88 (by decide +kernel) (by decide) (fun c_7 => ?_) (fun c_7 => ?_)
        · have hP := hP.1 c_7
          refine wp_seg (pc' := 96) [.lload 2, .aload 0, .getfield 262, .iload 5, .laload] (by decide +kernel) (show aok 56 2 v5 ∧ Wp E (d + 1) 23 96 [.ref 49, .int v1, .long v2, .null, .int v4, .int v5, .int (M 54 v5.toNatClampNeg), .int ((M 51 v4.toNatClampNeg) &&& (M 51 ((M 54 v5.toNatClampNeg).toNatClampNeg)))] [.long (L v5.toNatClampNeg), .long v2] M L Q from ⟨⟨rfl, a_3⟩, ?_⟩)
          refine wp_seg (pc' := 101) [.aload 0, .iload 7, .iload 5] (by decide +kernel) (?_ : Wp E (d + 1) 23 101 [.ref 49, .int v1, .long v2, .null, .int v4, .int v5, .int (M 54 v5.toNatClampNeg), .int ((M 51 v4.toNatClampNeg) &&& (M 51 ((M 54 v5.toNatClampNeg).toNatClampNeg)))] [.int v5, .int ((M 51 v4.toNatClampNeg) &&& (M 51 ((M 54 v5.toNatClampNeg).toNatClampNeg))), .ref 49, .long (L v5.toNatClampNeg), .long v2] M L Q)
          refine wp_callV 24 49 [.int ((M 51 v4.toNatClampNeg) &&& (M 51 ((M 54 v5.toNatClampNeg).toNatClampNeg))), .int v5] (i := 112) (by decide +kernel) (by decide +kernel) (by decide +kernel) (by decide +kernel) rfl rfl rfl (rest := [.long (L v5.toNatClampNeg), .long v2]) rfl rfl ?_
          refine t_X4_minutesOf hP (fun v_10 M_8 L_9 hP => ?_)
          show Wp E (d + 1) 23 104 [.ref 49, .int v1, .long v2, .null, .int v4, .int v5, .int (M 54 v5.toNatClampNeg), .int ((M 51 v4.toNatClampNeg) &&& (M 51 ((M 54 v5.toNatClampNeg).toNatClampNeg)))] [.long v_10, .long (L v5.toNatClampNeg), .long v2] M_8 L_9 Q
          refine wp_seg (pc' := 13) [.land, .lor, .lstore 2, .iinc 5 1, .goto 0] (by decide +kernel) (?_ : Wp E (d + 1) 23 13 [.ref 49, .int v1, .long (v2 ||| ((L v5.toNatClampNeg) &&& v_10)), .null, .int v4, .int (v5 + Int32.ofInt 1), .int (M 54 v5.toNatClampNeg), .int ((M 51 v4.toNatClampNeg) &&& (M 51 ((M 54 v5.toNatClampNeg).toNatClampNeg)))] [] M_8 L_9 Q)
          refine wp_drop (lo := [.ref 49, .int v1, .long (v2 ||| ((L v5.toNatClampNeg) &&& v_10)), .null, .int v4, .int (v5 + Int32.ofInt 1), .null, .null]) ⟨Or.inr rfl, Or.inr rfl, Or.inr rfl, Or.inl rfl, Or.inr rfl, Or.inr rfl, Or.inl rfl, Or.inl rfl, trivial⟩ ?_
          exact ih v1 (v2 ||| ((L v5.toNatClampNeg) &&& v_10)) v4 (v5 + Int32.ofInt 1) M_8 L_9 hP
        · have hP := hP.2 c_7
          refine wp_seg (pc' := 83) [.lload 2, .aload 0, .getfield 262, .iload 5, .laload] (by decide +kernel) (show aok 56 2 v5 ∧ Wp E (d + 1) 23 83 [.ref 49, .int v1, .long v2, .null, .int v4, .int v5, .int (M 54 v5.toNatClampNeg), .int ((M 51 v4.toNatClampNeg) &&& (M 51 ((M 54 v5.toNatClampNeg).toNatClampNeg)))] [.long (L v5.toNatClampNeg), .long v2] M L Q from ⟨⟨rfl, a_3⟩, ?_⟩)
          refine wp_seg (pc' := 13) [.lor, .lstore 2, .goto 0, .iinc 5 1, .goto 0] (by decide +kernel) (?_ : Wp E (d + 1) 23 13 [.ref 49, .int v1, .long (v2 ||| (L v5.toNatClampNeg)), .null, .int v4, .int (v5 + Int32.ofInt 1), .int (M 54 v5.toNatClampNeg), .int ((M 51 v4.toNatClampNeg) &&& (M 51 ((M 54 v5.toNatClampNeg).toNatClampNeg)))] [] M L Q)
          refine wp_drop (lo := [.ref 49, .int v1, .long (v2 ||| (L v5.toNatClampNeg)), .null, .int v4, .int (v5 + Int32.ofInt 1), .null, .null]) ⟨Or.inr rfl, Or.inr rfl, Or.inr rfl, Or.inl rfl, Or.inr rfl, Or.inr rfl, Or.inl rfl, Or.inl rfl, trivial⟩ ?_
          exact ih v1 (v2 ||| (L v5.toNatClampNeg)) v4 (v5 + Int32.ofInt 1) M L hP
def P_X4_busyMinutes (x1 : Int32) (M : Mem) (L : LMem) (K : Int64 → Mem → LMem → Prop) : Prop := (vp_in x1 5 ∧ PL_X4_busyMinutes_13 K 100000 x1 (Int64.ofNat 0) (M 54 x1.toNatClampNeg) (Int32.ofInt 0) M L)
theorem t_X4_busyMinutes {E : VE} {d : Nat} {Q : QQ} {K : Int64 → Mem → LMem → Prop} {x1 : Int32} {M : Mem} {L : LMem} (hP : P_X4_busyMinutes x1 M L K) (hK : ∀ (v : Int64) (M : Mem) (L : LMem), K v M L → Q (some (.long v)) M L) : Wp E (d + 1) 23 0 [.ref 49, .int x1, .null, .null, .null, .null, .null, .null] [] M L Q := by
  unfold P_X4_busyMinutes at hP
  obtain ⟨a_1, hP⟩ := hP
  refine wp_seg (pc' := 8) [.ldc2_w 0, .lstore 2, .aload 0, .getfield 260, .iload 1, .iaload] (by decide +kernel) (show aok 54 0 x1 ∧ Wp E (d + 1) 23 8 [.ref 49, .int x1, .long (Int64.ofNat 0), .null, .null, .null, .null, .null] [.int (M 54 x1.toNatClampNeg)] M L Q from ⟨⟨rfl, a_1⟩, ?_⟩)
  refine wp_seg (pc' := 13) [.istore 4, .iconst 0, .istore 5] (by decide +kernel) (?_ : Wp E (d + 1) 23 13 [.ref 49, .int x1, .long (Int64.ofNat 0), .null, .int (M 54 x1.toNatClampNeg), .int (Int32.ofInt 0), .null, .null] [] M L Q)
  exact tl_X4_busyMinutes_13 hK 100000 x1 (Int64.ofNat 0) (M 54 x1.toNatClampNeg) (Int32.ofInt 0) M L hP

def PL_X4_orderEnd_4 (K : Int32 → Mem → LMem → Prop)  : Nat → Int32 → Int32 → Int32 → Mem → LMem → Prop
  | 0, _, _, _, _, _ => False
  | n_ + 1, v1, v2, v3, M, L => (((M 49 7) ≤ v3 → K v2 M L) ∧ (¬ ((M 49 7) ≤ v3) → (vp_in v3 5 ∧ P_X4_busyMinutes v3 M L (fun v_5 M_3 L_4 => (vp_in (M 54 v3.toNatClampNeg) 5 ∧ P_X4_firstFree v_5 (M_3 52 ((M 54 v3.toNatClampNeg).toNatClampNeg)) M_3 L_4 (fun v_9 M_7 L_8 => ((v1 = 0 → PL_X4_orderEnd_4 K n_ v1 (if v2 < (v_9 + (M_7 52 ((M 54 v3.toNatClampNeg).toNatClampNeg))) then (v_9 + (M_7 52 ((M 54 v3.toNatClampNeg).toNatClampNeg))) else v2) (v3 + Int32.ofInt 1) M_7 (vp_updL L_8 v3.toNatClampNeg (f_X4_span M_7 v_9 (M_7 52 ((M 54 v3.toNatClampNeg).toNatClampNeg))))) ∧ (¬ (v1 = 0) → (((v_9 + (M_7 52 ((M 54 v3.toNatClampNeg).toNatClampNeg))) ≤ (M_7 53 ((M 54 v3.toNatClampNeg).toNatClampNeg)) → PL_X4_orderEnd_4 K n_ v1 (if v2 < (v_9 + (M_7 52 ((M 54 v3.toNatClampNeg).toNatClampNeg))) then (v_9 + (M_7 52 ((M 54 v3.toNatClampNeg).toNatClampNeg))) else v2) (v3 + Int32.ofInt 1) M_7 (vp_updL L_8 v3.toNatClampNeg (f_X4_span M_7 v_9 (M_7 52 ((M 54 v3.toNatClampNeg).toNatClampNeg))))) ∧ (¬ ((v_9 + (M_7 52 ((M 54 v3.toNatClampNeg).toNatClampNeg))) ≤ (M_7 53 ((M 54 v3.toNatClampNeg).toNatClampNeg))) → K (Int32.ofInt 64) M_7 L_8))))))))))
theorem tl_X4_orderEnd_4 {E : VE} {d : Nat} {Q : QQ} {K : Int32 → Mem → LMem → Prop}  (hK : ∀ (v : Int32) (M : Mem) (L : LMem), K v M L → Q (some (.int v)) M L)  : ∀ (n_ : Nat) (v1 : Int32) (v2 : Int32) (v3 : Int32) (M : Mem) (L : LMem), PL_X4_orderEnd_4 K n_ v1 v2 v3 M L → Wp E (d + 2) 20 4 [.ref 49, .int v1, .int v2, .int v3, .null, .null, .null] [] M L Q := by
  intro n_
  induction n_ with
  | zero => intro v1 v2 v3 M L hP; exact False.elim hP
  | succ n_ ih =>
    intro v1 v2 v3 M L hP
    unfold PL_X4_orderEnd_4 at hP
    refine wp_seg (pc' := 9) [.iload 3, .aload 0, .getfield 263] (by decide +kernel) (?_ : Wp E (d + 2) 20 9 [.ref 49, .int v1, .int v2, .int v3, .null, .null, .null] [.int (M 49 7), .int v3] M L Q)
    refine wp_icmpge (off := 90) 99 (by decide +kernel) (by decide) (fun c_1 => ?_) (fun c_1 => ?_)
    · have hP := hP.1 c_1
      refine wp_seg (pc' := 100) [.iload 2] (by decide +kernel) (?_ : Wp E (d + 2) 20 100 [.ref 49, .int v1, .int v2, .int v3, .null, .null, .null] [.int v2] M L Q)
      exact wp_iret (by decide +kernel) rfl (hK _ _ _ hP)
    · have hP := hP.2 c_1
      obtain ⟨a_2, hP⟩ := hP
      refine wp_seg (pc' := 18) [.aload 0, .getfield 260, .iload 3, .iaload] (by decide +kernel) (show aok 54 0 v3 ∧ Wp E (d + 2) 20 18 [.ref 49, .int v1, .int v2, .int v3, .null, .null, .null] [.int (M 54 v3.toNatClampNeg)] M L Q from ⟨⟨rfl, a_2⟩, ?_⟩)
      refine wp_seg (pc' := 22) [.istore 4, .aload 0, .iload 3] (by decide +kernel) (?_ : Wp E (d + 2) 20 22 [.ref 49, .int v1, .int v2, .int v3, .int (M 54 v3.toNatClampNeg), .null, .null] [.int v3, .ref 49] M L Q)
      refine wp_callV 23 49 [.int v3] (i := 94) (by decide +kernel) (by decide +kernel) (by decide +kernel) (by decide +kernel) rfl rfl rfl (rest := []) rfl rfl ?_
      refine t_X4_busyMinutes hP (fun v_5 M_3 L_4 hP => ?_)
      show Wp E (d + 2) 20 25 [.ref 49, .int v1, .int v2, .int v3, .int (M 54 v3.toNatClampNeg), .null, .null] [.long v_5] M_3 L_4 Q
      obtain ⟨a_6, hP⟩ := hP
      refine wp_seg (pc' := 32) [.aload 0, .getfield 258, .iload 4, .iaload] (by decide +kernel) (show aok 52 0 (M 54 v3.toNatClampNeg) ∧ Wp E (d + 2) 20 32 [.ref 49, .int v1, .int v2, .int v3, .int (M 54 v3.toNatClampNeg), .null, .null] [.int (M_3 52 ((M 54 v3.toNatClampNeg).toNatClampNeg)), .long v_5] M_3 L_4 Q from ⟨⟨rfl, a_6⟩, ?_⟩)
      refine wp_callS 22 [.long v_5, .int (M_3 52 ((M 54 v3.toNatClampNeg).toNatClampNeg))] (i := 98) (by decide +kernel) (by decide +kernel) (by decide +kernel) rfl rfl rfl (rest := []) rfl rfl ?_
      refine t_X4_firstFree hP (fun v_9 M_7 L_8 hP => ?_)
      show Wp E (d + 2) 20 35 [.ref 49, .int v1, .int v2, .int v3, .int (M 54 v3.toNatClampNeg), .null, .null] [.int v_9] M_7 L_8 Q
      refine wp_seg (pc' := 46) [.istore 5, .iload 5, .aload 0, .getfield 258, .iload 4, .iaload] (by decide +kernel) (show aok 52 0 (M 54 v3.toNatClampNeg) ∧ Wp E (d + 2) 20 46 [.ref 49, .int v1, .int v2, .int v3, .int (M 54 v3.toNatClampNeg), .int v_9, .null] [.int (M_7 52 ((M 54 v3.toNatClampNeg).toNatClampNeg)), .int v_9] M_7 L_8 Q from ⟨⟨rfl, a_6⟩, ?_⟩)
      refine wp_seg (pc' := 50) [.iadd, .istore 6, .iload 1] (by decide +kernel) (?_ : Wp E (d + 2) 20 50 [.ref 49, .int v1, .int v2, .int v3, .int (M 54 v3.toNatClampNeg), .int v_9, .int (v_9 + (M_7 52 ((M 54 v3.toNatClampNeg).toNatClampNeg)))] [.int v1] M_7 L_8 Q)
      refine wp_ifeq (off := 18) 68 (by decide +kernel) (by decide) (fun c_10 => ?_) (fun c_10 => ?_)
      · have hP := hP.1 c_10
        refine wp_seg (pc' := 82) [.aload 0, .getfield 262, .iload 3, .iload 5, .aload 0, .getfield 258, .iload 4, .iaload] (by decide +kernel) (show aok 52 0 (M 54 v3.toNatClampNeg) ∧ Wp E (d + 2) 20 82 [.ref 49, .int v1, .int v2, .int v3, .int (M 54 v3.toNatClampNeg), .int v_9, .int (v_9 + (M_7 52 ((M 54 v3.toNatClampNeg).toNatClampNeg)))] [.int (M_7 52 ((M 54 v3.toNatClampNeg).toNatClampNeg)), .int v_9, .int v3, .ref 56] M_7 L_8 Q from ⟨⟨rfl, a_6⟩, ?_⟩)
        refine wp_callS 21 [.int v_9, .int (M_7 52 ((M 54 v3.toNatClampNeg).toNatClampNeg))] (i := 102) (by decide +kernel) (by decide +kernel) (by decide +kernel) rfl rfl rfl (rest := [.int v3, .ref 56]) rfl rfl ?_
        refine s_X4_span M_7 v_9 (M_7 52 ((M 54 v3.toNatClampNeg).toNatClampNeg))  ?_
        show Wp E (d + 2) 20 85 [.ref 49, .int v1, .int v2, .int v3, .int (M 54 v3.toNatClampNeg), .int v_9, .int (v_9 + (M_7 52 ((M 54 v3.toNatClampNeg).toNatClampNeg)))] [.long (f_X4_span M_7 v_9 (M_7 52 ((M 54 v3.toNatClampNeg).toNatClampNeg))), .int v3, .ref 56] M_7 L_8 Q
        refine wp_seg (pc' := 86) [.lastore] (by decide +kernel) (show aok 56 2 v3 ∧ Wp E (d + 2) 20 86 [.ref 49, .int v1, .int v2, .int v3, .int (M 54 v3.toNatClampNeg), .int v_9, .int (v_9 + (M_7 52 ((M 54 v3.toNatClampNeg).toNatClampNeg)))] [] M_7 (vp_updL L_8 v3.toNatClampNeg (f_X4_span M_7 v_9 (M_7 52 ((M 54 v3.toNatClampNeg).toNatClampNeg)))) Q from ⟨⟨rfl, a_2⟩, ?_⟩)
        refine wp_seg (pc' := 92) [.iload 2, .iload 6, .invokestatic 0] (by decide +kernel) (?_ : Wp E (d + 2) 20 92 [.ref 49, .int v1, .int v2, .int v3, .int (M 54 v3.toNatClampNeg), .int v_9, .int (v_9 + (M_7 52 ((M 54 v3.toNatClampNeg).toNatClampNeg)))] [.int (if v2 < (v_9 + (M_7 52 ((M 54 v3.toNatClampNeg).toNatClampNeg))) then (v_9 + (M_7 52 ((M 54 v3.toNatClampNeg).toNatClampNeg))) else v2)] M_7 (vp_updL L_8 v3.toNatClampNeg (f_X4_span M_7 v_9 (M_7 52 ((M 54 v3.toNatClampNeg).toNatClampNeg)))) Q)
        refine wp_seg (pc' := 4) [.istore 2, .iinc 3 1, .goto 0] (by decide +kernel) (?_ : Wp E (d + 2) 20 4 [.ref 49, .int v1, .int (if v2 < (v_9 + (M_7 52 ((M 54 v3.toNatClampNeg).toNatClampNeg))) then (v_9 + (M_7 52 ((M 54 v3.toNatClampNeg).toNatClampNeg))) else v2), .int (v3 + Int32.ofInt 1), .int (M 54 v3.toNatClampNeg), .int v_9, .int (v_9 + (M_7 52 ((M 54 v3.toNatClampNeg).toNatClampNeg)))] [] M_7 (vp_updL L_8 v3.toNatClampNeg (f_X4_span M_7 v_9 (M_7 52 ((M 54 v3.toNatClampNeg).toNatClampNeg)))) Q)
        refine wp_drop (lo := [.ref 49, .int v1, .int (if v2 < (v_9 + (M_7 52 ((M 54 v3.toNatClampNeg).toNatClampNeg))) then (v_9 + (M_7 52 ((M 54 v3.toNatClampNeg).toNatClampNeg))) else v2), .int (v3 + Int32.ofInt 1), .null, .null, .null]) ⟨Or.inr rfl, Or.inr rfl, Or.inr rfl, Or.inr rfl, Or.inl rfl, Or.inl rfl, Or.inl rfl, trivial⟩ ?_
        exact ih v1 (if v2 < (v_9 + (M_7 52 ((M 54 v3.toNatClampNeg).toNatClampNeg))) then (v_9 + (M_7 52 ((M 54 v3.toNatClampNeg).toNatClampNeg))) else v2) (v3 + Int32.ofInt 1) M_7 (vp_updL L_8 v3.toNatClampNeg (f_X4_span M_7 v_9 (M_7 52 ((M 54 v3.toNatClampNeg).toNatClampNeg)))) hP
      · have hP := hP.2 c_10
        refine wp_seg (pc' := 62) [.iload 6, .aload 0, .getfield 259, .iload 4, .iaload] (by decide +kernel) (show aok 53 0 (M 54 v3.toNatClampNeg) ∧ Wp E (d + 2) 20 62 [.ref 49, .int v1, .int v2, .int v3, .int (M 54 v3.toNatClampNeg), .int v_9, .int (v_9 + (M_7 52 ((M 54 v3.toNatClampNeg).toNatClampNeg)))] [.int (M_7 53 ((M 54 v3.toNatClampNeg).toNatClampNeg)), .int (v_9 + (M_7 52 ((M 54 v3.toNatClampNeg).toNatClampNeg)))] M_7 L_8 Q from ⟨⟨rfl, a_6⟩, ?_⟩)
        refine wp_icmple (off := 6) 68 (by decide +kernel) (by decide) (fun c_11 => ?_) (fun c_11 => ?_)
        · have hP := hP.1 c_11
          refine wp_seg (pc' := 82) [.aload 0, .getfield 262, .iload 3, .iload 5, .aload 0, .getfield 258, .iload 4, .iaload] (by decide +kernel) (show aok 52 0 (M 54 v3.toNatClampNeg) ∧ Wp E (d + 2) 20 82 [.ref 49, .int v1, .int v2, .int v3, .int (M 54 v3.toNatClampNeg), .int v_9, .int (v_9 + (M_7 52 ((M 54 v3.toNatClampNeg).toNatClampNeg)))] [.int (M_7 52 ((M 54 v3.toNatClampNeg).toNatClampNeg)), .int v_9, .int v3, .ref 56] M_7 L_8 Q from ⟨⟨rfl, a_6⟩, ?_⟩)
          refine wp_callS 21 [.int v_9, .int (M_7 52 ((M 54 v3.toNatClampNeg).toNatClampNeg))] (i := 102) (by decide +kernel) (by decide +kernel) (by decide +kernel) rfl rfl rfl (rest := [.int v3, .ref 56]) rfl rfl ?_
          refine s_X4_span M_7 v_9 (M_7 52 ((M 54 v3.toNatClampNeg).toNatClampNeg))  ?_
          show Wp E (d + 2) 20 85 [.ref 49, .int v1, .int v2, .int v3, .int (M 54 v3.toNatClampNeg), .int v_9, .int (v_9 + (M_7 52 ((M 54 v3.toNatClampNeg).toNatClampNeg)))] [.long (f_X4_span M_7 v_9 (M_7 52 ((M 54 v3.toNatClampNeg).toNatClampNeg))), .int v3, .ref 56] M_7 L_8 Q
          refine wp_seg (pc' := 86) [.lastore] (by decide +kernel) (show aok 56 2 v3 ∧ Wp E (d + 2) 20 86 [.ref 49, .int v1, .int v2, .int v3, .int (M 54 v3.toNatClampNeg), .int v_9, .int (v_9 + (M_7 52 ((M 54 v3.toNatClampNeg).toNatClampNeg)))] [] M_7 (vp_updL L_8 v3.toNatClampNeg (f_X4_span M_7 v_9 (M_7 52 ((M 54 v3.toNatClampNeg).toNatClampNeg)))) Q from ⟨⟨rfl, a_2⟩, ?_⟩)
          refine wp_seg (pc' := 92) [.iload 2, .iload 6, .invokestatic 0] (by decide +kernel) (?_ : Wp E (d + 2) 20 92 [.ref 49, .int v1, .int v2, .int v3, .int (M 54 v3.toNatClampNeg), .int v_9, .int (v_9 + (M_7 52 ((M 54 v3.toNatClampNeg).toNatClampNeg)))] [.int (if v2 < (v_9 + (M_7 52 ((M 54 v3.toNatClampNeg).toNatClampNeg))) then (v_9 + (M_7 52 ((M 54 v3.toNatClampNeg).toNatClampNeg))) else v2)] M_7 (vp_updL L_8 v3.toNatClampNeg (f_X4_span M_7 v_9 (M_7 52 ((M 54 v3.toNatClampNeg).toNatClampNeg)))) Q)
          refine wp_seg (pc' := 4) [.istore 2, .iinc 3 1, .goto 0] (by decide +kernel) (?_ : Wp E (d + 2) 20 4 [.ref 49, .int v1, .int (if v2 < (v_9 + (M_7 52 ((M 54 v3.toNatClampNeg).toNatClampNeg))) then (v_9 + (M_7 52 ((M 54 v3.toNatClampNeg).toNatClampNeg))) else v2), .int (v3 + Int32.ofInt 1), .int (M 54 v3.toNatClampNeg), .int v_9, .int (v_9 + (M_7 52 ((M 54 v3.toNatClampNeg).toNatClampNeg)))] [] M_7 (vp_updL L_8 v3.toNatClampNeg (f_X4_span M_7 v_9 (M_7 52 ((M 54 v3.toNatClampNeg).toNatClampNeg)))) Q)
          refine wp_drop (lo := [.ref 49, .int v1, .int (if v2 < (v_9 + (M_7 52 ((M 54 v3.toNatClampNeg).toNatClampNeg))) then (v_9 + (M_7 52 ((M 54 v3.toNatClampNeg).toNatClampNeg))) else v2), .int (v3 + Int32.ofInt 1), .null, .null, .null]) ⟨Or.inr rfl, Or.inr rfl, Or.inr rfl, Or.inr rfl, Or.inl rfl, Or.inl rfl, Or.inl rfl, trivial⟩ ?_
          exact ih v1 (if v2 < (v_9 + (M_7 52 ((M 54 v3.toNatClampNeg).toNatClampNeg))) then (v_9 + (M_7 52 ((M 54 v3.toNatClampNeg).toNatClampNeg))) else v2) (v3 + Int32.ofInt 1) M_7 (vp_updL L_8 v3.toNatClampNeg (f_X4_span M_7 v_9 (M_7 52 ((M 54 v3.toNatClampNeg).toNatClampNeg)))) hP
        · have hP := hP.2 c_11
          refine wp_seg (pc' := 67) [.iconst 64] (by decide +kernel) (?_ : Wp E (d + 2) 20 67 [.ref 49, .int v1, .int v2, .int v3, .int (M 54 v3.toNatClampNeg), .int v_9, .int (v_9 + (M_7 52 ((M 54 v3.toNatClampNeg).toNatClampNeg)))] [.int (Int32.ofInt 64)] M_7 L_8 Q)
          exact wp_iret (by decide +kernel) rfl (hK _ _ _ hP)
def P_X4_orderEnd (x1 : Int32) (M : Mem) (L : LMem) (K : Int32 → Mem → LMem → Prop) : Prop := PL_X4_orderEnd_4 K 100000 x1 (Int32.ofInt 0) (Int32.ofInt 0) M L
theorem t_X4_orderEnd {E : VE} {d : Nat} {Q : QQ} {K : Int32 → Mem → LMem → Prop} {x1 : Int32} {M : Mem} {L : LMem} (hP : P_X4_orderEnd x1 M L K) (hK : ∀ (v : Int32) (M : Mem) (L : LMem), K v M L → Q (some (.int v)) M L) : Wp E (d + 2) 20 0 [.ref 49, .int x1, .null, .null, .null, .null, .null] [] M L Q := by
  unfold P_X4_orderEnd at hP
  refine wp_seg (pc' := 4) [.iconst 0, .istore 2, .iconst 0, .istore 3] (by decide +kernel) (?_ : Wp E (d + 2) 20 4 [.ref 49, .int x1, .int (Int32.ofInt 0), .int (Int32.ofInt 0), .null, .null, .null] [] M L Q)
  exact tl_X4_orderEnd_4 hK 100000 x1 (Int32.ofInt 0) (Int32.ofInt 0) M L hP

def PL_X4_nextOrder_93 (K : Int32 → Mem → LMem → Prop)  : Nat → Int32 → Int32 → Int32 → Int32 → Mem → LMem → Prop
  | 0, _, _, _, _, _, _ => False
  | n_ + 1, v1, v2, v3, v4, M, L => ((v4 ≤ v3 → K (Int32.ofInt 1) M L) ∧ (¬ (v4 ≤ v3) → ((vp_in v3 5) ∧ ((vp_in v4 5) ∧ PL_X4_nextOrder_93 K n_ v1 v2 (v3 + Int32.ofInt 1) (v4 + Int32.ofInt (-1)) (g_X4_swap M v3 v4) L))))
theorem tl_X4_nextOrder_93 {E : VE} {d : Nat} {Q : QQ} {K : Int32 → Mem → LMem → Prop}  (hK : ∀ (v : Int32) (M : Mem) (L : LMem), K v M L → Q (some (.int v)) M L)  : ∀ (n_ : Nat) (v1 : Int32) (v2 : Int32) (v3 : Int32) (v4 : Int32) (M : Mem) (L : LMem), PL_X4_nextOrder_93 K n_ v1 v2 v3 v4 M L → Wp E (d + 1) 25 93 [.ref 49, .int v1, .int v2, .int v3, .int v4] [] M L Q := by
  intro n_
  induction n_ with
  | zero => intro v1 v2 v3 v4 M L hP; exact False.elim hP
  | succ n_ ih =>
    intro v1 v2 v3 v4 M L hP
    unfold PL_X4_nextOrder_93 at hP
    refine wp_seg (pc' := 96) [.iload 3, .iload 4] (by decide +kernel) (?_ : Wp E (d + 1) 25 96 [.ref 49, .int v1, .int v2, .int v3, .int v4] [.int v4, .int v3] M L Q)
    refine wp_icmpge (off := 19) 115 (by decide +kernel) (by decide) (fun c_6 => ?_) (fun c_6 => ?_)
    · have hP := hP.1 c_6
      refine wp_seg (pc' := 116) [.iconst 1] (by decide +kernel) (?_ : Wp E (d + 1) 25 116 [.ref 49, .int v1, .int v2, .int v3, .int v4] [.int (Int32.ofInt 1)] M L Q)
      exact wp_zret (by decide +kernel) rfl (by decide) (hK _ _ _ hP)
    · have hP := hP.2 c_6
      refine wp_seg (pc' := 103) [.aload 0, .iload 3, .iload 4] (by decide +kernel) (?_ : Wp E (d + 1) 25 103 [.ref 49, .int v1, .int v2, .int v3, .int v4] [.int v4, .int v3, .ref 49] M L Q)
      refine wp_callV 26 49 [.int v3, .int v4] (i := 115) (by decide +kernel) (by decide +kernel) (by decide +kernel) (by decide +kernel) rfl rfl rfl (rest := []) rfl rfl ?_
      obtain ⟨a_7, hP⟩ := hP
      obtain ⟨a_8, hP⟩ := hP
      refine s_X4_swap M v3 v4 a_7 a_8 ?_
      show Wp E (d + 1) 25 106 [.ref 49, .int v1, .int v2, .int v3, .int v4] [] (g_X4_swap M v3 v4) L Q
      refine wp_seg (pc' := 93) [.iinc 3 1, .iinc 4 (-1), .goto 0] (by decide +kernel) (?_ : Wp E (d + 1) 25 93 [.ref 49, .int v1, .int v2, .int (v3 + Int32.ofInt 1), .int (v4 + Int32.ofInt (-1))] [] (g_X4_swap M v3 v4) L Q)
      exact ih v1 v2 (v3 + Int32.ofInt 1) (v4 + Int32.ofInt (-1)) (g_X4_swap M v3 v4) L hP
def PL_X4_nextOrder_47 (K : Int32 → Mem → LMem → Prop)  : Nat → Int32 → Int32 → Mem → LMem → Prop
  | 0, _, _, _, _ => False
  | n_ + 1, v1, v2, M, L => ((v2 ≤ (v1 + (Int32.ofInt 1)) → ((vp_in v1 5) ∧ ((vp_in v2 5) ∧ PL_X4_nextOrder_93 K 100000 v1 v2 (v1 + (Int32.ofInt 1)) (((g_X4_swap M v1 v2) 49 7) - (Int32.ofInt 1)) (g_X4_swap M v1 v2) L))) ∧ (¬ (v2 ≤ (v1 + (Int32.ofInt 1))) → (vp_in v2 5 ∧ (vp_in v1 5 ∧ (((M 54 v1.toNatClampNeg) ≤ (M 54 v2.toNatClampNeg) → ((vp_in v1 5) ∧ ((vp_in v2 5) ∧ PL_X4_nextOrder_93 K 100000 v1 v2 (v1 + (Int32.ofInt 1)) (((g_X4_swap M v1 v2) 49 7) - (Int32.ofInt 1)) (g_X4_swap M v1 v2) L))) ∧ (¬ ((M 54 v1.toNatClampNeg) ≤ (M 54 v2.toNatClampNeg)) → PL_X4_nextOrder_47 K n_ v1 (v2 + Int32.ofInt (-1)) M L))))))
theorem tl_X4_nextOrder_47 {E : VE} {d : Nat} {Q : QQ} {K : Int32 → Mem → LMem → Prop}  (hK : ∀ (v : Int32) (M : Mem) (L : LMem), K v M L → Q (some (.int v)) M L)  : ∀ (n_ : Nat) (v1 : Int32) (v2 : Int32) (M : Mem) (L : LMem), PL_X4_nextOrder_47 K n_ v1 v2 M L → Wp E (d + 1) 25 47 [.ref 49, .int v1, .int v2, .null, .null] [] M L Q := by
  intro n_
  induction n_ with
  | zero => intro v1 v2 M L hP; exact False.elim hP
  | succ n_ ih =>
    intro v1 v2 M L hP
    unfold PL_X4_nextOrder_47 at hP
    refine wp_seg (pc' := 51) [.iload 2, .iload 1, .iconst 1, .iadd] (by decide +kernel) (?_ : Wp E (d + 1) 25 51 [.ref 49, .int v1, .int v2, .null, .null] [.int (v1 + (Int32.ofInt 1)), .int v2] M L Q)
    refine wp_icmple (off := 24) 75 (by decide +kernel) (by decide) (fun c_3 => ?_) (fun c_3 => ?_)
    · have hP := hP.1 c_3
      refine wp_seg (pc' := 78) [.aload 0, .iload 1, .iload 2] (by decide +kernel) (?_ : Wp E (d + 1) 25 78 [.ref 49, .int v1, .int v2, .null, .null] [.int v2, .int v1, .ref 49] M L Q)
      refine wp_callV 26 49 [.int v1, .int v2] (i := 115) (by decide +kernel) (by decide +kernel) (by decide +kernel) (by decide +kernel) rfl rfl rfl (rest := []) rfl rfl ?_
      obtain ⟨a_4, hP⟩ := hP
      obtain ⟨a_5, hP⟩ := hP
      refine s_X4_swap M v1 v2 a_4 a_5 ?_
      show Wp E (d + 1) 25 81 [.ref 49, .int v1, .int v2, .null, .null] [] (g_X4_swap M v1 v2) L Q
      refine wp_seg (pc' := 93) [.iload 1, .iconst 1, .iadd, .istore 3, .aload 0, .getfield 263, .iconst 1, .isub, .istore 4] (by decide +kernel) (?_ : Wp E (d + 1) 25 93 [.ref 49, .int v1, .int v2, .int (v1 + (Int32.ofInt 1)), .int (((g_X4_swap M v1 v2) 49 7) - (Int32.ofInt 1))] [] (g_X4_swap M v1 v2) L Q)
      exact tl_X4_nextOrder_93 hK 100000 v1 v2 (v1 + (Int32.ofInt 1)) (((g_X4_swap M v1 v2) 49 7) - (Int32.ofInt 1)) (g_X4_swap M v1 v2) L hP
    · have hP := hP.2 c_3
      obtain ⟨a_9, hP⟩ := hP
      refine wp_seg (pc' := 60) [.aload 0, .getfield 260, .iload 2, .iaload] (by decide +kernel) (show aok 54 0 v2 ∧ Wp E (d + 1) 25 60 [.ref 49, .int v1, .int v2, .null, .null] [.int (M 54 v2.toNatClampNeg)] M L Q from ⟨⟨rfl, a_9⟩, ?_⟩)
      obtain ⟨a_10, hP⟩ := hP
      refine wp_seg (pc' := 66) [.aload 0, .getfield 260, .iload 1, .iaload] (by decide +kernel) (show aok 54 0 v1 ∧ Wp E (d + 1) 25 66 [.ref 49, .int v1, .int v2, .null, .null] [.int (M 54 v1.toNatClampNeg), .int (M 54 v2.toNatClampNeg)] M L Q from ⟨⟨rfl, a_10⟩, ?_⟩)
      refine wp_icmpge (off := 9) 75 (by decide +kernel) (by decide) (fun c_11 => ?_) (fun c_11 => ?_)
      · have hP := hP.1 c_11
        refine wp_seg (pc' := 78) [.aload 0, .iload 1, .iload 2] (by decide +kernel) (?_ : Wp E (d + 1) 25 78 [.ref 49, .int v1, .int v2, .null, .null] [.int v2, .int v1, .ref 49] M L Q)
        refine wp_callV 26 49 [.int v1, .int v2] (i := 115) (by decide +kernel) (by decide +kernel) (by decide +kernel) (by decide +kernel) rfl rfl rfl (rest := []) rfl rfl ?_
        obtain ⟨a_12, hP⟩ := hP
        obtain ⟨a_13, hP⟩ := hP
        refine s_X4_swap M v1 v2 a_12 a_13 ?_
        show Wp E (d + 1) 25 81 [.ref 49, .int v1, .int v2, .null, .null] [] (g_X4_swap M v1 v2) L Q
        refine wp_seg (pc' := 93) [.iload 1, .iconst 1, .iadd, .istore 3, .aload 0, .getfield 263, .iconst 1, .isub, .istore 4] (by decide +kernel) (?_ : Wp E (d + 1) 25 93 [.ref 49, .int v1, .int v2, .int (v1 + (Int32.ofInt 1)), .int (((g_X4_swap M v1 v2) 49 7) - (Int32.ofInt 1))] [] (g_X4_swap M v1 v2) L Q)
        exact tl_X4_nextOrder_93 hK 100000 v1 v2 (v1 + (Int32.ofInt 1)) (((g_X4_swap M v1 v2) 49 7) - (Int32.ofInt 1)) (g_X4_swap M v1 v2) L hP
      · have hP := hP.2 c_11
        refine wp_seg (pc' := 47) [.iinc 2 (-1), .goto 0] (by decide +kernel) (?_ : Wp E (d + 1) 25 47 [.ref 49, .int v1, .int (v2 + Int32.ofInt (-1)), .null, .null] [] M L Q)
        exact ih v1 (v2 + Int32.ofInt (-1)) M L hP
def PL_X4_nextOrder_7 (K : Int32 → Mem → LMem → Prop)  : Nat → Int32 → Mem → LMem → Prop
  | 0, _, _, _ => False
  | n_ + 1, v1, M, L => ((v1 < 0 → ((0 ≤ v1 → PL_X4_nextOrder_47 K 100000 v1 ((M 49 7) - (Int32.ofInt 1)) M L) ∧ (¬ (0 ≤ v1) → K (Int32.ofInt 0) M L))) ∧ (¬ (v1 < 0) → (vp_in v1 5 ∧ (vp_in (v1 + (Int32.ofInt 1)) 5 ∧ (((M 54 v1.toNatClampNeg) ≤ (M 54 ((v1 + (Int32.ofInt 1)).toNatClampNeg)) → ((0 ≤ v1 → PL_X4_nextOrder_47 K 100000 v1 ((M 49 7) - (Int32.ofInt 1)) M L) ∧ (¬ (0 ≤ v1) → K (Int32.ofInt 0) M L))) ∧ (¬ ((M 54 v1.toNatClampNeg) ≤ (M 54 ((v1 + (Int32.ofInt 1)).toNatClampNeg))) → PL_X4_nextOrder_7 K n_ (v1 + Int32.ofInt (-1)) M L))))))
theorem tl_X4_nextOrder_7 {E : VE} {d : Nat} {Q : QQ} {K : Int32 → Mem → LMem → Prop}  (hK : ∀ (v : Int32) (M : Mem) (L : LMem), K v M L → Q (some (.int v)) M L)  : ∀ (n_ : Nat) (v1 : Int32) (M : Mem) (L : LMem), PL_X4_nextOrder_7 K n_ v1 M L → Wp E (d + 1) 25 7 [.ref 49, .int v1, .null, .null, .null] [] M L Q := by
  intro n_
  induction n_ with
  | zero => intro v1 M L hP; exact False.elim hP
  | succ n_ ih =>
    intro v1 M L hP
    unfold PL_X4_nextOrder_7 at hP
    refine wp_seg (pc' := 8) [.iload 1] (by decide +kernel) (?_ : Wp E (d + 1) 25 8 [.ref 49, .int v1, .null, .null, .null] [.int v1] M L Q)
    refine wp_iflt (off := 26) 34 (by decide +kernel) (by decide) (fun c_1 => ?_) (fun c_1 => ?_)
    · have hP := hP.1 c_1
      refine wp_seg (pc' := 35) [.iload 1] (by decide +kernel) (?_ : Wp E (d + 1) 25 35 [.ref 49, .int v1, .null, .null, .null] [.int v1] M L Q)
      refine wp_ifge (off := 5) 40 (by decide +kernel) (by decide) (fun c_2 => ?_) (fun c_2 => ?_)
      · have hP := hP.1 c_2
        refine wp_seg (pc' := 47) [.aload 0, .getfield 263, .iconst 1, .isub, .istore 2] (by decide +kernel) (?_ : Wp E (d + 1) 25 47 [.ref 49, .int v1, .int ((M 49 7) - (Int32.ofInt 1)), .null, .null] [] M L Q)
        exact tl_X4_nextOrder_47 hK 100000 v1 ((M 49 7) - (Int32.ofInt 1)) M L hP
      · have hP := hP.2 c_2
        refine wp_seg (pc' := 39) [.iconst 0] (by decide +kernel) (?_ : Wp E (d + 1) 25 39 [.ref 49, .int v1, .null, .null, .null] [.int (Int32.ofInt 0)] M L Q)
        exact wp_zret (by decide +kernel) rfl (by decide) (hK _ _ _ hP)
    · have hP := hP.2 c_1
      obtain ⟨a_14, hP⟩ := hP
      refine wp_seg (pc' := 17) [.aload 0, .getfield 260, .iload 1, .iaload] (by decide +kernel) (show aok 54 0 v1 ∧ Wp E (d + 1) 25 17 [.ref 49, .int v1, .null, .null, .null] [.int (M 54 v1.toNatClampNeg)] M L Q from ⟨⟨rfl, a_14⟩, ?_⟩)
      obtain ⟨a_15, hP⟩ := hP
      refine wp_seg (pc' := 25) [.aload 0, .getfield 260, .iload 1, .iconst 1, .iadd, .iaload] (by decide +kernel) (show aok 54 0 (v1 + (Int32.ofInt 1)) ∧ Wp E (d + 1) 25 25 [.ref 49, .int v1, .null, .null, .null] [.int (M 54 ((v1 + (Int32.ofInt 1)).toNatClampNeg)), .int (M 54 v1.toNatClampNeg)] M L Q from ⟨⟨rfl, a_15⟩, ?_⟩)
      refine wp_icmple (off := 9) 34 (by decide +kernel) (by decide) (fun c_16 => ?_) (fun c_16 => ?_)
      · have hP := hP.1 c_16
        refine wp_seg (pc' := 35) [.iload 1] (by decide +kernel) (?_ : Wp E (d + 1) 25 35 [.ref 49, .int v1, .null, .null, .null] [.int v1] M L Q)
        refine wp_ifge (off := 5) 40 (by decide +kernel) (by decide) (fun c_17 => ?_) (fun c_17 => ?_)
        · have hP := hP.1 c_17
          refine wp_seg (pc' := 47) [.aload 0, .getfield 263, .iconst 1, .isub, .istore 2] (by decide +kernel) (?_ : Wp E (d + 1) 25 47 [.ref 49, .int v1, .int ((M 49 7) - (Int32.ofInt 1)), .null, .null] [] M L Q)
          exact tl_X4_nextOrder_47 hK 100000 v1 ((M 49 7) - (Int32.ofInt 1)) M L hP
        · have hP := hP.2 c_17
          refine wp_seg (pc' := 39) [.iconst 0] (by decide +kernel) (?_ : Wp E (d + 1) 25 39 [.ref 49, .int v1, .null, .null, .null] [.int (Int32.ofInt 0)] M L Q)
          exact wp_zret (by decide +kernel) rfl (by decide) (hK _ _ _ hP)
      · have hP := hP.2 c_16
        refine wp_seg (pc' := 7) [.iinc 1 (-1), .goto 0] (by decide +kernel) (?_ : Wp E (d + 1) 25 7 [.ref 49, .int (v1 + Int32.ofInt (-1)), .null, .null, .null] [] M L Q)
        exact ih (v1 + Int32.ofInt (-1)) M L hP
def P_X4_nextOrder (M : Mem) (L : LMem) (K : Int32 → Mem → LMem → Prop) : Prop := PL_X4_nextOrder_7 K 100000 ((M 49 7) - (Int32.ofInt 2)) M L
theorem t_X4_nextOrder {E : VE} {d : Nat} {Q : QQ} {K : Int32 → Mem → LMem → Prop} {M : Mem} {L : LMem} (hP : P_X4_nextOrder M L K) (hK : ∀ (v : Int32) (M : Mem) (L : LMem), K v M L → Q (some (.int v)) M L) : Wp E (d + 1) 25 0 [.ref 49, .null, .null, .null, .null] [] M L Q := by
  unfold P_X4_nextOrder at hP
  refine wp_seg (pc' := 7) [.aload 0, .getfield 263, .iconst 2, .isub, .istore 1] (by decide +kernel) (?_ : Wp E (d + 1) 25 7 [.ref 49, .int ((M 49 7) - (Int32.ofInt 2)), .null, .null, .null] [] M L Q)
  exact tl_X4_nextOrder_7 hK 100000 ((M 49 7) - (Int32.ofInt 2)) M L hP

def PL_X4_gather_23 (K : Int32 → Mem → LMem → Prop)  : Nat → Int32 → Mem → LMem → Prop
  | 0, _, _, _ => False
  | n_ + 1, v3, M, L => (((M 49 7) ≤ v3 → K (Int32.ofInt 1) M L) ∧ (¬ ((M 49 7) ≤ v3) → (vp_in v3 5 ∧ P_X6_find (M 10 v3.toNatClampNeg) (M 11 v3.toNatClampNeg) (Int32.ofInt 0) M L (fun v_8 M_6 L_7 => ((v_8 = 0 → K (Int32.ofInt 0) M_6 L_7) ∧ (¬ (v_8 = 0) → PL_X4_gather_23 K n_ (v3 + Int32.ofInt 1) (mput (mput (mput (mput M_6 50 v3.toNatClampNeg (((Int32.ofInt 1) <<< ((M_6 10 v3.toNatClampNeg) &&& 31)) ||| ((Int32.ofInt 1) <<< ((M_6 11 v3.toNatClampNeg) &&& 31)))) 51 v3.toNatClampNeg (M_6 37 5)) 52 v3.toNatClampNeg (M_6 12 v3.toNatClampNeg)) 53 v3.toNatClampNeg (M_6 13 v3.toNatClampNeg)) L_7))))))
theorem tl_X4_gather_23 {E : VE} {d : Nat} {Q : QQ} {K : Int32 → Mem → LMem → Prop}  (hK : ∀ (v : Int32) (M : Mem) (L : LMem), K v M L → Q (some (.int v)) M L)  : ∀ (n_ : Nat) (v3 : Int32) (M : Mem) (L : LMem), PL_X4_gather_23 K n_ v3 M L → Wp E (d + 4) 17 23 [.ref 49, .ref 3, .ref 37, .int v3] [] M L Q := by
  intro n_
  induction n_ with
  | zero => intro v3 M L hP; exact False.elim hP
  | succ n_ ih =>
    intro v3 M L hP
    unfold PL_X4_gather_23 at hP
    refine wp_seg (pc' := 28) [.iload 3, .aload 0, .getfield 263] (by decide +kernel) (?_ : Wp E (d + 4) 17 28 [.ref 49, .ref 3, .ref 37, .int v3] [.int (M 49 7), .int v3] M L Q)
    refine wp_icmpge (off := 89) 117 (by decide +kernel) (by decide) (fun c_4 => ?_) (fun c_4 => ?_)
    · have hP := hP.1 c_4
      refine wp_seg (pc' := 118) [.iconst 1] (by decide +kernel) (?_ : Wp E (d + 4) 17 118 [.ref 49, .ref 3, .ref 37, .int v3] [.int (Int32.ofInt 1)] M L Q)
      exact wp_zret (by decide +kernel) rfl (by decide) (hK _ _ _ hP)
    · have hP := hP.2 c_4
      obtain ⟨a_5, hP⟩ := hP
      refine wp_seg (pc' := 39) [.aload 2, .aload 1, .aload 1, .getfield 196, .iload 3, .iaload] (by decide +kernel) (show aok 10 0 v3 ∧ Wp E (d + 4) 17 39 [.ref 49, .ref 3, .ref 37, .int v3] [.int (M 10 v3.toNatClampNeg), .ref 3, .ref 37] M L Q from ⟨⟨rfl, a_5⟩, ?_⟩)
      refine wp_seg (pc' := 45) [.aload 1, .getfield 197, .iload 3, .iaload] (by decide +kernel) (show aok 11 0 v3 ∧ Wp E (d + 4) 17 45 [.ref 49, .ref 3, .ref 37, .int v3] [.int (M 11 v3.toNatClampNeg), .int (M 10 v3.toNatClampNeg), .ref 3, .ref 37] M L Q from ⟨⟨rfl, a_5⟩, ?_⟩)
      refine wp_seg (pc' := 46) [.iconst 0] (by decide +kernel) (?_ : Wp E (d + 4) 17 46 [.ref 49, .ref 3, .ref 37, .int v3] [.int (Int32.ofInt 0), .int (M 11 v3.toNatClampNeg), .int (M 10 v3.toNatClampNeg), .ref 3, .ref 37] M L Q)
      refine wp_callV 38 37 [.ref 3, .int (M 10 v3.toNatClampNeg), .int (M 11 v3.toNatClampNeg), .int (Int32.ofInt 0)] (i := 62) (by decide +kernel) (by decide +kernel) (by decide +kernel) (by decide +kernel) rfl rfl rfl (rest := []) rfl rfl ?_
      refine t_X6_find hP (fun v_8 M_6 L_7 hP => ?_)
      show Wp E (d + 4) 17 49 [.ref 49, .ref 3, .ref 37, .int v3] [.int v_8] M_6 L_7 Q
      refine wp_ifne (off := 5) 54 (by decide +kernel) (by decide) (fun c_9 => ?_) (fun c_9 => ?_)
      · have hP := hP.2 c_9
        refine wp_seg (pc' := 66) [.aload 0, .getfield 256, .iload 3, .iconst 1, .aload 1, .getfield 196, .iload 3, .iaload] (by decide +kernel) (show aok 10 0 v3 ∧ Wp E (d + 4) 17 66 [.ref 49, .ref 3, .ref 37, .int v3] [.int (M_6 10 v3.toNatClampNeg), .int (Int32.ofInt 1), .int v3, .ref 50] M_6 L_7 Q from ⟨⟨rfl, a_5⟩, ?_⟩)
        refine wp_seg (pc' := 74) [.ishl, .iconst 1, .aload 1, .getfield 197, .iload 3, .iaload] (by decide +kernel) (show aok 11 0 v3 ∧ Wp E (d + 4) 17 74 [.ref 49, .ref 3, .ref 37, .int v3] [.int (M_6 11 v3.toNatClampNeg), .int (Int32.ofInt 1), .int ((Int32.ofInt 1) <<< ((M_6 10 v3.toNatClampNeg) &&& 31)), .int v3, .ref 50] M_6 L_7 Q from ⟨⟨rfl, a_5⟩, ?_⟩)
        refine wp_seg (pc' := 77) [.ishl, .ior, .iastore] (by decide +kernel) (show aok 50 0 v3 ∧ Wp E (d + 4) 17 77 [.ref 49, .ref 3, .ref 37, .int v3] [] (mput M_6 50 v3.toNatClampNeg (((Int32.ofInt 1) <<< ((M_6 10 v3.toNatClampNeg) &&& 31)) ||| ((Int32.ofInt 1) <<< ((M_6 11 v3.toNatClampNeg) &&& 31)))) L_7 Q from ⟨⟨rfl, a_5⟩, ?_⟩)
        refine wp_seg (pc' := 87) [.aload 0, .getfield 257, .iload 3, .aload 2, .getfield 389, .iastore] (by decide +kernel) (show aok 51 0 v3 ∧ Wp E (d + 4) 17 87 [.ref 49, .ref 3, .ref 37, .int v3] [] (mput (mput M_6 50 v3.toNatClampNeg (((Int32.ofInt 1) <<< ((M_6 10 v3.toNatClampNeg) &&& 31)) ||| ((Int32.ofInt 1) <<< ((M_6 11 v3.toNatClampNeg) &&& 31)))) 51 v3.toNatClampNeg (M_6 37 5)) L_7 Q from ⟨⟨rfl, a_5⟩, ?_⟩)
        refine wp_seg (pc' := 98) [.aload 0, .getfield 258, .iload 3, .aload 1, .getfield 198, .iload 3, .iaload] (by decide +kernel) (show aok 12 0 v3 ∧ Wp E (d + 4) 17 98 [.ref 49, .ref 3, .ref 37, .int v3] [.int (M_6 12 v3.toNatClampNeg), .int v3, .ref 52] (mput (mput M_6 50 v3.toNatClampNeg (((Int32.ofInt 1) <<< ((M_6 10 v3.toNatClampNeg) &&& 31)) ||| ((Int32.ofInt 1) <<< ((M_6 11 v3.toNatClampNeg) &&& 31)))) 51 v3.toNatClampNeg (M_6 37 5)) L_7 Q from ⟨⟨rfl, a_5⟩, ?_⟩)
        refine wp_seg (pc' := 99) [.iastore] (by decide +kernel) (show aok 52 0 v3 ∧ Wp E (d + 4) 17 99 [.ref 49, .ref 3, .ref 37, .int v3] [] (mput (mput (mput M_6 50 v3.toNatClampNeg (((Int32.ofInt 1) <<< ((M_6 10 v3.toNatClampNeg) &&& 31)) ||| ((Int32.ofInt 1) <<< ((M_6 11 v3.toNatClampNeg) &&& 31)))) 51 v3.toNatClampNeg (M_6 37 5)) 52 v3.toNatClampNeg (M_6 12 v3.toNatClampNeg)) L_7 Q from ⟨⟨rfl, a_5⟩, ?_⟩)
        refine wp_seg (pc' := 110) [.aload 0, .getfield 259, .iload 3, .aload 1, .getfield 199, .iload 3, .iaload] (by decide +kernel) (show aok 13 0 v3 ∧ Wp E (d + 4) 17 110 [.ref 49, .ref 3, .ref 37, .int v3] [.int (M_6 13 v3.toNatClampNeg), .int v3, .ref 53] (mput (mput (mput M_6 50 v3.toNatClampNeg (((Int32.ofInt 1) <<< ((M_6 10 v3.toNatClampNeg) &&& 31)) ||| ((Int32.ofInt 1) <<< ((M_6 11 v3.toNatClampNeg) &&& 31)))) 51 v3.toNatClampNeg (M_6 37 5)) 52 v3.toNatClampNeg (M_6 12 v3.toNatClampNeg)) L_7 Q from ⟨⟨rfl, a_5⟩, ?_⟩)
        refine wp_seg (pc' := 111) [.iastore] (by decide +kernel) (show aok 53 0 v3 ∧ Wp E (d + 4) 17 111 [.ref 49, .ref 3, .ref 37, .int v3] [] (mput (mput (mput (mput M_6 50 v3.toNatClampNeg (((Int32.ofInt 1) <<< ((M_6 10 v3.toNatClampNeg) &&& 31)) ||| ((Int32.ofInt 1) <<< ((M_6 11 v3.toNatClampNeg) &&& 31)))) 51 v3.toNatClampNeg (M_6 37 5)) 52 v3.toNatClampNeg (M_6 12 v3.toNatClampNeg)) 53 v3.toNatClampNeg (M_6 13 v3.toNatClampNeg)) L_7 Q from ⟨⟨rfl, a_5⟩, ?_⟩)
        refine wp_seg (pc' := 23) [.iinc 3 1, .goto 0] (by decide +kernel) (?_ : Wp E (d + 4) 17 23 [.ref 49, .ref 3, .ref 37, .int (v3 + Int32.ofInt 1)] [] (mput (mput (mput (mput M_6 50 v3.toNatClampNeg (((Int32.ofInt 1) <<< ((M_6 10 v3.toNatClampNeg) &&& 31)) ||| ((Int32.ofInt 1) <<< ((M_6 11 v3.toNatClampNeg) &&& 31)))) 51 v3.toNatClampNeg (M_6 37 5)) 52 v3.toNatClampNeg (M_6 12 v3.toNatClampNeg)) 53 v3.toNatClampNeg (M_6 13 v3.toNatClampNeg)) L_7 Q)
        exact ih (v3 + Int32.ofInt 1) (mput (mput (mput (mput M_6 50 v3.toNatClampNeg (((Int32.ofInt 1) <<< ((M_6 10 v3.toNatClampNeg) &&& 31)) ||| ((Int32.ofInt 1) <<< ((M_6 11 v3.toNatClampNeg) &&& 31)))) 51 v3.toNatClampNeg (M_6 37 5)) 52 v3.toNatClampNeg (M_6 12 v3.toNatClampNeg)) 53 v3.toNatClampNeg (M_6 13 v3.toNatClampNeg)) L_7 hP
      · have hP := hP.1 c_9
        refine wp_seg (pc' := 53) [.iconst 0] (by decide +kernel) (?_ : Wp E (d + 4) 17 53 [.ref 49, .ref 3, .ref 37, .int v3] [.int (Int32.ofInt 0)] M_6 L_7 Q)
        exact wp_zret (by decide +kernel) rfl (by decide) (hK _ _ _ hP)
def P_X4_gather (M : Mem) (L : LMem) (K : Int32 → Mem → LMem → Prop) : Prop := P_X2_ofKind (Int32.ofInt 61) (mput M 49 7 (M 3 8)) L (fun v_3 M_1 L_2 => PL_X4_gather_23 K 100000 (Int32.ofInt 0) (mput M_1 49 8 v_3) L_2)
theorem t_X4_gather {E : VE} {d : Nat} {Q : QQ} {K : Int32 → Mem → LMem → Prop} {M : Mem} {L : LMem} (hP : P_X4_gather M L K) (hK : ∀ (v : Int32) (M : Mem) (L : LMem), K v M L → Q (some (.int v)) M L) : Wp E (d + 4) 17 0 [.ref 49, .ref 3, .ref 37, .null] [] M L Q := by
  unfold P_X4_gather at hP
  refine wp_seg (pc' := 15) [.aload 0, .aload 1, .getfield 200, .putfield 263, .aload 0, .aload 1, .getfield 192, .iconst 61] (by decide +kernel) (?_ : Wp E (d + 4) 17 15 [.ref 49, .ref 3, .ref 37, .null] [.int (Int32.ofInt 61), .ref 4, .ref 49] (mput M 49 7 (M 3 8)) L Q)
  refine wp_callV 14 4 [.int (Int32.ofInt 61)] (i := 47) (by decide +kernel) (by decide +kernel) (by decide +kernel) (by decide +kernel) rfl rfl rfl (rest := [.ref 49]) rfl rfl ?_
  refine t_X2_ofKind hP (fun v_3 M_1 L_2 hP => ?_)
  show Wp E (d + 4) 17 18 [.ref 49, .ref 3, .ref 37, .null] [.int v_3, .ref 49] M_1 L_2 Q
  refine wp_seg (pc' := 23) [.putfield 264, .iconst 0, .istore 3] (by decide +kernel) (?_ : Wp E (d + 4) 17 23 [.ref 49, .ref 3, .ref 37, .int (Int32.ofInt 0)] [] (mput M_1 49 8 v_3) L_2 Q)
  exact tl_X4_gather_23 hK 100000 (Int32.ofInt 0) (mput M_1 49 8 v_3) L_2 hP

def PL_X4_seek_35 (K : Mem → LMem → Prop)  : Nat → Int32 → Int32 → Int32 → Mem → LMem → Prop
  | 0, _, _, _, _, _ => False
  | n_ + 1, v1, v2, v3, M, L => (((Int32.ofInt 120) ≤ v3 → K M L) ∧ (¬ ((Int32.ofInt 120) ≤ v3) → ((v2 = 0 → K M L) ∧ (¬ (v2 = 0) → P_X4_orderEnd v1 M L (fun v_6 M_4 L_5 => (((M_4 49 9) ≤ v_6 → ((v1 = 0 → P_X4_nextOrder M_4 L_5 (fun v_11 M_9 L_10 => ((v_11 = 0 → PL_X4_seek_35 K n_ v1 (Int32.ofInt 0) (v3 + Int32.ofInt 1) M_9 L_10) ∧ (¬ (v_11 = 0) → PL_X4_seek_35 K n_ v1 (Int32.ofInt 1) (v3 + Int32.ofInt 1) M_9 L_10)))) ∧ (¬ (v1 = 0) → (((M_4 49 10) = 0 → P_X4_nextOrder M_4 L_5 (fun v_16 M_14 L_15 => ((v_16 = 0 → PL_X4_seek_35 K n_ v1 (Int32.ofInt 0) (v3 + Int32.ofInt 1) M_14 L_15) ∧ (¬ (v_16 = 0) → PL_X4_seek_35 K n_ v1 (Int32.ofInt 1) (v3 + Int32.ofInt 1) M_14 L_15)))) ∧ (¬ ((M_4 49 10) = 0) → PL_X4_seek_35 K n_ v1 (Int32.ofInt 0) (v3 + Int32.ofInt 1) M_4 L_5))))) ∧ (¬ ((M_4 49 9) ≤ v_6) → ((v1 = 0 → P_X4_nextOrder (mcpy (mput (mput M_4 49 9 v_6) 49 10 (Int32.ofInt 1)) 54 55 ((Int32.ofInt 0).toNatClampNeg) ((Int32.ofInt 0).toNatClampNeg) ((Int32.ofInt 5).toNatClampNeg)) L_5 (fun v_21 M_19 L_20 => ((v_21 = 0 → PL_X4_seek_35 K n_ v1 (Int32.ofInt 0) (v3 + Int32.ofInt 1) M_19 L_20) ∧ (¬ (v_21 = 0) → PL_X4_seek_35 K n_ v1 (Int32.ofInt 1) (v3 + Int32.ofInt 1) M_19 L_20)))) ∧ (¬ (v1 = 0) → ((((mcpy (mput (mput M_4 49 9 v_6) 49 10 (Int32.ofInt 1)) 54 55 ((Int32.ofInt 0).toNatClampNeg) ((Int32.ofInt 0).toNatClampNeg) ((Int32.ofInt 5).toNatClampNeg)) 49 10) = 0 → P_X4_nextOrder (mcpy (mput (mput M_4 49 9 v_6) 49 10 (Int32.ofInt 1)) 54 55 ((Int32.ofInt 0).toNatClampNeg) ((Int32.ofInt 0).toNatClampNeg) ((Int32.ofInt 5).toNatClampNeg)) L_5 (fun v_26 M_24 L_25 => ((v_26 = 0 → PL_X4_seek_35 K n_ v1 (Int32.ofInt 0) (v3 + Int32.ofInt 1) M_24 L_25) ∧ (¬ (v_26 = 0) → PL_X4_seek_35 K n_ v1 (Int32.ofInt 1) (v3 + Int32.ofInt 1) M_24 L_25)))) ∧ (¬ (((mcpy (mput (mput M_4 49 9 v_6) 49 10 (Int32.ofInt 1)) 54 55 ((Int32.ofInt 0).toNatClampNeg) ((Int32.ofInt 0).toNatClampNeg) ((Int32.ofInt 5).toNatClampNeg)) 49 10) = 0) → PL_X4_seek_35 K n_ v1 (Int32.ofInt 0) (v3 + Int32.ofInt 1) (mcpy (mput (mput M_4 49 9 v_6) 49 10 (Int32.ofInt 1)) 54 55 ((Int32.ofInt 0).toNatClampNeg) ((Int32.ofInt 0).toNatClampNeg) ((Int32.ofInt 5).toNatClampNeg)) L_5)))))))))))
theorem tl_X4_seek_35 {E : VE} {d : Nat} {Q : QQ} {K : Mem → LMem → Prop}  (hK : ∀ (M : Mem) (L : LMem), K M L → Q none M L)  : ∀ (n_ : Nat) (v1 : Int32) (v2 : Int32) (v3 : Int32) (M : Mem) (L : LMem), PL_X4_seek_35 K n_ v1 v2 v3 M L → Wp E (d + 3) 18 35 [.ref 49, .int v1, .int v2, .int v3, .null] [] M L Q := by
  intro n_
  induction n_ with
  | zero => intro v1 v2 v3 M L hP; exact False.elim hP
  | succ n_ ih =>
    intro v1 v2 v3 M L hP
    unfold PL_X4_seek_35 at hP
    refine wp_seg (pc' := 38) [.iload 3, .iconst 120] (by decide +kernel) (?_ : Wp E (d + 3) 18 38 [.ref 49, .int v1, .int v2, .int v3, .null] [.int (Int32.ofInt 120), .int v3] M L Q)
    refine wp_icmpge (off := 78) 116 (by decide +kernel) (by decide) (fun c_2 => ?_) (fun c_2 => ?_)
    · have hP := hP.1 c_2
      exact wp_vret (by decide +kernel) rfl (hK _ _ hP)
    · have hP := hP.2 c_2
      refine wp_seg (pc' := 42) [.iload 2] (by decide +kernel) (?_ : Wp E (d + 3) 18 42 [.ref 49, .int v1, .int v2, .int v3, .null] [.int v2] M L Q)
      refine wp_ifeq (off := 74) 116 (by decide +kernel) (by decide) (fun c_3 => ?_) (fun c_3 => ?_)
      · have hP := hP.1 c_3
        exact wp_vret (by decide +kernel) rfl (hK _ _ hP)
      · have hP := hP.2 c_3
        refine wp_seg (pc' := 47) [.aload 0, .iload 1] (by decide +kernel) (?_ : Wp E (d + 3) 18 47 [.ref 49, .int v1, .int v2, .int v3, .null] [.int v1, .ref 49] M L Q)
        refine wp_callV 20 49 [.int v1] (i := 80) (by decide +kernel) (by decide +kernel) (by decide +kernel) (by decide +kernel) rfl rfl rfl (rest := []) rfl rfl ?_
        refine t_X4_orderEnd hP (fun v_6 M_4 L_5 hP => ?_)
        show Wp E (d + 3) 18 50 [.ref 49, .int v1, .int v2, .int v3, .null] [.int v_6] M_4 L_5 Q
        refine wp_seg (pc' := 58) [.istore 4, .iload 4, .aload 0, .getfield 265] (by decide +kernel) (?_ : Wp E (d + 3) 18 58 [.ref 49, .int v1, .int v2, .int v3, .int v_6] [.int (M_4 49 9), .int v_6] M_4 L_5 Q)
        refine wp_icmpge (off := 28) 86 (by decide +kernel) (by decide) (fun c_7 => ?_) (fun c_7 => ?_)
        · have hP := hP.1 c_7
          refine wp_seg (pc' := 87) [.iload 1] (by decide +kernel) (?_ : Wp E (d + 3) 18 87 [.ref 49, .int v1, .int v2, .int v3, .int v_6] [.int v1] M_4 L_5 Q)
          refine wp_ifeq (off := 10) 97 (by decide +kernel) (by decide) (fun c_8 => ?_) (fun c_8 => ?_)
          · have hP := hP.1 c_8
            refine wp_seg (pc' := 98) [.aload 0] (by decide +kernel) (?_ : Wp E (d + 3) 18 98 [.ref 49, .int v1, .int v2, .int v3, .int v_6] [.ref 49] M_4 L_5 Q)
            refine wp_callV 25 49 [] (i := 90) (by decide +kernel) (by decide +kernel) (by decide +kernel) (by decide +kernel) rfl rfl rfl (rest := []) rfl rfl ?_
            refine t_X4_nextOrder hP (fun v_11 M_9 L_10 hP => ?_)
            show Wp E (d + 3) 18 101 [.ref 49, .int v1, .int v2, .int v3, .int v_6] [.int v_11] M_9 L_10 Q
            refine wp_ifeq (off := 7) 108 (by decide +kernel) (by decide) (fun c_12 => ?_) (fun c_12 => ?_)
            · have hP := hP.1 c_12
              refine wp_seg (pc' := 35) [.iconst 0, .istore 2, .iinc 3 1, .goto 0] (by decide +kernel) (?_ : Wp E (d + 3) 18 35 [.ref 49, .int v1, .int (Int32.ofInt 0), .int (v3 + Int32.ofInt 1), .int v_6] [] M_9 L_10 Q)
              refine wp_drop (lo := [.ref 49, .int v1, .int (Int32.ofInt 0), .int (v3 + Int32.ofInt 1), .null]) ⟨Or.inr rfl, Or.inr rfl, Or.inr rfl, Or.inr rfl, Or.inl rfl, trivial⟩ ?_
              exact ih v1 (Int32.ofInt 0) (v3 + Int32.ofInt 1) M_9 L_10 hP
            · have hP := hP.2 c_12
              refine wp_seg (pc' := 35) [.iconst 1, .goto 0, .istore 2, .iinc 3 1, .goto 0] (by decide +kernel) (?_ : Wp E (d + 3) 18 35 [.ref 49, .int v1, .int (Int32.ofInt 1), .int (v3 + Int32.ofInt 1), .int v_6] [] M_9 L_10 Q)
              refine wp_drop (lo := [.ref 49, .int v1, .int (Int32.ofInt 1), .int (v3 + Int32.ofInt 1), .null]) ⟨Or.inr rfl, Or.inr rfl, Or.inr rfl, Or.inr rfl, Or.inl rfl, trivial⟩ ?_
              exact ih v1 (Int32.ofInt 1) (v3 + Int32.ofInt 1) M_9 L_10 hP
          · have hP := hP.2 c_8
            refine wp_seg (pc' := 94) [.aload 0, .getfield 266] (by decide +kernel) (?_ : Wp E (d + 3) 18 94 [.ref 49, .int v1, .int v2, .int v3, .int v_6] [.int (M_4 49 10)] M_4 L_5 Q)
            refine wp_ifne (off := 14) 108 (by decide +kernel) (by decide) (fun c_13 => ?_) (fun c_13 => ?_)
            · have hP := hP.2 c_13
              refine wp_seg (pc' := 35) [.iconst 0, .istore 2, .iinc 3 1, .goto 0] (by decide +kernel) (?_ : Wp E (d + 3) 18 35 [.ref 49, .int v1, .int (Int32.ofInt 0), .int (v3 + Int32.ofInt 1), .int v_6] [] M_4 L_5 Q)
              refine wp_drop (lo := [.ref 49, .int v1, .int (Int32.ofInt 0), .int (v3 + Int32.ofInt 1), .null]) ⟨Or.inr rfl, Or.inr rfl, Or.inr rfl, Or.inr rfl, Or.inl rfl, trivial⟩ ?_
              exact ih v1 (Int32.ofInt 0) (v3 + Int32.ofInt 1) M_4 L_5 hP
            · have hP := hP.1 c_13
              refine wp_seg (pc' := 98) [.aload 0] (by decide +kernel) (?_ : Wp E (d + 3) 18 98 [.ref 49, .int v1, .int v2, .int v3, .int v_6] [.ref 49] M_4 L_5 Q)
              refine wp_callV 25 49 [] (i := 90) (by decide +kernel) (by decide +kernel) (by decide +kernel) (by decide +kernel) rfl rfl rfl (rest := []) rfl rfl ?_
              refine t_X4_nextOrder hP (fun v_16 M_14 L_15 hP => ?_)
              show Wp E (d + 3) 18 101 [.ref 49, .int v1, .int v2, .int v3, .int v_6] [.int v_16] M_14 L_15 Q
              refine wp_ifeq (off := 7) 108 (by decide +kernel) (by decide) (fun c_17 => ?_) (fun c_17 => ?_)
              · have hP := hP.1 c_17
                refine wp_seg (pc' := 35) [.iconst 0, .istore 2, .iinc 3 1, .goto 0] (by decide +kernel) (?_ : Wp E (d + 3) 18 35 [.ref 49, .int v1, .int (Int32.ofInt 0), .int (v3 + Int32.ofInt 1), .int v_6] [] M_14 L_15 Q)
                refine wp_drop (lo := [.ref 49, .int v1, .int (Int32.ofInt 0), .int (v3 + Int32.ofInt 1), .null]) ⟨Or.inr rfl, Or.inr rfl, Or.inr rfl, Or.inr rfl, Or.inl rfl, trivial⟩ ?_
                exact ih v1 (Int32.ofInt 0) (v3 + Int32.ofInt 1) M_14 L_15 hP
              · have hP := hP.2 c_17
                refine wp_seg (pc' := 35) [.iconst 1, .goto 0, .istore 2, .iinc 3 1, .goto 0] (by decide +kernel) (?_ : Wp E (d + 3) 18 35 [.ref 49, .int v1, .int (Int32.ofInt 1), .int (v3 + Int32.ofInt 1), .int v_6] [] M_14 L_15 Q)
                refine wp_drop (lo := [.ref 49, .int v1, .int (Int32.ofInt 1), .int (v3 + Int32.ofInt 1), .null]) ⟨Or.inr rfl, Or.inr rfl, Or.inr rfl, Or.inr rfl, Or.inl rfl, trivial⟩ ?_
                exact ih v1 (Int32.ofInt 1) (v3 + Int32.ofInt 1) M_14 L_15 hP
        · have hP := hP.2 c_7
          refine wp_seg (pc' := 72) [.aload 0, .iload 4, .putfield 265, .aload 0, .iconst 1, .putfield 266] (by decide +kernel) (show (Int32.ofInt 1 = 0 ∨ Int32.ofInt 1 = 1) ∧ Wp E (d + 3) 18 72 [.ref 49, .int v1, .int v2, .int v3, .int v_6] [] (mput (mput M_4 49 9 v_6) 49 10 (Int32.ofInt 1)) L_5 Q from ⟨(by decide), ?_⟩)
          refine wp_seg (pc' := 86) [.aload 0, .getfield 260, .iconst 0, .aload 0, .getfield 261, .iconst 0, .iconst 5, .invokestatic 2] (by decide +kernel) (show (oty 54 = 0 ∧ oty 55 = 0 ∧ ¬ (Int32.ofInt 0) < 0 ∧ ¬ (Int32.ofInt 0) < 0 ∧ ¬ (Int32.ofInt 5) < 0 ∧ (Int32.ofInt 0).toNatClampNeg + (Int32.ofInt 5).toNatClampNeg ≤ oln 54 ∧ (Int32.ofInt 0).toNatClampNeg + (Int32.ofInt 5).toNatClampNeg ≤ oln 55) ∧ Wp E (d + 3) 18 86 [.ref 49, .int v1, .int v2, .int v3, .int v_6] [] (mcpy (mput (mput M_4 49 9 v_6) 49 10 (Int32.ofInt 1)) 54 55 ((Int32.ofInt 0).toNatClampNeg) ((Int32.ofInt 0).toNatClampNeg) ((Int32.ofInt 5).toNatClampNeg)) L_5 Q from ⟨(by decide), ?_⟩)
          refine wp_seg (pc' := 87) [.iload 1] (by decide +kernel) (?_ : Wp E (d + 3) 18 87 [.ref 49, .int v1, .int v2, .int v3, .int v_6] [.int v1] (mcpy (mput (mput M_4 49 9 v_6) 49 10 (Int32.ofInt 1)) 54 55 ((Int32.ofInt 0).toNatClampNeg) ((Int32.ofInt 0).toNatClampNeg) ((Int32.ofInt 5).toNatClampNeg)) L_5 Q)
          refine wp_ifeq (off := 10) 97 (by decide +kernel) (by decide) (fun c_18 => ?_) (fun c_18 => ?_)
          · have hP := hP.1 c_18
            refine wp_seg (pc' := 98) [.aload 0] (by decide +kernel) (?_ : Wp E (d + 3) 18 98 [.ref 49, .int v1, .int v2, .int v3, .int v_6] [.ref 49] (mcpy (mput (mput M_4 49 9 v_6) 49 10 (Int32.ofInt 1)) 54 55 ((Int32.ofInt 0).toNatClampNeg) ((Int32.ofInt 0).toNatClampNeg) ((Int32.ofInt 5).toNatClampNeg)) L_5 Q)
            refine wp_callV 25 49 [] (i := 90) (by decide +kernel) (by decide +kernel) (by decide +kernel) (by decide +kernel) rfl rfl rfl (rest := []) rfl rfl ?_
            refine t_X4_nextOrder hP (fun v_21 M_19 L_20 hP => ?_)
            show Wp E (d + 3) 18 101 [.ref 49, .int v1, .int v2, .int v3, .int v_6] [.int v_21] M_19 L_20 Q
            refine wp_ifeq (off := 7) 108 (by decide +kernel) (by decide) (fun c_22 => ?_) (fun c_22 => ?_)
            · have hP := hP.1 c_22
              refine wp_seg (pc' := 35) [.iconst 0, .istore 2, .iinc 3 1, .goto 0] (by decide +kernel) (?_ : Wp E (d + 3) 18 35 [.ref 49, .int v1, .int (Int32.ofInt 0), .int (v3 + Int32.ofInt 1), .int v_6] [] M_19 L_20 Q)
              refine wp_drop (lo := [.ref 49, .int v1, .int (Int32.ofInt 0), .int (v3 + Int32.ofInt 1), .null]) ⟨Or.inr rfl, Or.inr rfl, Or.inr rfl, Or.inr rfl, Or.inl rfl, trivial⟩ ?_
              exact ih v1 (Int32.ofInt 0) (v3 + Int32.ofInt 1) M_19 L_20 hP
            · have hP := hP.2 c_22
              refine wp_seg (pc' := 35) [.iconst 1, .goto 0, .istore 2, .iinc 3 1, .goto 0] (by decide +kernel) (?_ : Wp E (d + 3) 18 35 [.ref 49, .int v1, .int (Int32.ofInt 1), .int (v3 + Int32.ofInt 1), .int v_6] [] M_19 L_20 Q)
              refine wp_drop (lo := [.ref 49, .int v1, .int (Int32.ofInt 1), .int (v3 + Int32.ofInt 1), .null]) ⟨Or.inr rfl, Or.inr rfl, Or.inr rfl, Or.inr rfl, Or.inl rfl, trivial⟩ ?_
              exact ih v1 (Int32.ofInt 1) (v3 + Int32.ofInt 1) M_19 L_20 hP
          · have hP := hP.2 c_18
            refine wp_seg (pc' := 94) [.aload 0, .getfield 266] (by decide +kernel) (?_ : Wp E (d + 3) 18 94 [.ref 49, .int v1, .int v2, .int v3, .int v_6] [.int ((mcpy (mput (mput M_4 49 9 v_6) 49 10 (Int32.ofInt 1)) 54 55 ((Int32.ofInt 0).toNatClampNeg) ((Int32.ofInt 0).toNatClampNeg) ((Int32.ofInt 5).toNatClampNeg)) 49 10)] (mcpy (mput (mput M_4 49 9 v_6) 49 10 (Int32.ofInt 1)) 54 55 ((Int32.ofInt 0).toNatClampNeg) ((Int32.ofInt 0).toNatClampNeg) ((Int32.ofInt 5).toNatClampNeg)) L_5 Q)
            refine wp_ifne (off := 14) 108 (by decide +kernel) (by decide) (fun c_23 => ?_) (fun c_23 => ?_)
            · have hP := hP.2 c_23
              refine wp_seg (pc' := 35) [.iconst 0, .istore 2, .iinc 3 1, .goto 0] (by decide +kernel) (?_ : Wp E (d + 3) 18 35 [.ref 49, .int v1, .int (Int32.ofInt 0), .int (v3 + Int32.ofInt 1), .int v_6] [] (mcpy (mput (mput M_4 49 9 v_6) 49 10 (Int32.ofInt 1)) 54 55 ((Int32.ofInt 0).toNatClampNeg) ((Int32.ofInt 0).toNatClampNeg) ((Int32.ofInt 5).toNatClampNeg)) L_5 Q)
              refine wp_drop (lo := [.ref 49, .int v1, .int (Int32.ofInt 0), .int (v3 + Int32.ofInt 1), .null]) ⟨Or.inr rfl, Or.inr rfl, Or.inr rfl, Or.inr rfl, Or.inl rfl, trivial⟩ ?_
              exact ih v1 (Int32.ofInt 0) (v3 + Int32.ofInt 1) (mcpy (mput (mput M_4 49 9 v_6) 49 10 (Int32.ofInt 1)) 54 55 ((Int32.ofInt 0).toNatClampNeg) ((Int32.ofInt 0).toNatClampNeg) ((Int32.ofInt 5).toNatClampNeg)) L_5 hP
            · have hP := hP.1 c_23
              refine wp_seg (pc' := 98) [.aload 0] (by decide +kernel) (?_ : Wp E (d + 3) 18 98 [.ref 49, .int v1, .int v2, .int v3, .int v_6] [.ref 49] (mcpy (mput (mput M_4 49 9 v_6) 49 10 (Int32.ofInt 1)) 54 55 ((Int32.ofInt 0).toNatClampNeg) ((Int32.ofInt 0).toNatClampNeg) ((Int32.ofInt 5).toNatClampNeg)) L_5 Q)
              refine wp_callV 25 49 [] (i := 90) (by decide +kernel) (by decide +kernel) (by decide +kernel) (by decide +kernel) rfl rfl rfl (rest := []) rfl rfl ?_
              refine t_X4_nextOrder hP (fun v_26 M_24 L_25 hP => ?_)
              show Wp E (d + 3) 18 101 [.ref 49, .int v1, .int v2, .int v3, .int v_6] [.int v_26] M_24 L_25 Q
              refine wp_ifeq (off := 7) 108 (by decide +kernel) (by decide) (fun c_27 => ?_) (fun c_27 => ?_)
              · have hP := hP.1 c_27
                refine wp_seg (pc' := 35) [.iconst 0, .istore 2, .iinc 3 1, .goto 0] (by decide +kernel) (?_ : Wp E (d + 3) 18 35 [.ref 49, .int v1, .int (Int32.ofInt 0), .int (v3 + Int32.ofInt 1), .int v_6] [] M_24 L_25 Q)
                refine wp_drop (lo := [.ref 49, .int v1, .int (Int32.ofInt 0), .int (v3 + Int32.ofInt 1), .null]) ⟨Or.inr rfl, Or.inr rfl, Or.inr rfl, Or.inr rfl, Or.inl rfl, trivial⟩ ?_
                exact ih v1 (Int32.ofInt 0) (v3 + Int32.ofInt 1) M_24 L_25 hP
              · have hP := hP.2 c_27
                refine wp_seg (pc' := 35) [.iconst 1, .goto 0, .istore 2, .iinc 3 1, .goto 0] (by decide +kernel) (?_ : Wp E (d + 3) 18 35 [.ref 49, .int v1, .int (Int32.ofInt 1), .int (v3 + Int32.ofInt 1), .int v_6] [] M_24 L_25 Q)
                refine wp_drop (lo := [.ref 49, .int v1, .int (Int32.ofInt 1), .int (v3 + Int32.ofInt 1), .null]) ⟨Or.inr rfl, Or.inr rfl, Or.inr rfl, Or.inr rfl, Or.inl rfl, trivial⟩ ?_
                exact ih v1 (Int32.ofInt 1) (v3 + Int32.ofInt 1) M_24 L_25 hP
def PL_X4_seek_2 (K : Mem → LMem → Prop)  : Nat → Int32 → Int32 → Mem → LMem → Prop
  | 0, _, _, _, _ => False
  | n_ + 1, v1, v2, M, L => (((Int32.ofInt 5) ≤ v2 → PL_X4_seek_35 K 100000 v1 (Int32.ofInt 1) (Int32.ofInt 0) (mput (mput M 49 10 (Int32.ofInt 0)) 49 9 (Int32.ofInt 64)) L) ∧ (¬ ((Int32.ofInt 5) ≤ v2) → (vp_in v2 5 ∧ PL_X4_seek_2 K n_ v1 (v2 + Int32.ofInt 1) (mput M 54 v2.toNatClampNeg v2) L)))
theorem tl_X4_seek_2 {E : VE} {d : Nat} {Q : QQ} {K : Mem → LMem → Prop}  (hK : ∀ (M : Mem) (L : LMem), K M L → Q none M L)  : ∀ (n_ : Nat) (v1 : Int32) (v2 : Int32) (M : Mem) (L : LMem), PL_X4_seek_2 K n_ v1 v2 M L → Wp E (d + 3) 18 2 [.ref 49, .int v1, .int v2, .null, .null] [] M L Q := by
  intro n_
  induction n_ with
  | zero => intro v1 v2 M L hP; exact False.elim hP
  | succ n_ ih =>
    intro v1 v2 M L hP
    unfold PL_X4_seek_2 at hP
    refine wp_seg (pc' := 4) [.iload 2, .iconst 5] (by decide +kernel) (?_ : Wp E (d + 3) 18 4 [.ref 49, .int v1, .int v2, .null, .null] [.int (Int32.ofInt 5), .int v2] M L Q)
    refine wp_icmpge (off := 16) 20 (by decide +kernel) (by decide) (fun c_1 => ?_) (fun c_1 => ?_)
    · have hP := hP.1 c_1
      refine wp_seg (pc' := 25) [.aload 0, .iconst 0, .putfield 266] (by decide +kernel) (show (Int32.ofInt 0 = 0 ∨ Int32.ofInt 0 = 1) ∧ Wp E (d + 3) 18 25 [.ref 49, .int v1, .int v2, .null, .null] [] (mput M 49 10 (Int32.ofInt 0)) L Q from ⟨(by decide), ?_⟩)
      refine wp_seg (pc' := 35) [.aload 0, .iconst 64, .putfield 265, .iconst 1, .istore 2, .iconst 0, .istore 3] (by decide +kernel) (?_ : Wp E (d + 3) 18 35 [.ref 49, .int v1, .int (Int32.ofInt 1), .int (Int32.ofInt 0), .null] [] (mput (mput M 49 10 (Int32.ofInt 0)) 49 9 (Int32.ofInt 64)) L Q)
      exact tl_X4_seek_35 hK 100000 v1 (Int32.ofInt 1) (Int32.ofInt 0) (mput (mput M 49 10 (Int32.ofInt 0)) 49 9 (Int32.ofInt 64)) L hP
    · have hP := hP.2 c_1
      obtain ⟨a_28, hP⟩ := hP
      refine wp_seg (pc' := 14) [.aload 0, .getfield 260, .iload 2, .iload 2, .iastore] (by decide +kernel) (show aok 54 0 v2 ∧ Wp E (d + 3) 18 14 [.ref 49, .int v1, .int v2, .null, .null] [] (mput M 54 v2.toNatClampNeg v2) L Q from ⟨⟨rfl, a_28⟩, ?_⟩)
      refine wp_seg (pc' := 2) [.iinc 2 1, .goto 0] (by decide +kernel) (?_ : Wp E (d + 3) 18 2 [.ref 49, .int v1, .int (v2 + Int32.ofInt 1), .null, .null] [] (mput M 54 v2.toNatClampNeg v2) L Q)
      exact ih v1 (v2 + Int32.ofInt 1) (mput M 54 v2.toNatClampNeg v2) L hP
def P_X4_seek (x1 : Int32) (M : Mem) (L : LMem) (K : Mem → LMem → Prop) : Prop := PL_X4_seek_2 K 100000 x1 (Int32.ofInt 0) M L
theorem t_X4_seek {E : VE} {d : Nat} {Q : QQ} {K : Mem → LMem → Prop} {x1 : Int32} {M : Mem} {L : LMem} (hP : P_X4_seek x1 M L K) (hK : ∀ (M : Mem) (L : LMem), K M L → Q none M L) : Wp E (d + 3) 18 0 [.ref 49, .int x1, .null, .null, .null] [] M L Q := by
  unfold P_X4_seek at hP
  refine wp_seg (pc' := 2) [.iconst 0, .istore 2] (by decide +kernel) (?_ : Wp E (d + 3) 18 2 [.ref 49, .int x1, .int (Int32.ofInt 0), .null, .null] [] M L Q)
  exact tl_X4_seek_2 hK 100000 x1 (Int32.ofInt 0) M L hP

def P_X7_takeAsTheyCome (x1 : Int32) (M : Mem) (L : LMem) (K : Mem → LMem → Prop) : Prop := (vp_in x1 5 ∧ ((oty 39 = 0 ∧ oty (58 + 1 + x1.toNatClampNeg) = 0 ∧ ¬ (Int32.ofInt 0) < 0 ∧ ¬ (Int32.ofInt 0) < 0 ∧ ¬ (Int32.ofInt 8) < 0 ∧ (Int32.ofInt 0).toNatClampNeg + (Int32.ofInt 8).toNatClampNeg ≤ oln 39 ∧ (Int32.ofInt 0).toNatClampNeg + (Int32.ofInt 8).toNatClampNeg ≤ oln (58 + 1 + x1.toNatClampNeg)) ∧ K (mput (mcpy M 39 (58 + 1 + x1.toNatClampNeg) ((Int32.ofInt 0).toNatClampNeg) ((Int32.ofInt 0).toNatClampNeg) ((Int32.ofInt 8).toNatClampNeg)) 64 x1.toNatClampNeg ((mcpy M 39 (58 + 1 + x1.toNatClampNeg) ((Int32.ofInt 0).toNatClampNeg) ((Int32.ofInt 0).toNatClampNeg) ((Int32.ofInt 8).toNatClampNeg)) 37 3)) L))
theorem t_X7_takeAsTheyCome {E : VE} {d : Nat} {Q : QQ} {K : Mem → LMem → Prop} {x1 : Int32} {M : Mem} {L : LMem} (hP : P_X7_takeAsTheyCome x1 M L K) (hK : ∀ (M : Mem) (L : LMem), K M L → Q none M L) : Wp E d 47 0 [.ref 57, .int x1, .ref 37] [] M L Q := by
  unfold P_X7_takeAsTheyCome at hP
  obtain ⟨a_1, hP⟩ := hP
  refine wp_seg (pc' := 11) [.aload 2, .getfield 385, .iconst 0, .aload 0, .getfield 448, .iload 1, .aaload] (by decide +kernel) (show aok 58 4 x1 ∧ Wp E d 47 11 [.ref 57, .int x1, .ref 37] [.ref (58 + 1 + x1.toNatClampNeg), .int (Int32.ofInt 0), .ref 39] M L Q from ⟨⟨rfl, a_1⟩, ?_⟩)
  obtain ⟨a_2, hP⟩ := hP
  refine wp_seg (pc' := 17) [.iconst 0, .iconst 8, .invokestatic 2] (by decide +kernel) (show (oty 39 = 0 ∧ oty (58 + 1 + x1.toNatClampNeg) = 0 ∧ ¬ (Int32.ofInt 0) < 0 ∧ ¬ (Int32.ofInt 0) < 0 ∧ ¬ (Int32.ofInt 8) < 0 ∧ (Int32.ofInt 0).toNatClampNeg + (Int32.ofInt 8).toNatClampNeg ≤ oln 39 ∧ (Int32.ofInt 0).toNatClampNeg + (Int32.ofInt 8).toNatClampNeg ≤ oln (58 + 1 + x1.toNatClampNeg)) ∧ Wp E d 47 17 [.ref 57, .int x1, .ref 37] [] (mcpy M 39 (58 + 1 + x1.toNatClampNeg) ((Int32.ofInt 0).toNatClampNeg) ((Int32.ofInt 0).toNatClampNeg) ((Int32.ofInt 8).toNatClampNeg)) L Q from ⟨a_2, ?_⟩)
  refine wp_seg (pc' := 27) [.aload 0, .getfield 449, .iload 1, .aload 2, .getfield 387, .iastore] (by decide +kernel) (show aok 64 0 x1 ∧ Wp E d 47 27 [.ref 57, .int x1, .ref 37] [] (mput (mcpy M 39 (58 + 1 + x1.toNatClampNeg) ((Int32.ofInt 0).toNatClampNeg) ((Int32.ofInt 0).toNatClampNeg) ((Int32.ofInt 8).toNatClampNeg)) 64 x1.toNatClampNeg ((mcpy M 39 (58 + 1 + x1.toNatClampNeg) ((Int32.ofInt 0).toNatClampNeg) ((Int32.ofInt 0).toNatClampNeg) ((Int32.ofInt 8).toNatClampNeg)) 37 3)) L Q from ⟨⟨rfl, a_1⟩, ?_⟩)
  exact wp_vret (by decide +kernel) rfl (hK _ _ hP)

def PL_X7_takeByNumbers_2 (K : Mem → LMem → Prop)  : Nat → Int32 → Int32 → Mem → LMem → Prop
  | 0, _, _, _, _ => False
  | n_ + 1, v1, v3, M, L => (((Int32.ofInt 12) ≤ v3 → K M L) ∧ (¬ ((Int32.ofInt 12) ≤ v3) → (vp_in v1 5 ∧ (((Int32.ofInt 8) ≤ (M 64 v1.toNatClampNeg) → K M L) ∧ (¬ ((Int32.ofInt 8) ≤ (M 64 v1.toNatClampNeg)) → (((((M 37 5) >>> (v3 &&& 31)) &&& (Int32.ofInt 1)) = 0 → PL_X7_takeByNumbers_2 K n_ v1 (v3 + Int32.ofInt 1) M L) ∧ (¬ ((((M 37 5) >>> (v3 &&& 31)) &&& (Int32.ofInt 1)) = 0) → (aok (58 + 1 + v1.toNatClampNeg) 0 (M 64 v1.toNatClampNeg) ∧ PL_X7_takeByNumbers_2 K n_ v1 (v3 + Int32.ofInt 1) (mput (mput M (58 + 1 + v1.toNatClampNeg) ((M 64 v1.toNatClampNeg).toNatClampNeg) v3) 64 v1.toNatClampNeg (((mput M (58 + 1 + v1.toNatClampNeg) ((M 64 v1.toNatClampNeg).toNatClampNeg) v3) 64 v1.toNatClampNeg) + (Int32.ofInt 1))) L))))))))
theorem tl_X7_takeByNumbers_2 {E : VE} {d : Nat} {Q : QQ} {K : Mem → LMem → Prop}  (hK : ∀ (M : Mem) (L : LMem), K M L → Q none M L)  : ∀ (n_ : Nat) (v1 : Int32) (v3 : Int32) (M : Mem) (L : LMem), PL_X7_takeByNumbers_2 K n_ v1 v3 M L → Wp E d 48 2 [.ref 57, .int v1, .ref 37, .int v3] [] M L Q := by
  intro n_
  induction n_ with
  | zero => intro v1 v3 M L hP; exact False.elim hP
  | succ n_ ih =>
    intro v1 v3 M L hP
    unfold PL_X7_takeByNumbers_2 at hP
    refine wp_seg (pc' := 5) [.iload 3, .iconst 12] (by decide +kernel) (?_ : Wp E d 48 5 [.ref 57, .int v1, .ref 37, .int v3] [.int (Int32.ofInt 12), .int v3] M L Q)
    refine wp_icmpge (off := 55) 60 (by decide +kernel) (by decide) (fun c_1 => ?_) (fun c_1 => ?_)
    · have hP := hP.1 c_1
      exact wp_vret (by decide +kernel) rfl (hK _ _ hP)
    · have hP := hP.2 c_1
      obtain ⟨a_2, hP⟩ := hP
      refine wp_seg (pc' := 14) [.aload 0, .getfield 449, .iload 1, .iaload] (by decide +kernel) (show aok 64 0 v1 ∧ Wp E d 48 14 [.ref 57, .int v1, .ref 37, .int v3] [.int (M 64 v1.toNatClampNeg)] M L Q from ⟨⟨rfl, a_2⟩, ?_⟩)
      refine wp_seg (pc' := 16) [.iconst 8] (by decide +kernel) (?_ : Wp E d 48 16 [.ref 57, .int v1, .ref 37, .int v3] [.int (Int32.ofInt 8), .int (M 64 v1.toNatClampNeg)] M L Q)
      refine wp_icmpge (off := 44) 60 (by decide +kernel) (by decide) (fun c_3 => ?_) (fun c_3 => ?_)
      · have hP := hP.1 c_3
        exact wp_vret (by decide +kernel) rfl (hK _ _ hP)
      · have hP := hP.2 c_3
        refine wp_seg (pc' := 27) [.aload 2, .getfield 389, .iload 3, .ishr, .iconst 1, .iand] (by decide +kernel) (?_ : Wp E d 48 27 [.ref 57, .int v1, .ref 37, .int v3] [.int (((M 37 5) >>> (v3 &&& 31)) &&& (Int32.ofInt 1))] M L Q)
        refine wp_ifeq (off := 27) 54 (by decide +kernel) (by decide) (fun c_4 => ?_) (fun c_4 => ?_)
        · have hP := hP.1 c_4
          refine wp_seg (pc' := 2) [.iinc 3 1, .goto 0] (by decide +kernel) (?_ : Wp E d 48 2 [.ref 57, .int v1, .ref 37, .int (v3 + Int32.ofInt 1)] [] M L Q)
          exact ih v1 (v3 + Int32.ofInt 1) M L hP
        · have hP := hP.2 c_4
          refine wp_seg (pc' := 36) [.aload 0, .getfield 448, .iload 1, .aaload] (by decide +kernel) (show aok 58 4 v1 ∧ Wp E d 48 36 [.ref 57, .int v1, .ref 37, .int v3] [.ref (58 + 1 + v1.toNatClampNeg)] M L Q from ⟨⟨rfl, a_2⟩, ?_⟩)
          refine wp_seg (pc' := 42) [.aload 0, .getfield 449, .iload 1, .iaload] (by decide +kernel) (show aok 64 0 v1 ∧ Wp E d 48 42 [.ref 57, .int v1, .ref 37, .int v3] [.int (M 64 v1.toNatClampNeg), .ref (58 + 1 + v1.toNatClampNeg)] M L Q from ⟨⟨rfl, a_2⟩, ?_⟩)
          obtain ⟨a_5, hP⟩ := hP
          refine wp_seg (pc' := 44) [.iload 3, .iastore] (by decide +kernel) (show aok (58 + 1 + v1.toNatClampNeg) 0 (M 64 v1.toNatClampNeg) ∧ Wp E d 48 44 [.ref 57, .int v1, .ref 37, .int v3] [] (mput M (58 + 1 + v1.toNatClampNeg) ((M 64 v1.toNatClampNeg).toNatClampNeg) v3) L Q from ⟨a_5, ?_⟩)
          refine wp_seg (pc' := 51) [.aload 0, .getfield 449, .iload 1, .dup2, .iaload] (by decide +kernel) (show aok 64 0 v1 ∧ Wp E d 48 51 [.ref 57, .int v1, .ref 37, .int v3] [.int ((mput M (58 + 1 + v1.toNatClampNeg) ((M 64 v1.toNatClampNeg).toNatClampNeg) v3) 64 v1.toNatClampNeg), .int v1, .ref 64] (mput M (58 + 1 + v1.toNatClampNeg) ((M 64 v1.toNatClampNeg).toNatClampNeg) v3) L Q from ⟨⟨rfl, a_2⟩, ?_⟩)
          refine wp_seg (pc' := 54) [.iconst 1, .iadd, .iastore] (by decide +kernel) (show aok 64 0 v1 ∧ Wp E d 48 54 [.ref 57, .int v1, .ref 37, .int v3] [] (mput (mput M (58 + 1 + v1.toNatClampNeg) ((M 64 v1.toNatClampNeg).toNatClampNeg) v3) 64 v1.toNatClampNeg (((mput M (58 + 1 + v1.toNatClampNeg) ((M 64 v1.toNatClampNeg).toNatClampNeg) v3) 64 v1.toNatClampNeg) + (Int32.ofInt 1))) L Q from ⟨⟨rfl, a_2⟩, ?_⟩)
          refine wp_seg (pc' := 2) [.iinc 3 1, .goto 0] (by decide +kernel) (?_ : Wp E d 48 2 [.ref 57, .int v1, .ref 37, .int (v3 + Int32.ofInt 1)] [] (mput (mput M (58 + 1 + v1.toNatClampNeg) ((M 64 v1.toNatClampNeg).toNatClampNeg) v3) 64 v1.toNatClampNeg (((mput M (58 + 1 + v1.toNatClampNeg) ((M 64 v1.toNatClampNeg).toNatClampNeg) v3) 64 v1.toNatClampNeg) + (Int32.ofInt 1))) L Q)
          exact ih v1 (v3 + Int32.ofInt 1) (mput (mput M (58 + 1 + v1.toNatClampNeg) ((M 64 v1.toNatClampNeg).toNatClampNeg) v3) 64 v1.toNatClampNeg (((mput M (58 + 1 + v1.toNatClampNeg) ((M 64 v1.toNatClampNeg).toNatClampNeg) v3) 64 v1.toNatClampNeg) + (Int32.ofInt 1))) L hP
def P_X7_takeByNumbers (x1 : Int32) (M : Mem) (L : LMem) (K : Mem → LMem → Prop) : Prop := PL_X7_takeByNumbers_2 K 100000 x1 (Int32.ofInt 0) M L
theorem t_X7_takeByNumbers {E : VE} {d : Nat} {Q : QQ} {K : Mem → LMem → Prop} {x1 : Int32} {M : Mem} {L : LMem} (hP : P_X7_takeByNumbers x1 M L K) (hK : ∀ (M : Mem) (L : LMem), K M L → Q none M L) : Wp E d 48 0 [.ref 57, .int x1, .ref 37, .null] [] M L Q := by
  unfold P_X7_takeByNumbers at hP
  refine wp_seg (pc' := 2) [.iconst 0, .istore 3] (by decide +kernel) (?_ : Wp E d 48 2 [.ref 57, .int x1, .ref 37, .int (Int32.ofInt 0)] [] M L Q)
  exact tl_X7_takeByNumbers_2 hK 100000 x1 (Int32.ofInt 0) M L hP

def PL_X7_gather_16 (K : Int32 → Mem → LMem → Prop)  : Nat → Int32 → Int32 → Int32 → Mem → LMem → Prop
  | 0, _, _, _, _, _ => False
  | n_ + 1, v3, v4, v5, M, L => (((Int32.ofInt 5) ≤ v5 → K (Int32.ofInt 1) M L) ∧ (¬ ((Int32.ofInt 5) ≤ v5) → (vp_in v5 5 ∧ ((((v3 >>> (v5 &&& 31)) &&& (Int32.ofInt 1)) = 0 → PL_X7_gather_16 K n_ v3 v4 (v5 + Int32.ofInt 1) (mput M 64 v5.toNatClampNeg (Int32.ofInt 0)) L) ∧ (¬ (((v3 >>> (v5 &&& 31)) &&& (Int32.ofInt 1)) = 0) → P_X6_find (M 10 v5.toNatClampNeg) (M 11 v5.toNatClampNeg) (Int32.ofInt 0) (mput M 64 v5.toNatClampNeg (Int32.ofInt 0)) L (fun v_9 M_7 L_8 => ((v_9 = 0 → K (Int32.ofInt 0) M_7 L_8) ∧ (¬ (v_9 = 0) → ((v4 = 0 → P_X7_takeAsTheyCome v5 M_7 L_8 (fun M_14 L_15 => PL_X7_gather_16 K n_ v3 v4 (v5 + Int32.ofInt 1) M_14 L_15)) ∧ (¬ (v4 = 0) → P_X7_takeByNumbers v5 M_7 L_8 (fun M_12 L_13 => PL_X7_gather_16 K n_ v3 v4 (v5 + Int32.ofInt 1) M_12 L_13)))))))))))
theorem tl_X7_gather_16 {E : VE} {d : Nat} {Q : QQ} {K : Int32 → Mem → LMem → Prop}  (hK : ∀ (v : Int32) (M : Mem) (L : LMem), K v M L → Q (some (.int v)) M L)  : ∀ (n_ : Nat) (v3 : Int32) (v4 : Int32) (v5 : Int32) (M : Mem) (L : LMem), PL_X7_gather_16 K n_ v3 v4 v5 M L → Wp E (d + 4) 46 16 [.ref 57, .ref 3, .ref 37, .int v3, .int v4, .int v5] [] M L Q := by
  intro n_
  induction n_ with
  | zero => intro v3 v4 v5 M L hP; exact False.elim hP
  | succ n_ ih =>
    intro v3 v4 v5 M L hP
    unfold PL_X7_gather_16 at hP
    refine wp_seg (pc' := 19) [.iload 5, .iconst 5] (by decide +kernel) (?_ : Wp E (d + 4) 46 19 [.ref 57, .ref 3, .ref 37, .int v3, .int v4, .int v5] [.int (Int32.ofInt 5), .int v5] M L Q)
    refine wp_icmpge (off := 73) 92 (by decide +kernel) (by decide) (fun c_4 => ?_) (fun c_4 => ?_)
    · have hP := hP.1 c_4
      refine wp_seg (pc' := 93) [.iconst 1] (by decide +kernel) (?_ : Wp E (d + 4) 46 93 [.ref 57, .ref 3, .ref 37, .int v3, .int v4, .int v5] [.int (Int32.ofInt 1)] M L Q)
      exact wp_zret (by decide +kernel) rfl (by decide) (hK _ _ _ hP)
    · have hP := hP.2 c_4
      obtain ⟨a_5, hP⟩ := hP
      refine wp_seg (pc' := 30) [.aload 0, .getfield 449, .iload 5, .iconst 0, .iastore] (by decide +kernel) (show aok 64 0 v5 ∧ Wp E (d + 4) 46 30 [.ref 57, .ref 3, .ref 37, .int v3, .int v4, .int v5] [] (mput M 64 v5.toNatClampNeg (Int32.ofInt 0)) L Q from ⟨⟨rfl, a_5⟩, ?_⟩)
      refine wp_seg (pc' := 36) [.iload 3, .iload 5, .ishr, .iconst 1, .iand] (by decide +kernel) (?_ : Wp E (d + 4) 46 36 [.ref 57, .ref 3, .ref 37, .int v3, .int v4, .int v5] [.int ((v3 >>> (v5 &&& 31)) &&& (Int32.ofInt 1))] (mput M 64 v5.toNatClampNeg (Int32.ofInt 0)) L Q)
      refine wp_ifeq (off := 50) 86 (by decide +kernel) (by decide) (fun c_6 => ?_) (fun c_6 => ?_)
      · have hP := hP.1 c_6
        refine wp_seg (pc' := 16) [.iinc 5 1, .goto 0] (by decide +kernel) (?_ : Wp E (d + 4) 46 16 [.ref 57, .ref 3, .ref 37, .int v3, .int v4, .int (v5 + Int32.ofInt 1)] [] (mput M 64 v5.toNatClampNeg (Int32.ofInt 0)) L Q)
        exact ih v3 v4 (v5 + Int32.ofInt 1) (mput M 64 v5.toNatClampNeg (Int32.ofInt 0)) L hP
      · have hP := hP.2 c_6
        refine wp_seg (pc' := 48) [.aload 2, .aload 1, .aload 1, .getfield 196, .iload 5, .iaload] (by decide +kernel) (show aok 10 0 v5 ∧ Wp E (d + 4) 46 48 [.ref 57, .ref 3, .ref 37, .int v3, .int v4, .int v5] [.int (M 10 v5.toNatClampNeg), .ref 3, .ref 37] (mput M 64 v5.toNatClampNeg (Int32.ofInt 0)) L Q from ⟨⟨rfl, a_5⟩, ?_⟩)
        refine wp_seg (pc' := 55) [.aload 1, .getfield 197, .iload 5, .iaload] (by decide +kernel) (show aok 11 0 v5 ∧ Wp E (d + 4) 46 55 [.ref 57, .ref 3, .ref 37, .int v3, .int v4, .int v5] [.int (M 11 v5.toNatClampNeg), .int (M 10 v5.toNatClampNeg), .ref 3, .ref 37] (mput M 64 v5.toNatClampNeg (Int32.ofInt 0)) L Q from ⟨⟨rfl, a_5⟩, ?_⟩)
        refine wp_seg (pc' := 56) [.iconst 0] (by decide +kernel) (?_ : Wp E (d + 4) 46 56 [.ref 57, .ref 3, .ref 37, .int v3, .int v4, .int v5] [.int (Int32.ofInt 0), .int (M 11 v5.toNatClampNeg), .int (M 10 v5.toNatClampNeg), .ref 3, .ref 37] (mput M 64 v5.toNatClampNeg (Int32.ofInt 0)) L Q)
        refine wp_callV 38 37 [.ref 3, .int (M 10 v5.toNatClampNeg), .int (M 11 v5.toNatClampNeg), .int (Int32.ofInt 0)] (i := 42) (by decide +kernel) (by decide +kernel) (by decide +kernel) (by decide +kernel) rfl rfl rfl (rest := []) rfl rfl ?_
        refine t_X6_find hP (fun v_9 M_7 L_8 hP => ?_)
        show Wp E (d + 4) 46 59 [.ref 57, .ref 3, .ref 37, .int v3, .int v4, .int v5] [.int v_9] M_7 L_8 Q
        refine wp_ifne (off := 5) 64 (by decide +kernel) (by decide) (fun c_10 => ?_) (fun c_10 => ?_)
        · have hP := hP.2 c_10
          refine wp_seg (pc' := 66) [.iload 4] (by decide +kernel) (?_ : Wp E (d + 4) 46 66 [.ref 57, .ref 3, .ref 37, .int v3, .int v4, .int v5] [.int v4] M_7 L_8 Q)
          refine wp_ifne (off := 13) 79 (by decide +kernel) (by decide) (fun c_11 => ?_) (fun c_11 => ?_)
          · have hP := hP.2 c_11
            refine wp_seg (pc' := 83) [.aload 0, .iload 5, .aload 2] (by decide +kernel) (?_ : Wp E (d + 4) 46 83 [.ref 57, .ref 3, .ref 37, .int v3, .int v4, .int v5] [.ref 37, .int v5, .ref 57] M_7 L_8 Q)
            refine wp_callV 48 57 [.int v5, .ref 37] (i := 52) (by decide +kernel) (by decide +kernel) (by decide +kernel) (by decide +kernel) rfl rfl rfl (rest := []) rfl rfl ?_
            refine t_X7_takeByNumbers hP (fun M_12 L_13 hP => ?_)
            show Wp E (d + 4) 46 86 [.ref 57, .ref 3, .ref 37, .int v3, .int v4, .int v5] [] M_12 L_13 Q
            refine wp_seg (pc' := 16) [.iinc 5 1, .goto 0] (by decide +kernel) (?_ : Wp E (d + 4) 46 16 [.ref 57, .ref 3, .ref 37, .int v3, .int v4, .int (v5 + Int32.ofInt 1)] [] M_12 L_13 Q)
            exact ih v3 v4 (v5 + Int32.ofInt 1) M_12 L_13 hP
          · have hP := hP.1 c_11
            refine wp_seg (pc' := 73) [.aload 0, .iload 5, .aload 2] (by decide +kernel) (?_ : Wp E (d + 4) 46 73 [.ref 57, .ref 3, .ref 37, .int v3, .int v4, .int v5] [.ref 37, .int v5, .ref 57] M_7 L_8 Q)
            refine wp_callV 47 57 [.int v5, .ref 37] (i := 48) (by decide +kernel) (by decide +kernel) (by decide +kernel) (by decide +kernel) rfl rfl rfl (rest := []) rfl rfl ?_
            refine t_X7_takeAsTheyCome hP (fun M_14 L_15 hP => ?_)
            show Wp E (d + 4) 46 76 [.ref 57, .ref 3, .ref 37, .int v3, .int v4, .int v5] [] M_14 L_15 Q
            refine wp_seg (pc' := 16) [.goto 0, .iinc 5 1, .goto 0] (by decide +kernel) (?_ : Wp E (d + 4) 46 16 [.ref 57, .ref 3, .ref 37, .int v3, .int v4, .int (v5 + Int32.ofInt 1)] [] M_14 L_15 Q)
            exact ih v3 v4 (v5 + Int32.ofInt 1) M_14 L_15 hP
        · have hP := hP.1 c_10
          refine wp_seg (pc' := 63) [.iconst 0] (by decide +kernel) (?_ : Wp E (d + 4) 46 63 [.ref 57, .ref 3, .ref 37, .int v3, .int v4, .int v5] [.int (Int32.ofInt 0)] M_7 L_8 Q)
          exact wp_zret (by decide +kernel) rfl (by decide) (hK _ _ _ hP)
def P_X7_gather (x3 : Int32) (x4 : Int32) (M : Mem) (L : LMem) (K : Int32 → Mem → LMem → Prop) : Prop := P_X2_ofKind (Int32.ofInt 61) M L (fun v_3 M_1 L_2 => PL_X7_gather_16 K 100000 x3 x4 (Int32.ofInt 0) (mput M_1 57 2 v_3) L_2)
theorem t_X7_gather {E : VE} {d : Nat} {Q : QQ} {K : Int32 → Mem → LMem → Prop} {x3 : Int32} {x4 : Int32} {M : Mem} {L : LMem} (hP : P_X7_gather x3 x4 M L K) (hK : ∀ (v : Int32) (M : Mem) (L : LMem), K v M L → Q (some (.int v)) M L) : Wp E (d + 4) 46 0 [.ref 57, .ref 3, .ref 37, .int x3, .int x4, .null] [] M L Q := by
  unfold P_X7_gather at hP
  refine wp_seg (pc' := 7) [.aload 0, .aload 1, .getfield 192, .iconst 61] (by decide +kernel) (?_ : Wp E (d + 4) 46 7 [.ref 57, .ref 3, .ref 37, .int x3, .int x4, .null] [.int (Int32.ofInt 61), .ref 4, .ref 57] M L Q)
  refine wp_callV 14 4 [.int (Int32.ofInt 61)] (i := 26) (by decide +kernel) (by decide +kernel) (by decide +kernel) (by decide +kernel) rfl rfl rfl (rest := [.ref 57]) rfl rfl ?_
  refine t_X2_ofKind hP (fun v_3 M_1 L_2 hP => ?_)
  show Wp E (d + 4) 46 10 [.ref 57, .ref 3, .ref 37, .int x3, .int x4, .null] [.int v_3, .ref 57] M_1 L_2 Q
  refine wp_seg (pc' := 16) [.putfield 450, .iconst 0, .istore 5] (by decide +kernel) (?_ : Wp E (d + 4) 46 16 [.ref 57, .ref 3, .ref 37, .int x3, .int x4, .int (Int32.ofInt 0)] [] (mput M_1 57 2 v_3) L_2 Q)
  exact tl_X7_gather_16 hK 100000 x3 x4 (Int32.ofInt 0) (mput M_1 57 2 v_3) L_2 hP

def PL_X8_gather_21 (K : Mem → LMem → Prop) (C_2 : Int32 → Mem → LMem → Prop) : Nat → Int32 → Int32 → Mem → LMem → Prop
  | 0, _, _, _, _ => False
  | n_ + 1, v3, v4, M, L => (((Int32.ofInt 8) ≤ v4 → C_2 (v3 + Int32.ofInt 1) M L) ∧ (¬ ((Int32.ofInt 8) ≤ v4) → P_X6_walk v4 v3 (Int32.ofInt 0) M L (fun v_7 M_5 L_6 => ((v_7 = 0 → (vp_in (((Int32.ofInt 8) * v4) + v3) 64 ∧ PL_X8_gather_21 K C_2 n_ v3 (v4 + Int32.ofInt 1) (mput M_5 66 ((((Int32.ofInt 8) * v4) + v3).toNatClampNeg) (Int32.ofInt 0)) L_6)) ∧ (¬ (v_7 = 0) → (vp_in (((Int32.ofInt 8) * v4) + v3) 64 ∧ PL_X8_gather_21 K C_2 n_ v3 (v4 + Int32.ofInt 1) (mput M_5 66 ((((Int32.ofInt 8) * v4) + v3).toNatClampNeg) (M_5 37 5)) L_6))))))
theorem tl_X8_gather_21 {E : VE} {d : Nat} {Q : QQ} {K : Mem → LMem → Prop} {C_2 : Int32 → Mem → LMem → Prop} (hK : ∀ (M : Mem) (L : LMem), K M L → Q none M L) (hC_2 : ∀ (v3 : Int32) (M : Mem) (L : LMem), C_2 v3 M L → Wp E (d + 3) 51 2 [.ref 65, .ref 3, .ref 37, .int v3, .null] [] M L Q) : ∀ (n_ : Nat) (v3 : Int32) (v4 : Int32) (M : Mem) (L : LMem), PL_X8_gather_21 K C_2 n_ v3 v4 M L → Wp E (d + 3) 51 21 [.ref 65, .ref 3, .ref 37, .int v3, .int v4] [] M L Q := by
  intro n_
  induction n_ with
  | zero => intro v3 v4 M L hP; exact False.elim hP
  | succ n_ ih =>
    intro v3 v4 M L hP
    unfold PL_X8_gather_21 at hP
    refine wp_seg (pc' := 25) [.iload 4, .iconst 8] (by decide +kernel) (?_ : Wp E (d + 3) 51 25 [.ref 65, .ref 3, .ref 37, .int v3, .int v4] [.int (Int32.ofInt 8), .int v4] M L Q)
    refine wp_icmpge (off := 41) 66 (by decide +kernel) (by decide) (fun c_4 => ?_) (fun c_4 => ?_)
    · have hP := hP.1 c_4
      refine wp_seg (pc' := 2) [.iinc 3 1, .goto 0] (by decide +kernel) (?_ : Wp E (d + 3) 51 2 [.ref 65, .ref 3, .ref 37, .int (v3 + Int32.ofInt 1), .int v4] [] M L Q)
      refine wp_drop (lo := [.ref 65, .ref 3, .ref 37, .int (v3 + Int32.ofInt 1), .null]) ⟨Or.inr rfl, Or.inr rfl, Or.inr rfl, Or.inr rfl, Or.inl rfl, trivial⟩ ?_
      exact hC_2 (v3 + Int32.ofInt 1) M L hP
    · have hP := hP.2 c_4
      refine wp_seg (pc' := 45) [.aload 0, .getfield 512, .iconst 8, .iload 4, .imul, .iload 3, .iadd, .aload 2, .aload 1, .iload 4, .iload 3, .iconst 0] (by decide +kernel) (?_ : Wp E (d + 3) 51 45 [.ref 65, .ref 3, .ref 37, .int v3, .int v4] [.int (Int32.ofInt 0), .int v3, .int v4, .ref 3, .ref 37, .int (((Int32.ofInt 8) * v4) + v3), .ref 66] M L Q)
      refine wp_callV 42 37 [.ref 3, .int v4, .int v3, .int (Int32.ofInt 0)] (i := 37) (by decide +kernel) (by decide +kernel) (by decide +kernel) (by decide +kernel) rfl rfl rfl (rest := [.int (((Int32.ofInt 8) * v4) + v3), .ref 66]) rfl rfl ?_
      refine t_X6_walk hP (fun v_7 M_5 L_6 hP => ?_)
      show Wp E (d + 3) 51 48 [.ref 65, .ref 3, .ref 37, .int v3, .int v4] [.int v_7, .int (((Int32.ofInt 8) * v4) + v3), .ref 66] M_5 L_6 Q
      refine wp_ifeq (off := 10) 58 (by decide +kernel) (by decide) (fun c_8 => ?_) (fun c_8 => ?_)
      · have hP := hP.1 c_8
        obtain ⟨a_9, hP⟩ := hP
        refine wp_seg (pc' := 60) [.iconst 0, .iastore] (by decide +kernel) (show aok 66 0 (((Int32.ofInt 8) * v4) + v3) ∧ Wp E (d + 3) 51 60 [.ref 65, .ref 3, .ref 37, .int v3, .int v4] [] (mput M_5 66 ((((Int32.ofInt 8) * v4) + v3).toNatClampNeg) (Int32.ofInt 0)) L_6 Q from ⟨⟨rfl, a_9⟩, ?_⟩)
        refine wp_seg (pc' := 21) [.iinc 4 1, .goto 0] (by decide +kernel) (?_ : Wp E (d + 3) 51 21 [.ref 65, .ref 3, .ref 37, .int v3, .int (v4 + Int32.ofInt 1)] [] (mput M_5 66 ((((Int32.ofInt 8) * v4) + v3).toNatClampNeg) (Int32.ofInt 0)) L_6 Q)
        exact ih v3 (v4 + Int32.ofInt 1) (mput M_5 66 ((((Int32.ofInt 8) * v4) + v3).toNatClampNeg) (Int32.ofInt 0)) L_6 hP
      · have hP := hP.2 c_8
        obtain ⟨a_10, hP⟩ := hP
        refine wp_seg (pc' := 60) [.aload 2, .getfield 389, .goto 0, .iastore] (by decide +kernel) (show aok 66 0 (((Int32.ofInt 8) * v4) + v3) ∧ Wp E (d + 3) 51 60 [.ref 65, .ref 3, .ref 37, .int v3, .int v4] [] (mput M_5 66 ((((Int32.ofInt 8) * v4) + v3).toNatClampNeg) (M_5 37 5)) L_6 Q from ⟨⟨rfl, a_10⟩, ?_⟩)
        refine wp_seg (pc' := 21) [.iinc 4 1, .goto 0] (by decide +kernel) (?_ : Wp E (d + 3) 51 21 [.ref 65, .ref 3, .ref 37, .int v3, .int (v4 + Int32.ofInt 1)] [] (mput M_5 66 ((((Int32.ofInt 8) * v4) + v3).toNatClampNeg) (M_5 37 5)) L_6 Q)
        exact ih v3 (v4 + Int32.ofInt 1) (mput M_5 66 ((((Int32.ofInt 8) * v4) + v3).toNatClampNeg) (M_5 37 5)) L_6 hP
def PL_X8_gather_2 (K : Mem → LMem → Prop)  : Nat → Int32 → Mem → LMem → Prop
  | 0, _, _, _ => False
  | n_ + 1, v3, M, L => (((Int32.ofInt 8) ≤ v3 → K M L) ∧ (¬ ((Int32.ofInt 8) ≤ v3) → P_X6_aim v3 (Int32.ofInt 0) M L (fun M_2 L_3 => PL_X8_gather_21 K (PL_X8_gather_2 K n_) 100000 v3 (Int32.ofInt 0) M_2 L_3)))
theorem tl_X8_gather_2 {E : VE} {d : Nat} {Q : QQ} {K : Mem → LMem → Prop}  (hK : ∀ (M : Mem) (L : LMem), K M L → Q none M L)  : ∀ (n_ : Nat) (v3 : Int32) (M : Mem) (L : LMem), PL_X8_gather_2 K n_ v3 M L → Wp E (d + 3) 51 2 [.ref 65, .ref 3, .ref 37, .int v3, .null] [] M L Q := by
  intro n_
  induction n_ with
  | zero => intro v3 M L hP; exact False.elim hP
  | succ n_ ih =>
    intro v3 M L hP
    unfold PL_X8_gather_2 at hP
    refine wp_seg (pc' := 5) [.iload 3, .iconst 8] (by decide +kernel) (?_ : Wp E (d + 3) 51 5 [.ref 65, .ref 3, .ref 37, .int v3, .null] [.int (Int32.ofInt 8), .int v3] M L Q)
    refine wp_icmpge (off := 67) 72 (by decide +kernel) (by decide) (fun c_1 => ?_) (fun c_1 => ?_)
    · have hP := hP.1 c_1
      exact wp_vret (by decide +kernel) rfl (hK _ _ hP)
    · have hP := hP.2 c_1
      refine wp_seg (pc' := 15) [.aload 2, .aload 1, .getfield 192, .iload 3, .iconst 0] (by decide +kernel) (?_ : Wp E (d + 3) 51 15 [.ref 65, .ref 3, .ref 37, .int v3, .null] [.int (Int32.ofInt 0), .int v3, .ref 4, .ref 37] M L Q)
      refine wp_callV 39 37 [.ref 4, .int v3, .int (Int32.ofInt 0)] (i := 31) (by decide +kernel) (by decide +kernel) (by decide +kernel) (by decide +kernel) rfl rfl rfl (rest := []) rfl rfl ?_
      refine t_X6_aim hP (fun M_2 L_3 hP => ?_)
      show Wp E (d + 3) 51 18 [.ref 65, .ref 3, .ref 37, .int v3, .null] [] M_2 L_3 Q
      refine wp_seg (pc' := 21) [.iconst 0, .istore 4] (by decide +kernel) (?_ : Wp E (d + 3) 51 21 [.ref 65, .ref 3, .ref 37, .int v3, .int (Int32.ofInt 0)] [] M_2 L_3 Q)
      exact tl_X8_gather_21 hK (fun v3 M L hP => ih v3 M L hP) 100000 v3 (Int32.ofInt 0) M_2 L_3 hP
def P_X8_gather (M : Mem) (L : LMem) (K : Mem → LMem → Prop) : Prop := PL_X8_gather_2 K 100000 (Int32.ofInt 0) M L
theorem t_X8_gather {E : VE} {d : Nat} {Q : QQ} {K : Mem → LMem → Prop} {M : Mem} {L : LMem} (hP : P_X8_gather M L K) (hK : ∀ (M : Mem) (L : LMem), K M L → Q none M L) : Wp E (d + 3) 51 0 [.ref 65, .ref 3, .ref 37, .null, .null] [] M L Q := by
  unfold P_X8_gather at hP
  refine wp_seg (pc' := 2) [.iconst 0, .istore 3] (by decide +kernel) (?_ : Wp E (d + 3) 51 2 [.ref 65, .ref 3, .ref 37, .int (Int32.ofInt 0), .null] [] M L Q)
  exact tl_X8_gather_2 hK 100000 (Int32.ofInt 0) M L hP

def PL_X8_nextTry_21 (K : Int32 → Mem → LMem → Prop) (C_11 : Int32 → Int32 → Int32 → Int32 → Mem → LMem → Prop) : Nat → Int32 → Int32 → Int32 → Int32 → Int32 → Mem → LMem → Prop
  | 0, _, _, _, _, _, _, _ => False
  | n_ + 1, v1, v2, v3, v4, v5, M, L => (((Int32.ofInt 8) ≤ v5 → C_11 v1 v2 v3 (v4 + Int32.ofInt 1) M L) ∧ (¬ ((Int32.ofInt 8) ≤ v5) → (vp_in (((Int32.ofInt 8) * v4) + v5) 64 ∧ ((v2 ≤ (f_X8_largerPart M v1 (M 66 ((((Int32.ofInt 8) * v4) + v5).toNatClampNeg))) → PL_X8_nextTry_21 K C_11 n_ v1 v2 v3 v4 (v5 + Int32.ofInt 1) M L) ∧ (¬ (v2 ≤ (f_X8_largerPart M v1 (M 66 ((((Int32.ofInt 8) * v4) + v5).toNatClampNeg)))) → PL_X8_nextTry_21 K C_11 n_ v1 (f_X8_largerPart M v1 (M 66 ((((Int32.ofInt 8) * v4) + v5).toNatClampNeg))) (((Int32.ofInt 10) * v4) + v5) v4 (v5 + Int32.ofInt 1) M L)))))
theorem tl_X8_nextTry_21 {E : VE} {d : Nat} {Q : QQ} {K : Int32 → Mem → LMem → Prop} {C_11 : Int32 → Int32 → Int32 → Int32 → Mem → LMem → Prop} (hK : ∀ (v : Int32) (M : Mem) (L : LMem), K v M L → Q (some (.int v)) M L) (hC_11 : ∀ (v1 : Int32) (v2 : Int32) (v3 : Int32) (v4 : Int32) (M : Mem) (L : LMem), C_11 v1 v2 v3 v4 M L → Wp E (d + 2) 52 11 [.ref 65, .int v1, .int v2, .int v3, .int v4, .null, .null] [] M L Q) : ∀ (n_ : Nat) (v1 : Int32) (v2 : Int32) (v3 : Int32) (v4 : Int32) (v5 : Int32) (M : Mem) (L : LMem), PL_X8_nextTry_21 K C_11 n_ v1 v2 v3 v4 v5 M L → Wp E (d + 2) 52 21 [.ref 65, .int v1, .int v2, .int v3, .int v4, .int v5, .null] [] M L Q := by
  intro n_
  induction n_ with
  | zero => intro v1 v2 v3 v4 v5 M L hP; exact False.elim hP
  | succ n_ ih =>
    intro v1 v2 v3 v4 v5 M L hP
    unfold PL_X8_nextTry_21 at hP
    refine wp_seg (pc' := 25) [.iload 5, .iconst 8] (by decide +kernel) (?_ : Wp E (d + 2) 52 25 [.ref 65, .int v1, .int v2, .int v3, .int v4, .int v5, .null] [.int (Int32.ofInt 8), .int v5] M L Q)
    refine wp_icmpge (off := 46) 71 (by decide +kernel) (by decide) (fun c_2 => ?_) (fun c_2 => ?_)
    · have hP := hP.1 c_2
      refine wp_seg (pc' := 11) [.iinc 4 1, .goto 0] (by decide +kernel) (?_ : Wp E (d + 2) 52 11 [.ref 65, .int v1, .int v2, .int v3, .int (v4 + Int32.ofInt 1), .int v5, .null] [] M L Q)
      refine wp_drop (lo := [.ref 65, .int v1, .int v2, .int v3, .int (v4 + Int32.ofInt 1), .null, .null]) ⟨Or.inr rfl, Or.inr rfl, Or.inr rfl, Or.inr rfl, Or.inr rfl, Or.inl rfl, Or.inl rfl, trivial⟩ ?_
      exact hC_11 v1 v2 v3 (v4 + Int32.ofInt 1) M L hP
    · have hP := hP.2 c_2
      obtain ⟨a_3, hP⟩ := hP
      refine wp_seg (pc' := 42) [.iload 1, .aload 0, .getfield 512, .iconst 8, .iload 4, .imul, .iload 5, .iadd, .iaload] (by decide +kernel) (show aok 66 0 (((Int32.ofInt 8) * v4) + v5) ∧ Wp E (d + 2) 52 42 [.ref 65, .int v1, .int v2, .int v3, .int v4, .int v5, .null] [.int (M 66 ((((Int32.ofInt 8) * v4) + v5).toNatClampNeg)), .int v1] M L Q from ⟨⟨rfl, a_3⟩, ?_⟩)
      refine wp_callS 53 [.int v1, .int (M 66 ((((Int32.ofInt 8) * v4) + v5).toNatClampNeg))] (i := 51) (by decide +kernel) (by decide +kernel) (by decide +kernel) rfl rfl rfl (rest := []) rfl rfl ?_
      refine s_X8_largerPart M v1 (M 66 ((((Int32.ofInt 8) * v4) + v5).toNatClampNeg))  ?_
      show Wp E (d + 2) 52 45 [.ref 65, .int v1, .int v2, .int v3, .int v4, .int v5, .null] [.int (f_X8_largerPart M v1 (M 66 ((((Int32.ofInt 8) * v4) + v5).toNatClampNeg)))] M L Q
      refine wp_seg (pc' := 50) [.istore 6, .iload 6, .iload 2] (by decide +kernel) (?_ : Wp E (d + 2) 52 50 [.ref 65, .int v1, .int v2, .int v3, .int v4, .int v5, .int (f_X8_largerPart M v1 (M 66 ((((Int32.ofInt 8) * v4) + v5).toNatClampNeg)))] [.int v2, .int (f_X8_largerPart M v1 (M 66 ((((Int32.ofInt 8) * v4) + v5).toNatClampNeg)))] M L Q)
      refine wp_icmpge (off := 15) 65 (by decide +kernel) (by decide) (fun c_4 => ?_) (fun c_4 => ?_)
      · have hP := hP.1 c_4
        refine wp_seg (pc' := 21) [.iinc 5 1, .goto 0] (by decide +kernel) (?_ : Wp E (d + 2) 52 21 [.ref 65, .int v1, .int v2, .int v3, .int v4, .int (v5 + Int32.ofInt 1), .int (f_X8_largerPart M v1 (M 66 ((((Int32.ofInt 8) * v4) + v5).toNatClampNeg)))] [] M L Q)
        refine wp_drop (lo := [.ref 65, .int v1, .int v2, .int v3, .int v4, .int (v5 + Int32.ofInt 1), .null]) ⟨Or.inr rfl, Or.inr rfl, Or.inr rfl, Or.inr rfl, Or.inr rfl, Or.inr rfl, Or.inl rfl, trivial⟩ ?_
        exact ih v1 v2 v3 v4 (v5 + Int32.ofInt 1) M L hP
      · have hP := hP.2 c_4
        refine wp_seg (pc' := 21) [.iload 6, .istore 2, .iconst 10, .iload 4, .imul, .iload 5, .iadd, .istore 3, .iinc 5 1, .goto 0] (by decide +kernel) (?_ : Wp E (d + 2) 52 21 [.ref 65, .int v1, .int (f_X8_largerPart M v1 (M 66 ((((Int32.ofInt 8) * v4) + v5).toNatClampNeg))), .int (((Int32.ofInt 10) * v4) + v5), .int v4, .int (v5 + Int32.ofInt 1), .int (f_X8_largerPart M v1 (M 66 ((((Int32.ofInt 8) * v4) + v5).toNatClampNeg)))] [] M L Q)
        refine wp_drop (lo := [.ref 65, .int v1, .int (f_X8_largerPart M v1 (M 66 ((((Int32.ofInt 8) * v4) + v5).toNatClampNeg))), .int (((Int32.ofInt 10) * v4) + v5), .int v4, .int (v5 + Int32.ofInt 1), .null]) ⟨Or.inr rfl, Or.inr rfl, Or.inr rfl, Or.inr rfl, Or.inr rfl, Or.inr rfl, Or.inl rfl, trivial⟩ ?_
        exact ih v1 (f_X8_largerPart M v1 (M 66 ((((Int32.ofInt 8) * v4) + v5).toNatClampNeg))) (((Int32.ofInt 10) * v4) + v5) v4 (v5 + Int32.ofInt 1) M L hP
def PL_X8_nextTry_11 (K : Int32 → Mem → LMem → Prop)  : Nat → Int32 → Int32 → Int32 → Int32 → Mem → LMem → Prop
  | 0, _, _, _, _, _, _ => False
  | n_ + 1, v1, v2, v3, v4, M, L => (((Int32.ofInt 8) ≤ v4 → K v3 M L) ∧ (¬ ((Int32.ofInt 8) ≤ v4) → PL_X8_nextTry_21 K (PL_X8_nextTry_11 K n_) 100000 v1 v2 v3 v4 (Int32.ofInt 0) M L))
theorem tl_X8_nextTry_11 {E : VE} {d : Nat} {Q : QQ} {K : Int32 → Mem → LMem → Prop}  (hK : ∀ (v : Int32) (M : Mem) (L : LMem), K v M L → Q (some (.int v)) M L)  : ∀ (n_ : Nat) (v1 : Int32) (v2 : Int32) (v3 : Int32) (v4 : Int32) (M : Mem) (L : LMem), PL_X8_nextTry_11 K n_ v1 v2 v3 v4 M L → Wp E (d + 2) 52 11 [.ref 65, .int v1, .int v2, .int v3, .int v4, .null, .null] [] M L Q := by
  intro n_
  induction n_ with
  | zero => intro v1 v2 v3 v4 M L hP; exact False.elim hP
  | succ n_ ih =>
    intro v1 v2 v3 v4 M L hP
    unfold PL_X8_nextTry_11 at hP
    refine wp_seg (pc' := 15) [.iload 4, .iconst 8] (by decide +kernel) (?_ : Wp E (d + 2) 52 15 [.ref 65, .int v1, .int v2, .int v3, .int v4, .null, .null] [.int (Int32.ofInt 8), .int v4] M L Q)
    refine wp_icmpge (off := 62) 77 (by decide +kernel) (by decide) (fun c_1 => ?_) (fun c_1 => ?_)
    · have hP := hP.1 c_1
      refine wp_seg (pc' := 78) [.iload 3] (by decide +kernel) (?_ : Wp E (d + 2) 52 78 [.ref 65, .int v1, .int v2, .int v3, .int v4, .null, .null] [.int v3] M L Q)
      exact wp_iret (by decide +kernel) rfl (hK _ _ _ hP)
    · have hP := hP.2 c_1
      refine wp_seg (pc' := 21) [.iconst 0, .istore 5] (by decide +kernel) (?_ : Wp E (d + 2) 52 21 [.ref 65, .int v1, .int v2, .int v3, .int v4, .int (Int32.ofInt 0), .null] [] M L Q)
      exact tl_X8_nextTry_21 hK (fun v1 v2 v3 v4 M L hP => ih v1 v2 v3 v4 M L hP) 100000 v1 v2 v3 v4 (Int32.ofInt 0) M L hP
def P_X8_nextTry (x1 : Int32) (M : Mem) (L : LMem) (K : Int32 → Mem → LMem → Prop) : Prop := PL_X8_nextTry_11 K 100000 x1 (f_J6_bitCount_0f7a4 M x1) (Int32.ofInt (-6)) (Int32.ofInt 0) M L
theorem t_X8_nextTry {E : VE} {d : Nat} {Q : QQ} {K : Int32 → Mem → LMem → Prop} {x1 : Int32} {M : Mem} {L : LMem} (hP : P_X8_nextTry x1 M L K) (hK : ∀ (v : Int32) (M : Mem) (L : LMem), K v M L → Q (some (.int v)) M L) : Wp E (d + 2) 52 0 [.ref 65, .int x1, .null, .null, .null, .null, .null] [] M L Q := by
  unfold P_X8_nextTry at hP
  refine wp_seg (pc' := 1) [.iload 1] (by decide +kernel) (?_ : Wp E (d + 2) 52 1 [.ref 65, .int x1, .null, .null, .null, .null, .null] [.int x1] M L Q)
  refine wp_callS 87 [.int x1] (i := 45) (by decide +kernel) (by decide +kernel) (by decide +kernel) rfl rfl rfl (rest := []) rfl rfl ?_
  refine s_J6_bitCount_0f7a4 M x1  ?_
  show Wp E (d + 2) 52 4 [.ref 65, .int x1, .null, .null, .null, .null, .null] [.int (f_J6_bitCount_0f7a4 M x1)] M L Q
  refine wp_seg (pc' := 11) [.istore 2, .iconst (-6), .istore 3, .iconst 0, .istore 4] (by decide +kernel) (?_ : Wp E (d + 2) 52 11 [.ref 65, .int x1, .int (f_J6_bitCount_0f7a4 M x1), .int (Int32.ofInt (-6)), .int (Int32.ofInt 0), .null, .null] [] M L Q)
  exact tl_X8_nextTry_11 hK 100000 x1 (f_J6_bitCount_0f7a4 M x1) (Int32.ofInt (-6)) (Int32.ofInt 0) M L hP

def PL_X8_hasPart_2 (K : Int32 → Mem → LMem → Prop)  : Nat → Int32 → Int32 → Int32 → Mem → LMem → Prop
  | 0, _, _, _, _, _ => False
  | n_ + 1, v1, v2, v3, M, L => (((M 65 2) ≤ v3 → K (Int32.ofInt 0) M L) ∧ (¬ ((M 65 2) ≤ v3) → (vp_in v3 64 ∧ (((M 67 v3.toNatClampNeg) = v1 → K (Int32.ofInt 1) M L) ∧ (¬ ((M 67 v3.toNatClampNeg) = v1) → (((M 67 v3.toNatClampNeg) = (v2 &&& (v1 ^^^ (Int32.ofInt (-1)))) → K (Int32.ofInt 1) M L) ∧ (¬ ((M 67 v3.toNatClampNeg) = (v2 &&& (v1 ^^^ (Int32.ofInt (-1))))) → PL_X8_hasPart_2 K n_ v1 v2 (v3 + Int32.ofInt 1) M L)))))))
theorem tl_X8_hasPart_2 {E : VE} {d : Nat} {Q : QQ} {K : Int32 → Mem → LMem → Prop}  (hK : ∀ (v : Int32) (M : Mem) (L : LMem), K v M L → Q (some (.int v)) M L)  : ∀ (n_ : Nat) (v1 : Int32) (v2 : Int32) (v3 : Int32) (M : Mem) (L : LMem), PL_X8_hasPart_2 K n_ v1 v2 v3 M L → Wp E d 56 2 [.ref 65, .int v1, .int v2, .int v3] [] M L Q := by
  intro n_
  induction n_ with
  | zero => intro v1 v2 v3 M L hP; exact False.elim hP
  | succ n_ ih =>
    intro v1 v2 v3 M L hP
    unfold PL_X8_hasPart_2 at hP
    refine wp_seg (pc' := 7) [.iload 3, .aload 0, .getfield 514] (by decide +kernel) (?_ : Wp E d 56 7 [.ref 65, .int v1, .int v2, .int v3] [.int (M 65 2), .int v3] M L Q)
    refine wp_icmpge (off := 35) 42 (by decide +kernel) (by decide) (fun c_1 => ?_) (fun c_1 => ?_)
    · have hP := hP.1 c_1
      refine wp_seg (pc' := 43) [.iconst 0] (by decide +kernel) (?_ : Wp E d 56 43 [.ref 65, .int v1, .int v2, .int v3] [.int (Int32.ofInt 0)] M L Q)
      exact wp_zret (by decide +kernel) rfl (by decide) (hK _ _ _ hP)
    · have hP := hP.2 c_1
      obtain ⟨a_2, hP⟩ := hP
      refine wp_seg (pc' := 16) [.aload 0, .getfield 513, .iload 3, .iaload] (by decide +kernel) (show aok 67 0 v3 ∧ Wp E d 56 16 [.ref 65, .int v1, .int v2, .int v3] [.int (M 67 v3.toNatClampNeg)] M L Q from ⟨⟨rfl, a_2⟩, ?_⟩)
      refine wp_seg (pc' := 17) [.iload 1] (by decide +kernel) (?_ : Wp E d 56 17 [.ref 65, .int v1, .int v2, .int v3] [.int v1, .int (M 67 v3.toNatClampNeg)] M L Q)
      refine wp_icmpeq (off := 17) 34 (by decide +kernel) (by decide) (fun c_3 => ?_) (fun c_3 => ?_)
      · have hP := hP.1 c_3
        refine wp_seg (pc' := 35) [.iconst 1] (by decide +kernel) (?_ : Wp E d 56 35 [.ref 65, .int v1, .int v2, .int v3] [.int (Int32.ofInt 1)] M L Q)
        exact wp_zret (by decide +kernel) rfl (by decide) (hK _ _ _ hP)
      · have hP := hP.2 c_3
        refine wp_seg (pc' := 26) [.aload 0, .getfield 513, .iload 3, .iaload] (by decide +kernel) (show aok 67 0 v3 ∧ Wp E d 56 26 [.ref 65, .int v1, .int v2, .int v3] [.int (M 67 v3.toNatClampNeg)] M L Q from ⟨⟨rfl, a_2⟩, ?_⟩)
        refine wp_seg (pc' := 31) [.iload 2, .iload 1, .iconst (-1), .ixor, .iand] (by decide +kernel) (?_ : Wp E d 56 31 [.ref 65, .int v1, .int v2, .int v3] [.int (v2 &&& (v1 ^^^ (Int32.ofInt (-1)))), .int (M 67 v3.toNatClampNeg)] M L Q)
        refine wp_icmpne (off := 5) 36 (by decide +kernel) (by decide) (fun c_4 => ?_) (fun c_4 => ?_)
        · have hP := hP.2 c_4
          refine wp_seg (pc' := 2) [.iinc 3 1, .goto 0] (by decide +kernel) (?_ : Wp E d 56 2 [.ref 65, .int v1, .int v2, .int (v3 + Int32.ofInt 1)] [] M L Q)
          exact ih v1 v2 (v3 + Int32.ofInt 1) M L hP
        · have hP := hP.1 c_4
          refine wp_seg (pc' := 35) [.iconst 1] (by decide +kernel) (?_ : Wp E d 56 35 [.ref 65, .int v1, .int v2, .int v3] [.int (Int32.ofInt 1)] M L Q)
          exact wp_zret (by decide +kernel) rfl (by decide) (hK _ _ _ hP)
def P_X8_hasPart (x1 : Int32) (x2 : Int32) (M : Mem) (L : LMem) (K : Int32 → Mem → LMem → Prop) : Prop := PL_X8_hasPart_2 K 100000 x1 x2 (Int32.ofInt 0) M L
theorem t_X8_hasPart {E : VE} {d : Nat} {Q : QQ} {K : Int32 → Mem → LMem → Prop} {x1 : Int32} {x2 : Int32} {M : Mem} {L : LMem} (hP : P_X8_hasPart x1 x2 M L K) (hK : ∀ (v : Int32) (M : Mem) (L : LMem), K v M L → Q (some (.int v)) M L) : Wp E d 56 0 [.ref 65, .int x1, .int x2, .null] [] M L Q := by
  unfold P_X8_hasPart at hP
  refine wp_seg (pc' := 2) [.iconst 0, .istore 3] (by decide +kernel) (?_ : Wp E d 56 2 [.ref 65, .int x1, .int x2, .int (Int32.ofInt 0)] [] M L Q)
  exact tl_X8_hasPart_2 hK 100000 x1 x2 (Int32.ofInt 0) M L hP

def PL_X8_gatherParts_35 (K : Mem → LMem → Prop) (C_16 : Int32 → Int32 → Int32 → Mem → LMem → Prop) : Nat → Int32 → Int32 → Int32 → Int32 → Int32 → Mem → LMem → Prop
  | 0, _, _, _, _, _, _, _ => False
  | n_ + 1, v1, v2, v3, v5, v6, M, L => ((v5 ≤ v6 → C_16 v1 v2 (v3 + Int32.ofInt 1) M L) ∧ (¬ (v5 ≤ v6) → (vp_in v6 64 ∧ (((f_X8_largerPart M v1 (M 66 v6.toNatClampNeg)) = v3 → P_X8_hasPart ((M 66 v6.toNatClampNeg) &&& v1) v1 M L (fun v_7 M_5 L_6 => ((v_7 = 0 → (((Int32.ofNat 64) ≤ (M_5 65 2) → PL_X8_gatherParts_35 K C_16 n_ v1 v2 v3 v5 (v6 + Int32.ofInt 1) M_5 L_6) ∧ (¬ ((Int32.ofNat 64) ≤ (M_5 65 2)) → (vp_in (M_5 65 2) 64 ∧ PL_X8_gatherParts_35 K C_16 n_ v1 v2 v3 v5 (v6 + Int32.ofInt 1) (mput (mput M_5 67 ((M_5 65 2).toNatClampNeg) ((M 66 v6.toNatClampNeg) &&& v1)) 65 2 ((M_5 65 2) + (Int32.ofInt 1))) L_6)))) ∧ (¬ (v_7 = 0) → PL_X8_gatherParts_35 K C_16 n_ v1 v2 v3 v5 (v6 + Int32.ofInt 1) M_5 L_6)))) ∧ (¬ ((f_X8_largerPart M v1 (M 66 v6.toNatClampNeg)) = v3) → PL_X8_gatherParts_35 K C_16 n_ v1 v2 v3 v5 (v6 + Int32.ofInt 1) M L)))))
theorem tl_X8_gatherParts_35 {E : VE} {d : Nat} {Q : QQ} {K : Mem → LMem → Prop} {C_16 : Int32 → Int32 → Int32 → Mem → LMem → Prop} (hK : ∀ (M : Mem) (L : LMem), K M L → Q none M L) (hC_16 : ∀ (v1 : Int32) (v2 : Int32) (v3 : Int32) (M : Mem) (L : LMem), C_16 v1 v2 v3 M L → Wp E (d + 2) 55 16 [.ref 65, .int v1, .int v2, .int v3, .null, .null, .null, .null, .null] [] M L Q) : ∀ (n_ : Nat) (v1 : Int32) (v2 : Int32) (v3 : Int32) (v5 : Int32) (v6 : Int32) (M : Mem) (L : LMem), PL_X8_gatherParts_35 K C_16 n_ v1 v2 v3 v5 v6 M L → Wp E (d + 2) 55 35 [.ref 65, .int v1, .int v2, .int v3, .ref 66, .int v5, .int v6, .null, .null] [] M L Q := by
  intro n_
  induction n_ with
  | zero => intro v1 v2 v3 v5 v6 M L hP; exact False.elim hP
  | succ n_ ih =>
    intro v1 v2 v3 v5 v6 M L hP
    unfold PL_X8_gatherParts_35 at hP
    refine wp_seg (pc' := 39) [.iload 6, .iload 5] (by decide +kernel) (?_ : Wp E (d + 2) 55 39 [.ref 65, .int v1, .int v2, .int v3, .ref 66, .int v5, .int v6, .null, .null] [.int v5, .int v6] M L Q)
    refine wp_icmpge (off := 75) 114 (by decide +kernel) (by decide) (fun c_2 => ?_) (fun c_2 => ?_)
    · have hP := hP.1 c_2
      refine wp_seg (pc' := 16) [.iinc 3 1, .goto 0] (by decide +kernel) (?_ : Wp E (d + 2) 55 16 [.ref 65, .int v1, .int v2, .int (v3 + Int32.ofInt 1), .ref 66, .int v5, .int v6, .null, .null] [] M L Q)
      refine wp_drop (lo := [.ref 65, .int v1, .int v2, .int (v3 + Int32.ofInt 1), .null, .null, .null, .null, .null]) ⟨Or.inr rfl, Or.inr rfl, Or.inr rfl, Or.inr rfl, Or.inl rfl, Or.inl rfl, Or.inl rfl, Or.inl rfl, Or.inl rfl, trivial⟩ ?_
      exact hC_16 v1 v2 (v3 + Int32.ofInt 1) M L hP
    · have hP := hP.2 c_2
      obtain ⟨a_3, hP⟩ := hP
      refine wp_seg (pc' := 47) [.aload 4, .iload 6, .iaload] (by decide +kernel) (show aok 66 0 v6 ∧ Wp E (d + 2) 55 47 [.ref 65, .int v1, .int v2, .int v3, .ref 66, .int v5, .int v6, .null, .null] [.int (M 66 v6.toNatClampNeg)] M L Q from ⟨⟨rfl, a_3⟩, ?_⟩)
      refine wp_seg (pc' := 58) [.istore 7, .iload 7, .iload 1, .iand, .istore 8, .iload 1, .iload 7] (by decide +kernel) (?_ : Wp E (d + 2) 55 58 [.ref 65, .int v1, .int v2, .int v3, .ref 66, .int v5, .int v6, .int (M 66 v6.toNatClampNeg), .int ((M 66 v6.toNatClampNeg) &&& v1)] [.int (M 66 v6.toNatClampNeg), .int v1] M L Q)
      refine wp_callS 53 [.int v1, .int (M 66 v6.toNatClampNeg)] (i := 51) (by decide +kernel) (by decide +kernel) (by decide +kernel) rfl rfl rfl (rest := []) rfl rfl ?_
      refine s_X8_largerPart M v1 (M 66 v6.toNatClampNeg)  ?_
      show Wp E (d + 2) 55 61 [.ref 65, .int v1, .int v2, .int v3, .ref 66, .int v5, .int v6, .int (M 66 v6.toNatClampNeg), .int ((M 66 v6.toNatClampNeg) &&& v1)] [.int (f_X8_largerPart M v1 (M 66 v6.toNatClampNeg))] M L Q
      refine wp_seg (pc' := 62) [.iload 3] (by decide +kernel) (?_ : Wp E (d + 2) 55 62 [.ref 65, .int v1, .int v2, .int v3, .ref 66, .int v5, .int v6, .int (M 66 v6.toNatClampNeg), .int ((M 66 v6.toNatClampNeg) &&& v1)] [.int v3, .int (f_X8_largerPart M v1 (M 66 v6.toNatClampNeg))] M L Q)
      refine wp_icmpne (off := 46) 108 (by decide +kernel) (by decide) (fun c_4 => ?_) (fun c_4 => ?_)
      · have hP := hP.2 c_4
        refine wp_seg (pc' := 35) [.iinc 6 1, .goto 0] (by decide +kernel) (?_ : Wp E (d + 2) 55 35 [.ref 65, .int v1, .int v2, .int v3, .ref 66, .int v5, .int (v6 + Int32.ofInt 1), .int (M 66 v6.toNatClampNeg), .int ((M 66 v6.toNatClampNeg) &&& v1)] [] M L Q)
        refine wp_drop (lo := [.ref 65, .int v1, .int v2, .int v3, .ref 66, .int v5, .int (v6 + Int32.ofInt 1), .null, .null]) ⟨Or.inr rfl, Or.inr rfl, Or.inr rfl, Or.inr rfl, Or.inr rfl, Or.inr rfl, Or.inr rfl, Or.inl rfl, Or.inl rfl, trivial⟩ ?_
        exact ih v1 v2 v3 v5 (v6 + Int32.ofInt 1) M L hP
      · have hP := hP.1 c_4
        refine wp_seg (pc' := 69) [.aload 0, .iload 8, .iload 1] (by decide +kernel) (?_ : Wp E (d + 2) 55 69 [.ref 65, .int v1, .int v2, .int v3, .ref 66, .int v5, .int v6, .int (M 66 v6.toNatClampNeg), .int ((M 66 v6.toNatClampNeg) &&& v1)] [.int v1, .int ((M 66 v6.toNatClampNeg) &&& v1), .ref 65] M L Q)
        refine wp_callV 56 65 [.int ((M 66 v6.toNatClampNeg) &&& v1), .int v1] (i := 84) (by decide +kernel) (by decide +kernel) (by decide +kernel) (by decide +kernel) rfl rfl rfl (rest := []) rfl rfl ?_
        refine t_X8_hasPart hP (fun v_7 M_5 L_6 hP => ?_)
        show Wp E (d + 2) 55 72 [.ref 65, .int v1, .int v2, .int v3, .ref 66, .int v5, .int v6, .int (M 66 v6.toNatClampNeg), .int ((M 66 v6.toNatClampNeg) &&& v1)] [.int v_7] M_5 L_6 Q
        refine wp_ifne (off := 36) 108 (by decide +kernel) (by decide) (fun c_8 => ?_) (fun c_8 => ?_)
        · have hP := hP.2 c_8
          refine wp_seg (pc' := 35) [.iinc 6 1, .goto 0] (by decide +kernel) (?_ : Wp E (d + 2) 55 35 [.ref 65, .int v1, .int v2, .int v3, .ref 66, .int v5, .int (v6 + Int32.ofInt 1), .int (M 66 v6.toNatClampNeg), .int ((M 66 v6.toNatClampNeg) &&& v1)] [] M_5 L_6 Q)
          refine wp_drop (lo := [.ref 65, .int v1, .int v2, .int v3, .ref 66, .int v5, .int (v6 + Int32.ofInt 1), .null, .null]) ⟨Or.inr rfl, Or.inr rfl, Or.inr rfl, Or.inr rfl, Or.inr rfl, Or.inr rfl, Or.inr rfl, Or.inl rfl, Or.inl rfl, trivial⟩ ?_
          exact ih v1 v2 v3 v5 (v6 + Int32.ofInt 1) M_5 L_6 hP
        · have hP := hP.1 c_8
          refine wp_seg (pc' := 84) [.aload 0, .getfield 514, .aload 0, .getfield 513, .arraylength] (by decide +kernel) (?_ : Wp E (d + 2) 55 84 [.ref 65, .int v1, .int v2, .int v3, .ref 66, .int v5, .int v6, .int (M 66 v6.toNatClampNeg), .int ((M 66 v6.toNatClampNeg) &&& v1)] [.int (Int32.ofNat 64), .int (M_5 65 2)] M_5 L_6 Q)
          refine wp_icmpge (off := 24) 108 (by decide +kernel) (by decide) (fun c_9 => ?_) (fun c_9 => ?_)
          · have hP := hP.1 c_9
            refine wp_seg (pc' := 35) [.iinc 6 1, .goto 0] (by decide +kernel) (?_ : Wp E (d + 2) 55 35 [.ref 65, .int v1, .int v2, .int v3, .ref 66, .int v5, .int (v6 + Int32.ofInt 1), .int (M 66 v6.toNatClampNeg), .int ((M 66 v6.toNatClampNeg) &&& v1)] [] M_5 L_6 Q)
            refine wp_drop (lo := [.ref 65, .int v1, .int v2, .int v3, .ref 66, .int v5, .int (v6 + Int32.ofInt 1), .null, .null]) ⟨Or.inr rfl, Or.inr rfl, Or.inr rfl, Or.inr rfl, Or.inr rfl, Or.inr rfl, Or.inr rfl, Or.inl rfl, Or.inl rfl, trivial⟩ ?_
            exact ih v1 v2 v3 v5 (v6 + Int32.ofInt 1) M_5 L_6 hP
          · have hP := hP.2 c_9
            obtain ⟨a_10, hP⟩ := hP
            refine wp_seg (pc' := 98) [.aload 0, .getfield 513, .aload 0, .getfield 514, .iload 8, .iastore] (by decide +kernel) (show aok 67 0 (M_5 65 2) ∧ Wp E (d + 2) 55 98 [.ref 65, .int v1, .int v2, .int v3, .ref 66, .int v5, .int v6, .int (M 66 v6.toNatClampNeg), .int ((M 66 v6.toNatClampNeg) &&& v1)] [] (mput M_5 67 ((M_5 65 2).toNatClampNeg) ((M 66 v6.toNatClampNeg) &&& v1)) L_6 Q from ⟨⟨rfl, a_10⟩, ?_⟩)
            refine wp_seg (pc' := 35) [.aload 0, .dup, .getfield 514, .iconst 1, .iadd, .putfield 514, .iinc 6 1, .goto 0] (by decide +kernel) (?_ : Wp E (d + 2) 55 35 [.ref 65, .int v1, .int v2, .int v3, .ref 66, .int v5, .int (v6 + Int32.ofInt 1), .int (M 66 v6.toNatClampNeg), .int ((M 66 v6.toNatClampNeg) &&& v1)] [] (mput (mput M_5 67 ((M_5 65 2).toNatClampNeg) ((M 66 v6.toNatClampNeg) &&& v1)) 65 2 ((M_5 65 2) + (Int32.ofInt 1))) L_6 Q)
            refine wp_drop (lo := [.ref 65, .int v1, .int v2, .int v3, .ref 66, .int v5, .int (v6 + Int32.ofInt 1), .null, .null]) ⟨Or.inr rfl, Or.inr rfl, Or.inr rfl, Or.inr rfl, Or.inr rfl, Or.inr rfl, Or.inr rfl, Or.inl rfl, Or.inl rfl, trivial⟩ ?_
            exact ih v1 v2 v3 v5 (v6 + Int32.ofInt 1) (mput (mput M_5 67 ((M_5 65 2).toNatClampNeg) ((M 66 v6.toNatClampNeg) &&& v1)) 65 2 ((M_5 65 2) + (Int32.ofInt 1))) L_6 hP
def PL_X8_gatherParts_16 (K : Mem → LMem → Prop)  : Nat → Int32 → Int32 → Int32 → Mem → LMem → Prop
  | 0, _, _, _, _, _ => False
  | n_ + 1, v1, v2, v3, M, L => ((v2 ≤ v3 → K M L) ∧ (¬ (v2 ≤ v3) → PL_X8_gatherParts_35 K (PL_X8_gatherParts_16 K n_) 100000 v1 v2 v3 (Int32.ofNat 64) (Int32.ofInt 0) M L))
theorem tl_X8_gatherParts_16 {E : VE} {d : Nat} {Q : QQ} {K : Mem → LMem → Prop}  (hK : ∀ (M : Mem) (L : LMem), K M L → Q none M L)  : ∀ (n_ : Nat) (v1 : Int32) (v2 : Int32) (v3 : Int32) (M : Mem) (L : LMem), PL_X8_gatherParts_16 K n_ v1 v2 v3 M L → Wp E (d + 2) 55 16 [.ref 65, .int v1, .int v2, .int v3, .null, .null, .null, .null, .null] [] M L Q := by
  intro n_
  induction n_ with
  | zero => intro v1 v2 v3 M L hP; exact False.elim hP
  | succ n_ ih =>
    intro v1 v2 v3 M L hP
    unfold PL_X8_gatherParts_16 at hP
    refine wp_seg (pc' := 18) [.iload 3, .iload 2] (by decide +kernel) (?_ : Wp E (d + 2) 55 18 [.ref 65, .int v1, .int v2, .int v3, .null, .null, .null, .null, .null] [.int v2, .int v3] M L Q)
    refine wp_icmpge (off := 102) 120 (by decide +kernel) (by decide) (fun c_1 => ?_) (fun c_1 => ?_)
    · have hP := hP.1 c_1
      exact wp_vret (by decide +kernel) rfl (hK _ _ hP)
    · have hP := hP.2 c_1
      refine wp_seg (pc' := 35) [.aload 0, .getfield 512, .astore 4, .aload 4, .arraylength, .istore 5, .iconst 0, .istore 6] (by decide +kernel) (?_ : Wp E (d + 2) 55 35 [.ref 65, .int v1, .int v2, .int v3, .ref 66, .int (Int32.ofNat 64), .int (Int32.ofInt 0), .null, .null] [] M L Q)
      exact tl_X8_gatherParts_35 hK (fun v1 v2 v3 M L hP => ih v1 v2 v3 M L hP) 100000 v1 v2 v3 (Int32.ofNat 64) (Int32.ofInt 0) M L hP
def P_X8_gatherParts (x1 : Int32) (M : Mem) (L : LMem) (K : Mem → LMem → Prop) : Prop := PL_X8_gatherParts_16 K 100000 x1 (f_J6_bitCount_0f7a4 (mput M 65 2 (Int32.ofInt 0)) x1) (((f_J6_bitCount_0f7a4 (mput M 65 2 (Int32.ofInt 0)) x1) + (Int32.ofInt 1)) / (Int32.ofInt 2)) (mput M 65 2 (Int32.ofInt 0)) L
theorem t_X8_gatherParts {E : VE} {d : Nat} {Q : QQ} {K : Mem → LMem → Prop} {x1 : Int32} {M : Mem} {L : LMem} (hP : P_X8_gatherParts x1 M L K) (hK : ∀ (M : Mem) (L : LMem), K M L → Q none M L) : Wp E (d + 2) 55 0 [.ref 65, .int x1, .null, .null, .null, .null, .null, .null, .null] [] M L Q := by
  unfold P_X8_gatherParts at hP
  refine wp_seg (pc' := 6) [.aload 0, .iconst 0, .putfield 514, .iload 1] (by decide +kernel) (?_ : Wp E (d + 2) 55 6 [.ref 65, .int x1, .null, .null, .null, .null, .null, .null, .null] [.int x1] (mput M 65 2 (Int32.ofInt 0)) L Q)
  refine wp_callS 87 [.int x1] (i := 45) (by decide +kernel) (by decide +kernel) (by decide +kernel) rfl rfl rfl (rest := []) rfl rfl ?_
  refine s_J6_bitCount_0f7a4 (mput M 65 2 (Int32.ofInt 0)) x1  ?_
  show Wp E (d + 2) 55 9 [.ref 65, .int x1, .null, .null, .null, .null, .null, .null, .null] [.int (f_J6_bitCount_0f7a4 (mput M 65 2 (Int32.ofInt 0)) x1)] (mput M 65 2 (Int32.ofInt 0)) L Q
  refine wp_seg (pc' := 15) [.istore 2, .iload 2, .iconst 1, .iadd, .iconst 2, .idiv] (by decide +kernel) (show ¬ (Int32.ofInt 2) = 0 ∧ Wp E (d + 2) 55 15 [.ref 65, .int x1, .int (f_J6_bitCount_0f7a4 (mput M 65 2 (Int32.ofInt 0)) x1), .null, .null, .null, .null, .null, .null] [.int (((f_J6_bitCount_0f7a4 (mput M 65 2 (Int32.ofInt 0)) x1) + (Int32.ofInt 1)) / (Int32.ofInt 2))] (mput M 65 2 (Int32.ofInt 0)) L Q from ⟨(by decide), ?_⟩)
  refine wp_seg (pc' := 16) [.istore 3] (by decide +kernel) (?_ : Wp E (d + 2) 55 16 [.ref 65, .int x1, .int (f_J6_bitCount_0f7a4 (mput M 65 2 (Int32.ofInt 0)) x1), .int (((f_J6_bitCount_0f7a4 (mput M 65 2 (Int32.ofInt 0)) x1) + (Int32.ofInt 1)) / (Int32.ofInt 2)), .null, .null, .null, .null, .null] [] (mput M 65 2 (Int32.ofInt 0)) L Q)
  exact tl_X8_gatherParts_16 hK 100000 x1 (f_J6_bitCount_0f7a4 (mput M 65 2 (Int32.ofInt 0)) x1) (((f_J6_bitCount_0f7a4 (mput M 65 2 (Int32.ofInt 0)) x1) + (Int32.ofInt 1)) / (Int32.ofInt 2)) (mput M 65 2 (Int32.ofInt 0)) L hP

def PL_X8_allCanBeParted_13 (K : Int32 → Mem → LMem → Prop) (C_2 : Int32 → Int32 → Mem → LMem → Prop) : Nat → Int32 → Int32 → Int32 → Int32 → Mem → LMem → Prop
  | 0, _, _, _, _, _, _ => False
  | n_ + 1, v1, v2, v3, v4, M, L => (((M 65 2) ≤ v4 → ((((v1 >>> (v2 &&& 31)) &&& (Int32.ofInt 1)) = 0 → C_2 v1 (v2 + Int32.ofInt 1) M L) ∧ (¬ (((v1 >>> (v2 &&& 31)) &&& (Int32.ofInt 1)) = 0) → ((v3 = ((Int32.ofInt 1) <<< (v2 &&& 31)) → C_2 v1 (v2 + Int32.ofInt 1) M L) ∧ (¬ (v3 = ((Int32.ofInt 1) <<< (v2 &&& 31))) → K (Int32.ofInt 0) M L))))) ∧ (¬ ((M 65 2) ≤ v4) → (vp_in v4 64 ∧ (((((M 67 v4.toNatClampNeg) >>> (v2 &&& 31)) &&& (Int32.ofInt 1)) = 0 → PL_X8_allCanBeParted_13 K C_2 n_ v1 v2 (v3 &&& ((M 67 v4.toNatClampNeg) ^^^ (Int32.ofInt (-1)))) (v4 + Int32.ofInt 1) M L) ∧ (¬ ((((M 67 v4.toNatClampNeg) >>> (v2 &&& 31)) &&& (Int32.ofInt 1)) = 0) → PL_X8_allCanBeParted_13 K C_2 n_ v1 v2 (v3 &&& (M 67 v4.toNatClampNeg)) (v4 + Int32.ofInt 1) M L)))))
theorem tl_X8_allCanBeParted_13 {E : VE} {d : Nat} {Q : QQ} {K : Int32 → Mem → LMem → Prop} {C_2 : Int32 → Int32 → Mem → LMem → Prop} (hK : ∀ (v : Int32) (M : Mem) (L : LMem), K v M L → Q (some (.int v)) M L) (hC_2 : ∀ (v1 : Int32) (v2 : Int32) (M : Mem) (L : LMem), C_2 v1 v2 M L → Wp E d 57 2 [.ref 65, .int v1, .int v2, .null, .null] [] M L Q) : ∀ (n_ : Nat) (v1 : Int32) (v2 : Int32) (v3 : Int32) (v4 : Int32) (M : Mem) (L : LMem), PL_X8_allCanBeParted_13 K C_2 n_ v1 v2 v3 v4 M L → Wp E d 57 13 [.ref 65, .int v1, .int v2, .int v3, .int v4] [] M L Q := by
  intro n_
  induction n_ with
  | zero => intro v1 v2 v3 v4 M L hP; exact False.elim hP
  | succ n_ ih =>
    intro v1 v2 v3 v4 M L hP
    unfold PL_X8_allCanBeParted_13 at hP
    refine wp_seg (pc' := 19) [.iload 4, .aload 0, .getfield 514] (by decide +kernel) (?_ : Wp E d 57 19 [.ref 65, .int v1, .int v2, .int v3, .int v4] [.int (M 65 2), .int v4] M L Q)
    refine wp_icmpge (off := 45) 64 (by decide +kernel) (by decide) (fun c_2 => ?_) (fun c_2 => ?_)
    · have hP := hP.1 c_2
      refine wp_seg (pc' := 69) [.iload 1, .iload 2, .ishr, .iconst 1, .iand] (by decide +kernel) (?_ : Wp E d 57 69 [.ref 65, .int v1, .int v2, .int v3, .int v4] [.int ((v1 >>> (v2 &&& 31)) &&& (Int32.ofInt 1))] M L Q)
      refine wp_ifeq (off := 12) 81 (by decide +kernel) (by decide) (fun c_3 => ?_) (fun c_3 => ?_)
      · have hP := hP.1 c_3
        refine wp_seg (pc' := 2) [.iinc 2 1, .goto 0] (by decide +kernel) (?_ : Wp E d 57 2 [.ref 65, .int v1, .int (v2 + Int32.ofInt 1), .int v3, .int v4] [] M L Q)
        refine wp_drop (lo := [.ref 65, .int v1, .int (v2 + Int32.ofInt 1), .null, .null]) ⟨Or.inr rfl, Or.inr rfl, Or.inr rfl, Or.inl rfl, Or.inl rfl, trivial⟩ ?_
        exact hC_2 v1 (v2 + Int32.ofInt 1) M L hP
      · have hP := hP.2 c_3
        refine wp_seg (pc' := 76) [.iload 3, .iconst 1, .iload 2, .ishl] (by decide +kernel) (?_ : Wp E d 57 76 [.ref 65, .int v1, .int v2, .int v3, .int v4] [.int ((Int32.ofInt 1) <<< (v2 &&& 31)), .int v3] M L Q)
        refine wp_icmpeq (off := 5) 81 (by decide +kernel) (by decide) (fun c_4 => ?_) (fun c_4 => ?_)
        · have hP := hP.1 c_4
          refine wp_seg (pc' := 2) [.iinc 2 1, .goto 0] (by decide +kernel) (?_ : Wp E d 57 2 [.ref 65, .int v1, .int (v2 + Int32.ofInt 1), .int v3, .int v4] [] M L Q)
          refine wp_drop (lo := [.ref 65, .int v1, .int (v2 + Int32.ofInt 1), .null, .null]) ⟨Or.inr rfl, Or.inr rfl, Or.inr rfl, Or.inl rfl, Or.inl rfl, trivial⟩ ?_
          exact hC_2 v1 (v2 + Int32.ofInt 1) M L hP
        · have hP := hP.2 c_4
          refine wp_seg (pc' := 80) [.iconst 0] (by decide +kernel) (?_ : Wp E d 57 80 [.ref 65, .int v1, .int v2, .int v3, .int v4] [.int (Int32.ofInt 0)] M L Q)
          exact wp_zret (by decide +kernel) rfl (by decide) (hK _ _ _ hP)
    · have hP := hP.2 c_2
      obtain ⟨a_5, hP⟩ := hP
      refine wp_seg (pc' := 30) [.iload 3, .aload 0, .getfield 513, .iload 4, .iaload] (by decide +kernel) (show aok 67 0 v4 ∧ Wp E d 57 30 [.ref 65, .int v1, .int v2, .int v3, .int v4] [.int (M 67 v4.toNatClampNeg), .int v3] M L Q from ⟨⟨rfl, a_5⟩, ?_⟩)
      refine wp_seg (pc' := 34) [.iload 2, .ishr, .iconst 1, .iand] (by decide +kernel) (?_ : Wp E d 57 34 [.ref 65, .int v1, .int v2, .int v3, .int v4] [.int (((M 67 v4.toNatClampNeg) >>> (v2 &&& 31)) &&& (Int32.ofInt 1)), .int v3] M L Q)
      refine wp_ifeq (off := 13) 47 (by decide +kernel) (by decide) (fun c_6 => ?_) (fun c_6 => ?_)
      · have hP := hP.1 c_6
        refine wp_seg (pc' := 54) [.aload 0, .getfield 513, .iload 4, .iaload] (by decide +kernel) (show aok 67 0 v4 ∧ Wp E d 57 54 [.ref 65, .int v1, .int v2, .int v3, .int v4] [.int (M 67 v4.toNatClampNeg), .int v3] M L Q from ⟨⟨rfl, a_5⟩, ?_⟩)
        refine wp_seg (pc' := 13) [.iconst (-1), .ixor, .iand, .istore 3, .iinc 4 1, .goto 0] (by decide +kernel) (?_ : Wp E d 57 13 [.ref 65, .int v1, .int v2, .int (v3 &&& ((M 67 v4.toNatClampNeg) ^^^ (Int32.ofInt (-1)))), .int (v4 + Int32.ofInt 1)] [] M L Q)
        exact ih v1 v2 (v3 &&& ((M 67 v4.toNatClampNeg) ^^^ (Int32.ofInt (-1)))) (v4 + Int32.ofInt 1) M L hP
      · have hP := hP.2 c_6
        refine wp_seg (pc' := 44) [.aload 0, .getfield 513, .iload 4, .iaload] (by decide +kernel) (show aok 67 0 v4 ∧ Wp E d 57 44 [.ref 65, .int v1, .int v2, .int v3, .int v4] [.int (M 67 v4.toNatClampNeg), .int v3] M L Q from ⟨⟨rfl, a_5⟩, ?_⟩)
        refine wp_seg (pc' := 13) [.goto 0, .iand, .istore 3, .iinc 4 1, .goto 0] (by decide +kernel) (?_ : Wp E d 57 13 [.ref 65, .int v1, .int v2, .int (v3 &&& (M 67 v4.toNatClampNeg)), .int (v4 + Int32.ofInt 1)] [] M L Q)
        exact ih v1 v2 (v3 &&& (M 67 v4.toNatClampNeg)) (v4 + Int32.ofInt 1) M L hP
def PL_X8_allCanBeParted_2 (K : Int32 → Mem → LMem → Prop)  : Nat → Int32 → Int32 → Mem → LMem → Prop
  | 0, _, _, _, _ => False
  | n_ + 1, v1, v2, M, L => (((Int32.ofInt 13) ≤ v2 → K (Int32.ofInt 1) M L) ∧ (¬ ((Int32.ofInt 13) ≤ v2) → PL_X8_allCanBeParted_13 K (PL_X8_allCanBeParted_2 K n_) 100000 v1 v2 v1 (Int32.ofInt 0) M L))
theorem tl_X8_allCanBeParted_2 {E : VE} {d : Nat} {Q : QQ} {K : Int32 → Mem → LMem → Prop}  (hK : ∀ (v : Int32) (M : Mem) (L : LMem), K v M L → Q (some (.int v)) M L)  : ∀ (n_ : Nat) (v1 : Int32) (v2 : Int32) (M : Mem) (L : LMem), PL_X8_allCanBeParted_2 K n_ v1 v2 M L → Wp E d 57 2 [.ref 65, .int v1, .int v2, .null, .null] [] M L Q := by
  intro n_
  induction n_ with
  | zero => intro v1 v2 M L hP; exact False.elim hP
  | succ n_ ih =>
    intro v1 v2 M L hP
    unfold PL_X8_allCanBeParted_2 at hP
    refine wp_seg (pc' := 5) [.iload 2, .iconst 13] (by decide +kernel) (?_ : Wp E d 57 5 [.ref 65, .int v1, .int v2, .null, .null] [.int (Int32.ofInt 13), .int v2] M L Q)
    refine wp_icmpge (off := 82) 87 (by decide +kernel) (by decide) (fun c_1 => ?_) (fun c_1 => ?_)
    · have hP := hP.1 c_1
      refine wp_seg (pc' := 88) [.iconst 1] (by decide +kernel) (?_ : Wp E d 57 88 [.ref 65, .int v1, .int v2, .null, .null] [.int (Int32.ofInt 1)] M L Q)
      exact wp_zret (by decide +kernel) rfl (by decide) (hK _ _ _ hP)
    · have hP := hP.2 c_1
      refine wp_seg (pc' := 13) [.iload 1, .istore 3, .iconst 0, .istore 4] (by decide +kernel) (?_ : Wp E d 57 13 [.ref 65, .int v1, .int v2, .int v1, .int (Int32.ofInt 0)] [] M L Q)
      exact tl_X8_allCanBeParted_13 hK (fun v1 v2 M L hP => ih v1 v2 M L hP) 100000 v1 v2 v1 (Int32.ofInt 0) M L hP
def P_X8_allCanBeParted (x1 : Int32) (M : Mem) (L : LMem) (K : Int32 → Mem → LMem → Prop) : Prop := PL_X8_allCanBeParted_2 K 100000 x1 (Int32.ofInt 0) M L
theorem t_X8_allCanBeParted {E : VE} {d : Nat} {Q : QQ} {K : Int32 → Mem → LMem → Prop} {x1 : Int32} {M : Mem} {L : LMem} (hP : P_X8_allCanBeParted x1 M L K) (hK : ∀ (v : Int32) (M : Mem) (L : LMem), K v M L → Q (some (.int v)) M L) : Wp E d 57 0 [.ref 65, .int x1, .null, .null, .null] [] M L Q := by
  unfold P_X8_allCanBeParted at hP
  refine wp_seg (pc' := 2) [.iconst 0, .istore 2] (by decide +kernel) (?_ : Wp E d 57 2 [.ref 65, .int x1, .int (Int32.ofInt 0), .null, .null] [] M L Q)
  exact tl_X8_allCanBeParted_2 hK 100000 x1 (Int32.ofInt 0) M L hP

def PL_X8_layBounds_40 (K : Mem → LMem → Prop)  : Nat → Int32 → Int32 → Int32 → Mem → LMem → Prop
  | 0, _, _, _, _, _ => False
  | n_ + 1, v1, v2, v3, M, L => (((Int32.ofInt 13) < v3 → K M L) ∧ (¬ ((Int32.ofInt 13) < v3) → ((v3 ≤ (if ((v3 + (Int32.ofInt 1)) / (Int32.ofInt 2)) < (v3 - v2) then (v3 - v2) else ((v3 + (Int32.ofInt 1)) / (Int32.ofInt 2))) → (vp_in v3 14 ∧ PL_X8_layBounds_40 K n_ v1 v2 (v3 + Int32.ofInt 1) (mput M 68 v3.toNatClampNeg (Int32.ofInt 99)) L)) ∧ (¬ (v3 ≤ (if ((v3 + (Int32.ofInt 1)) / (Int32.ofInt 2)) < (v3 - v2) then (v3 - v2) else ((v3 + (Int32.ofInt 1)) / (Int32.ofInt 2)))) → (vp_in (if ((v3 + (Int32.ofInt 1)) / (Int32.ofInt 2)) < (v3 - v2) then (v3 - v2) else ((v3 + (Int32.ofInt 1)) / (Int32.ofInt 2))) 14 ∧ (vp_in v3 14 ∧ PL_X8_layBounds_40 K n_ v1 v2 (v3 + Int32.ofInt 1) (mput M 68 v3.toNatClampNeg ((Int32.ofInt 1) + (M 68 ((if ((v3 + (Int32.ofInt 1)) / (Int32.ofInt 2)) < (v3 - v2) then (v3 - v2) else ((v3 + (Int32.ofInt 1)) / (Int32.ofInt 2))).toNatClampNeg)))) L))))))
theorem tl_X8_layBounds_40 {E : VE} {d : Nat} {Q : QQ} {K : Mem → LMem → Prop}  (hK : ∀ (M : Mem) (L : LMem), K M L → Q none M L)  : ∀ (n_ : Nat) (v1 : Int32) (v2 : Int32) (v3 : Int32) (M : Mem) (L : LMem), PL_X8_layBounds_40 K n_ v1 v2 v3 M L → Wp E (d + 2) 58 40 [.ref 65, .int v1, .int v2, .int v3, .null] [] M L Q := by
  intro n_
  induction n_ with
  | zero => intro v1 v2 v3 M L hP; exact False.elim hP
  | succ n_ ih =>
    intro v1 v2 v3 M L hP
    unfold PL_X8_layBounds_40 at hP
    refine wp_seg (pc' := 43) [.iload 3, .iconst 13] (by decide +kernel) (?_ : Wp E (d + 2) 58 43 [.ref 65, .int v1, .int v2, .int v3, .null] [.int (Int32.ofInt 13), .int v3] M L Q)
    refine wp_icmpgt (off := 48) 91 (by decide +kernel) (by decide) (fun c_2 => ?_) (fun c_2 => ?_)
    · have hP := hP.1 c_2
      exact wp_vret (by decide +kernel) rfl (hK _ _ hP)
    · have hP := hP.2 c_2
      refine wp_seg (pc' := 51) [.iload 3, .iconst 1, .iadd, .iconst 2, .idiv] (by decide +kernel) (show ¬ (Int32.ofInt 2) = 0 ∧ Wp E (d + 2) 58 51 [.ref 65, .int v1, .int v2, .int v3, .null] [.int ((v3 + (Int32.ofInt 1)) / (Int32.ofInt 2))] M L Q from ⟨(by decide), ?_⟩)
      refine wp_seg (pc' := 57) [.iload 3, .iload 2, .isub, .invokestatic 0] (by decide +kernel) (?_ : Wp E (d + 2) 58 57 [.ref 65, .int v1, .int v2, .int v3, .null] [.int (if ((v3 + (Int32.ofInt 1)) / (Int32.ofInt 2)) < (v3 - v2) then (v3 - v2) else ((v3 + (Int32.ofInt 1)) / (Int32.ofInt 2)))] M L Q)
      refine wp_seg (pc' := 67) [.istore 4, .aload 0, .getfield 515, .iload 3, .iload 4, .iload 3] (by decide +kernel) (?_ : Wp E (d + 2) 58 67 [.ref 65, .int v1, .int v2, .int v3, .int (if ((v3 + (Int32.ofInt 1)) / (Int32.ofInt 2)) < (v3 - v2) then (v3 - v2) else ((v3 + (Int32.ofInt 1)) / (Int32.ofInt 2)))] [.int v3, .int (if ((v3 + (Int32.ofInt 1)) / (Int32.ofInt 2)) < (v3 - v2) then (v3 - v2) else ((v3 + (Int32.ofInt 1)) / (Int32.ofInt 2))), .int v3, .ref 68] M L Q)
      refine wp_icmpge (off := 15) 82 (by decide +kernel) (by decide) (fun c_3 => ?_) (fun c_3 => ?_)
      · have hP := hP.1 c_3
        obtain ⟨a_4, hP⟩ := hP
        refine wp_seg (pc' := 85) [.iconst 99, .iastore] (by decide +kernel) (show aok 68 0 v3 ∧ Wp E (d + 2) 58 85 [.ref 65, .int v1, .int v2, .int v3, .int (if ((v3 + (Int32.ofInt 1)) / (Int32.ofInt 2)) < (v3 - v2) then (v3 - v2) else ((v3 + (Int32.ofInt 1)) / (Int32.ofInt 2)))] [] (mput M 68 v3.toNatClampNeg (Int32.ofInt 99)) L Q from ⟨⟨rfl, a_4⟩, ?_⟩)
        refine wp_seg (pc' := 40) [.iinc 3 1, .goto 0] (by decide +kernel) (?_ : Wp E (d + 2) 58 40 [.ref 65, .int v1, .int v2, .int (v3 + Int32.ofInt 1), .int (if ((v3 + (Int32.ofInt 1)) / (Int32.ofInt 2)) < (v3 - v2) then (v3 - v2) else ((v3 + (Int32.ofInt 1)) / (Int32.ofInt 2)))] [] (mput M 68 v3.toNatClampNeg (Int32.ofInt 99)) L Q)
        refine wp_drop (lo := [.ref 65, .int v1, .int v2, .int (v3 + Int32.ofInt 1), .null]) ⟨Or.inr rfl, Or.inr rfl, Or.inr rfl, Or.inr rfl, Or.inl rfl, trivial⟩ ?_
        exact ih v1 v2 (v3 + Int32.ofInt 1) (mput M 68 v3.toNatClampNeg (Int32.ofInt 99)) L hP
      · have hP := hP.2 c_3
        obtain ⟨a_5, hP⟩ := hP
        refine wp_seg (pc' := 78) [.iconst 1, .aload 0, .getfield 515, .iload 4, .iaload] (by decide +kernel) (show aok 68 0 (if ((v3 + (Int32.ofInt 1)) / (Int32.ofInt 2)) < (v3 - v2) then (v3 - v2) else ((v3 + (Int32.ofInt 1)) / (Int32.ofInt 2))) ∧ Wp E (d + 2) 58 78 [.ref 65, .int v1, .int v2, .int v3, .int (if ((v3 + (Int32.ofInt 1)) / (Int32.ofInt 2)) < (v3 - v2) then (v3 - v2) else ((v3 + (Int32.ofInt 1)) / (Int32.ofInt 2)))] [.int (M 68 ((if ((v3 + (Int32.ofInt 1)) / (Int32.ofInt 2)) < (v3 - v2) then (v3 - v2) else ((v3 + (Int32.ofInt 1)) / (Int32.ofInt 2))).toNatClampNeg)), .int (Int32.ofInt 1), .int v3, .ref 68] M L Q from ⟨⟨rfl, a_5⟩, ?_⟩)
        obtain ⟨a_6, hP⟩ := hP
        refine wp_seg (pc' := 85) [.iadd, .goto 0, .iastore] (by decide +kernel) (show aok 68 0 v3 ∧ Wp E (d + 2) 58 85 [.ref 65, .int v1, .int v2, .int v3, .int (if ((v3 + (Int32.ofInt 1)) / (Int32.ofInt 2)) < (v3 - v2) then (v3 - v2) else ((v3 + (Int32.ofInt 1)) / (Int32.ofInt 2)))] [] (mput M 68 v3.toNatClampNeg ((Int32.ofInt 1) + (M 68 ((if ((v3 + (Int32.ofInt 1)) / (Int32.ofInt 2)) < (v3 - v2) then (v3 - v2) else ((v3 + (Int32.ofInt 1)) / (Int32.ofInt 2))).toNatClampNeg)))) L Q from ⟨⟨rfl, a_6⟩, ?_⟩)
        refine wp_seg (pc' := 40) [.iinc 3 1, .goto 0] (by decide +kernel) (?_ : Wp E (d + 2) 58 40 [.ref 65, .int v1, .int v2, .int (v3 + Int32.ofInt 1), .int (if ((v3 + (Int32.ofInt 1)) / (Int32.ofInt 2)) < (v3 - v2) then (v3 - v2) else ((v3 + (Int32.ofInt 1)) / (Int32.ofInt 2)))] [] (mput M 68 v3.toNatClampNeg ((Int32.ofInt 1) + (M 68 ((if ((v3 + (Int32.ofInt 1)) / (Int32.ofInt 2)) < (v3 - v2) then (v3 - v2) else ((v3 + (Int32.ofInt 1)) / (Int32.ofInt 2))).toNatClampNeg)))) L Q)
        refine wp_drop (lo := [.ref 65, .int v1, .int v2, .int (v3 + Int32.ofInt 1), .null]) ⟨Or.inr rfl, Or.inr rfl, Or.inr rfl, Or.inr rfl, Or.inl rfl, trivial⟩ ?_
        exact ih v1 v2 (v3 + Int32.ofInt 1) (mput M 68 v3.toNatClampNeg ((Int32.ofInt 1) + (M 68 ((if ((v3 + (Int32.ofInt 1)) / (Int32.ofInt 2)) < (v3 - v2) then (v3 - v2) else ((v3 + (Int32.ofInt 1)) / (Int32.ofInt 2))).toNatClampNeg)))) L hP
def PL_X8_layBounds_4 (K : Mem → LMem → Prop)  : Nat → Int32 → Int32 → Int32 → Mem → LMem → Prop
  | 0, _, _, _, _, _ => False
  | n_ + 1, v1, v2, v3, M, L => (((M 65 2) ≤ v3 → PL_X8_layBounds_40 K 100000 v1 v2 (Int32.ofInt 2) M L) ∧ (¬ ((M 65 2) ≤ v3) → (vp_in v3 64 ∧ PL_X8_layBounds_4 K n_ v1 (if v2 < ((f_J6_bitCount_0f7a4 M v1) - (f_X8_largerPart M v1 (M 67 v3.toNatClampNeg))) then ((f_J6_bitCount_0f7a4 M v1) - (f_X8_largerPart M v1 (M 67 v3.toNatClampNeg))) else v2) (v3 + Int32.ofInt 1) M L)))
theorem tl_X8_layBounds_4 {E : VE} {d : Nat} {Q : QQ} {K : Mem → LMem → Prop}  (hK : ∀ (M : Mem) (L : LMem), K M L → Q none M L)  : ∀ (n_ : Nat) (v1 : Int32) (v2 : Int32) (v3 : Int32) (M : Mem) (L : LMem), PL_X8_layBounds_4 K n_ v1 v2 v3 M L → Wp E (d + 2) 58 4 [.ref 65, .int v1, .int v2, .int v3, .null] [] M L Q := by
  intro n_
  induction n_ with
  | zero => intro v1 v2 v3 M L hP; exact False.elim hP
  | succ n_ ih =>
    intro v1 v2 v3 M L hP
    unfold PL_X8_layBounds_4 at hP
    refine wp_seg (pc' := 9) [.iload 3, .aload 0, .getfield 514] (by decide +kernel) (?_ : Wp E (d + 2) 58 9 [.ref 65, .int v1, .int v2, .int v3, .null] [.int (M 65 2), .int v3] M L Q)
    refine wp_icmpge (off := 29) 38 (by decide +kernel) (by decide) (fun c_1 => ?_) (fun c_1 => ?_)
    · have hP := hP.1 c_1
      refine wp_seg (pc' := 40) [.iconst 2, .istore 3] (by decide +kernel) (?_ : Wp E (d + 2) 58 40 [.ref 65, .int v1, .int v2, .int (Int32.ofInt 2), .null] [] M L Q)
      exact tl_X8_layBounds_40 hK 100000 v1 v2 (Int32.ofInt 2) M L hP
    · have hP := hP.2 c_1
      refine wp_seg (pc' := 14) [.iload 2, .iload 1] (by decide +kernel) (?_ : Wp E (d + 2) 58 14 [.ref 65, .int v1, .int v2, .int v3, .null] [.int v1, .int v2] M L Q)
      refine wp_callS 87 [.int v1] (i := 45) (by decide +kernel) (by decide +kernel) (by decide +kernel) rfl rfl rfl (rest := [.int v2]) rfl rfl ?_
      refine s_J6_bitCount_0f7a4 M v1  ?_
      show Wp E (d + 2) 58 17 [.ref 65, .int v1, .int v2, .int v3, .null] [.int (f_J6_bitCount_0f7a4 M v1), .int v2] M L Q
      obtain ⟨a_7, hP⟩ := hP
      refine wp_seg (pc' := 24) [.iload 1, .aload 0, .getfield 513, .iload 3, .iaload] (by decide +kernel) (show aok 67 0 v3 ∧ Wp E (d + 2) 58 24 [.ref 65, .int v1, .int v2, .int v3, .null] [.int (M 67 v3.toNatClampNeg), .int v1, .int (f_J6_bitCount_0f7a4 M v1), .int v2] M L Q from ⟨⟨rfl, a_7⟩, ?_⟩)
      refine wp_callS 53 [.int v1, .int (M 67 v3.toNatClampNeg)] (i := 51) (by decide +kernel) (by decide +kernel) (by decide +kernel) rfl rfl rfl (rest := [.int (f_J6_bitCount_0f7a4 M v1), .int v2]) rfl rfl ?_
      refine s_X8_largerPart M v1 (M 67 v3.toNatClampNeg)  ?_
      show Wp E (d + 2) 58 27 [.ref 65, .int v1, .int v2, .int v3, .null] [.int (f_X8_largerPart M v1 (M 67 v3.toNatClampNeg)), .int (f_J6_bitCount_0f7a4 M v1), .int v2] M L Q
      refine wp_seg (pc' := 31) [.isub, .invokestatic 0] (by decide +kernel) (?_ : Wp E (d + 2) 58 31 [.ref 65, .int v1, .int v2, .int v3, .null] [.int (if v2 < ((f_J6_bitCount_0f7a4 M v1) - (f_X8_largerPart M v1 (M 67 v3.toNatClampNeg))) then ((f_J6_bitCount_0f7a4 M v1) - (f_X8_largerPart M v1 (M 67 v3.toNatClampNeg))) else v2)] M L Q)
      refine wp_seg (pc' := 4) [.istore 2, .iinc 3 1, .goto 0] (by decide +kernel) (?_ : Wp E (d + 2) 58 4 [.ref 65, .int v1, .int (if v2 < ((f_J6_bitCount_0f7a4 M v1) - (f_X8_largerPart M v1 (M 67 v3.toNatClampNeg))) then ((f_J6_bitCount_0f7a4 M v1) - (f_X8_largerPart M v1 (M 67 v3.toNatClampNeg))) else v2), .int (v3 + Int32.ofInt 1), .null] [] M L Q)
      exact ih v1 (if v2 < ((f_J6_bitCount_0f7a4 M v1) - (f_X8_largerPart M v1 (M 67 v3.toNatClampNeg))) then ((f_J6_bitCount_0f7a4 M v1) - (f_X8_largerPart M v1 (M 67 v3.toNatClampNeg))) else v2) (v3 + Int32.ofInt 1) M L hP
def P_X8_layBounds (x1 : Int32) (M : Mem) (L : LMem) (K : Mem → LMem → Prop) : Prop := PL_X8_layBounds_4 K 100000 x1 (Int32.ofInt 0) (Int32.ofInt 0) M L
theorem t_X8_layBounds {E : VE} {d : Nat} {Q : QQ} {K : Mem → LMem → Prop} {x1 : Int32} {M : Mem} {L : LMem} (hP : P_X8_layBounds x1 M L K) (hK : ∀ (M : Mem) (L : LMem), K M L → Q none M L) : Wp E (d + 2) 58 0 [.ref 65, .int x1, .null, .null, .null] [] M L Q := by
  unfold P_X8_layBounds at hP
  refine wp_seg (pc' := 4) [.iconst 0, .istore 2, .iconst 0, .istore 3] (by decide +kernel) (?_ : Wp E (d + 2) 58 4 [.ref 65, .int x1, .int (Int32.ofInt 0), .int (Int32.ofInt 0), .null] [] M L Q)
  exact tl_X8_layBounds_4 hK 100000 x1 (Int32.ofInt 0) (Int32.ofInt 0) M L hP

def PL_J7_fill_031fb_5 (K : Mem → LMem → Prop)  : Nat → Int32 → Int32 → Int32 → Mem → LMem → Prop
  | 0, _, _, _, _, _ => False
  | n_ + 1, v1, v2, v3, M, L => ((v3 ≤ v2 → K M L) ∧ (¬ (v3 ≤ v2) → (vp_in v2 8192 ∧ PL_J7_fill_031fb_5 K n_ v1 (v2 + Int32.ofInt 1) v3 (mput M 69 v2.toNatClampNeg (vp_nar .byte v1)) L)))
theorem tl_J7_fill_031fb_5 {E : VE} {d : Nat} {Q : QQ} {K : Mem → LMem → Prop}  (hK : ∀ (M : Mem) (L : LMem), K M L → Q none M L)  : ∀ (n_ : Nat) (v1 : Int32) (v2 : Int32) (v3 : Int32) (M : Mem) (L : LMem), PL_J7_fill_031fb_5 K n_ v1 v2 v3 M L → Wp E d 88 5 [.ref 69, .int v1, .int v2, .int v3] [] M L Q := by
  intro n_
  induction n_ with
  | zero => intro v1 v2 v3 M L hP; exact False.elim hP
  | succ n_ ih =>
    intro v1 v2 v3 M L hP
    unfold PL_J7_fill_031fb_5 at hP
    refine wp_seg (pc' := 7) [.iload 2, .iload 3] (by decide +kernel) (?_ : Wp E d 88 7 [.ref 69, .int v1, .int v2, .int v3] [.int v3, .int v2] M L Q)
    refine wp_icmpge (off := 13) 20 (by decide +kernel) (by decide) (fun c_1 => ?_) (fun c_1 => ?_)
    · have hP := hP.1 c_1
      exact wp_vret (by decide +kernel) rfl (hK _ _ hP)
    · have hP := hP.2 c_1
      obtain ⟨a_2, hP⟩ := hP
      refine wp_seg (pc' := 14) [.aload 0, .iload 2, .iload 1, .bastore] (by decide +kernel) (Or.inr (show aok 69 3 v2 ∧ Wp E d 88 14 [.ref 69, .int v1, .int v2, .int v3] [] (mput M 69 v2.toNatClampNeg (vp_nar .byte v1)) L Q from ⟨⟨rfl, a_2⟩, ?_⟩))
      refine wp_seg (pc' := 5) [.iinc 2 1, .goto 0] (by decide +kernel) (?_ : Wp E d 88 5 [.ref 69, .int v1, .int (v2 + Int32.ofInt 1), .int v3] [] (mput M 69 v2.toNatClampNeg (vp_nar .byte v1)) L Q)
      exact ih v1 (v2 + Int32.ofInt 1) v3 (mput M 69 v2.toNatClampNeg (vp_nar .byte v1)) L hP
def P_J7_fill_031fb (x2 : Int32) (M : Mem) (L : LMem) (K : Mem → LMem → Prop) : Prop := PL_J7_fill_031fb_5 K 100000 x2 (Int32.ofInt 0) (Int32.ofNat 8192) M L
theorem t_J7_fill_031fb {E : VE} {d : Nat} {Q : QQ} {K : Mem → LMem → Prop} {x2 : Int32} {M : Mem} {L : LMem} (hP : P_J7_fill_031fb x2 M L K) (hK : ∀ (M : Mem) (L : LMem), K M L → Q none M L) : Wp E d 88 0 [.ref 69, .int x2, .null, .null] [] M L Q := by
  unfold P_J7_fill_031fb at hP
  refine wp_seg (pc' := 5) [.iconst 0, .istore 2, .aload 0, .arraylength, .istore 3] (by decide +kernel) (?_ : Wp E d 88 5 [.ref 69, .int x2, .int (Int32.ofInt 0), .int (Int32.ofNat 8192)] [] M L Q)
  exact tl_J7_fill_031fb_5 hK 100000 x2 (Int32.ofInt 0) (Int32.ofNat 8192) M L hP

def PL_X1_goBy_70_10 (K : Mem → LMem → Prop) (C_2 : Int32 → Int32 → Mem → LMem → Prop) : Nat → Int32 → Int32 → Int32 → Mem → LMem → Prop
  | 0, _, _, _, _, _ => False
  | n_ + 1, v1, v2, v3, M, L => (((Int32.ofInt 8) ≤ v3 → C_2 v1 (v2 + Int32.ofInt 1) M L) ∧ (¬ ((Int32.ofInt 8) ≤ v3) → (vp_in (((Int32.ofInt 8) * v2) + v1) 64 ∧ (vp_in (((Int32.ofInt 8) * v1) + v3) 64 ∧ (vp_in (((Int32.ofInt 8) * v2) + v3) 64 ∧ PL_X1_goBy_70_10 K C_2 n_ v1 v2 (v3 + Int32.ofInt 1) (mput M 71 ((((Int32.ofInt 8) * v2) + v3).toNatClampNeg) (if ((M 71 ((((Int32.ofInt 8) * v2) + v1).toNatClampNeg)) + (M 71 ((((Int32.ofInt 8) * v1) + v3).toNatClampNeg))) < (M 71 ((((Int32.ofInt 8) * v2) + v3).toNatClampNeg)) then ((M 71 ((((Int32.ofInt 8) * v2) + v1).toNatClampNeg)) + (M 71 ((((Int32.ofInt 8) * v1) + v3).toNatClampNeg))) else (M 71 ((((Int32.ofInt 8) * v2) + v3).toNatClampNeg)))) L)))))
theorem tl_X1_goBy_70_10 {E : VE} {d : Nat} {Q : QQ} {K : Mem → LMem → Prop} {C_2 : Int32 → Int32 → Mem → LMem → Prop} (hK : ∀ (M : Mem) (L : LMem), K M L → Q none M L) (hC_2 : ∀ (v1 : Int32) (v2 : Int32) (M : Mem) (L : LMem), C_2 v1 v2 M L → Wp E d 7 2 [.ref 70, .int v1, .int v2, .null, .null] [] M L Q) : ∀ (n_ : Nat) (v1 : Int32) (v2 : Int32) (v3 : Int32) (M : Mem) (L : LMem), PL_X1_goBy_70_10 K C_2 n_ v1 v2 v3 M L → Wp E d 7 10 [.ref 70, .int v1, .int v2, .int v3, .null] [] M L Q := by
  intro n_
  induction n_ with
  | zero => intro v1 v2 v3 M L hP; exact False.elim hP
  | succ n_ ih =>
    intro v1 v2 v3 M L hP
    unfold PL_X1_goBy_70_10 at hP
    refine wp_seg (pc' := 13) [.iload 3, .iconst 8] (by decide +kernel) (?_ : Wp E d 7 13 [.ref 70, .int v1, .int v2, .int v3, .null] [.int (Int32.ofInt 8), .int v3] M L Q)
    refine wp_icmpge (off := 61) 74 (by decide +kernel) (by decide) (fun c_2 => ?_) (fun c_2 => ?_)
    · have hP := hP.1 c_2
      refine wp_seg (pc' := 2) [.iinc 2 1, .goto 0] (by decide +kernel) (?_ : Wp E d 7 2 [.ref 70, .int v1, .int (v2 + Int32.ofInt 1), .int v3, .null] [] M L Q)
      refine wp_drop (lo := [.ref 70, .int v1, .int (v2 + Int32.ofInt 1), .null, .null]) ⟨Or.inr rfl, Or.inr rfl, Or.inr rfl, Or.inl rfl, Or.inl rfl, trivial⟩ ?_
      exact hC_2 v1 (v2 + Int32.ofInt 1) M L hP
    · have hP := hP.2 c_2
      obtain ⟨a_3, hP⟩ := hP
      refine wp_seg (pc' := 27) [.aload 0, .getfield 64, .iconst 8, .iload 2, .imul, .iload 1, .iadd, .iaload] (by decide +kernel) (show aok 71 0 (((Int32.ofInt 8) * v2) + v1) ∧ Wp E d 7 27 [.ref 70, .int v1, .int v2, .int v3, .null] [.int (M 71 ((((Int32.ofInt 8) * v2) + v1).toNatClampNeg))] M L Q from ⟨⟨rfl, a_3⟩, ?_⟩)
      obtain ⟨a_4, hP⟩ := hP
      refine wp_seg (pc' := 38) [.aload 0, .getfield 64, .iconst 8, .iload 1, .imul, .iload 3, .iadd, .iaload] (by decide +kernel) (show aok 71 0 (((Int32.ofInt 8) * v1) + v3) ∧ Wp E d 7 38 [.ref 70, .int v1, .int v2, .int v3, .null] [.int (M 71 ((((Int32.ofInt 8) * v1) + v3).toNatClampNeg)), .int (M 71 ((((Int32.ofInt 8) * v2) + v1).toNatClampNeg))] M L Q from ⟨⟨rfl, a_4⟩, ?_⟩)
      obtain ⟨a_5, hP⟩ := hP
      refine wp_seg (pc' := 62) [.iadd, .istore 4, .aload 0, .getfield 64, .iconst 8, .iload 2, .imul, .iload 3, .iadd, .aload 0, .getfield 64, .iconst 8, .iload 2, .imul, .iload 3, .iadd, .iaload] (by decide +kernel) (show aok 71 0 (((Int32.ofInt 8) * v2) + v3) ∧ Wp E d 7 62 [.ref 70, .int v1, .int v2, .int v3, .int ((M 71 ((((Int32.ofInt 8) * v2) + v1).toNatClampNeg)) + (M 71 ((((Int32.ofInt 8) * v1) + v3).toNatClampNeg)))] [.int (M 71 ((((Int32.ofInt 8) * v2) + v3).toNatClampNeg)), .int (((Int32.ofInt 8) * v2) + v3), .ref 71] M L Q from ⟨⟨rfl, a_5⟩, ?_⟩)
      refine wp_seg (pc' := 67) [.iload 4, .invokestatic 1] (by decide +kernel) (?_ : Wp E d 7 67 [.ref 70, .int v1, .int v2, .int v3, .int ((M 71 ((((Int32.ofInt 8) * v2) + v1).toNatClampNeg)) + (M 71 ((((Int32.ofInt 8) * v1) + v3).toNatClampNeg)))] [.int (if ((M 71 ((((Int32.ofInt 8) * v2) + v1).toNatClampNeg)) + (M 71 ((((Int32.ofInt 8) * v1) + v3).toNatClampNeg))) < (M 71 ((((Int32.ofInt 8) * v2) + v3).toNatClampNeg)) then ((M 71 ((((Int32.ofInt 8) * v2) + v1).toNatClampNeg)) + (M 71 ((((Int32.ofInt 8) * v1) + v3).toNatClampNeg))) else (M 71 ((((Int32.ofInt 8) * v2) + v3).toNatClampNeg))), .int (((Int32.ofInt 8) * v2) + v3), .ref 71] M L Q)
      refine wp_seg (pc' := 68) [.iastore] (by decide +kernel) (show aok 71 0 (((Int32.ofInt 8) * v2) + v3) ∧ Wp E d 7 68 [.ref 70, .int v1, .int v2, .int v3, .int ((M 71 ((((Int32.ofInt 8) * v2) + v1).toNatClampNeg)) + (M 71 ((((Int32.ofInt 8) * v1) + v3).toNatClampNeg)))] [] (mput M 71 ((((Int32.ofInt 8) * v2) + v3).toNatClampNeg) (if ((M 71 ((((Int32.ofInt 8) * v2) + v1).toNatClampNeg)) + (M 71 ((((Int32.ofInt 8) * v1) + v3).toNatClampNeg))) < (M 71 ((((Int32.ofInt 8) * v2) + v3).toNatClampNeg)) then ((M 71 ((((Int32.ofInt 8) * v2) + v1).toNatClampNeg)) + (M 71 ((((Int32.ofInt 8) * v1) + v3).toNatClampNeg))) else (M 71 ((((Int32.ofInt 8) * v2) + v3).toNatClampNeg)))) L Q from ⟨⟨rfl, a_5⟩, ?_⟩)
      refine wp_seg (pc' := 10) [.iinc 3 1, .goto 0] (by decide +kernel) (?_ : Wp E d 7 10 [.ref 70, .int v1, .int v2, .int (v3 + Int32.ofInt 1), .int ((M 71 ((((Int32.ofInt 8) * v2) + v1).toNatClampNeg)) + (M 71 ((((Int32.ofInt 8) * v1) + v3).toNatClampNeg)))] [] (mput M 71 ((((Int32.ofInt 8) * v2) + v3).toNatClampNeg) (if ((M 71 ((((Int32.ofInt 8) * v2) + v1).toNatClampNeg)) + (M 71 ((((Int32.ofInt 8) * v1) + v3).toNatClampNeg))) < (M 71 ((((Int32.ofInt 8) * v2) + v3).toNatClampNeg)) then ((M 71 ((((Int32.ofInt 8) * v2) + v1).toNatClampNeg)) + (M 71 ((((Int32.ofInt 8) * v1) + v3).toNatClampNeg))) else (M 71 ((((Int32.ofInt 8) * v2) + v3).toNatClampNeg)))) L Q)
      refine wp_drop (lo := [.ref 70, .int v1, .int v2, .int (v3 + Int32.ofInt 1), .null]) ⟨Or.inr rfl, Or.inr rfl, Or.inr rfl, Or.inr rfl, Or.inl rfl, trivial⟩ ?_
      exact ih v1 v2 (v3 + Int32.ofInt 1) (mput M 71 ((((Int32.ofInt 8) * v2) + v3).toNatClampNeg) (if ((M 71 ((((Int32.ofInt 8) * v2) + v1).toNatClampNeg)) + (M 71 ((((Int32.ofInt 8) * v1) + v3).toNatClampNeg))) < (M 71 ((((Int32.ofInt 8) * v2) + v3).toNatClampNeg)) then ((M 71 ((((Int32.ofInt 8) * v2) + v1).toNatClampNeg)) + (M 71 ((((Int32.ofInt 8) * v1) + v3).toNatClampNeg))) else (M 71 ((((Int32.ofInt 8) * v2) + v3).toNatClampNeg)))) L hP
def PL_X1_goBy_70_2 (K : Mem → LMem → Prop)  : Nat → Int32 → Int32 → Mem → LMem → Prop
  | 0, _, _, _, _ => False
  | n_ + 1, v1, v2, M, L => (((Int32.ofInt 8) ≤ v2 → K M L) ∧ (¬ ((Int32.ofInt 8) ≤ v2) → PL_X1_goBy_70_10 K (PL_X1_goBy_70_2 K n_) 100000 v1 v2 (Int32.ofInt 0) M L))
theorem tl_X1_goBy_70_2 {E : VE} {d : Nat} {Q : QQ} {K : Mem → LMem → Prop}  (hK : ∀ (M : Mem) (L : LMem), K M L → Q none M L)  : ∀ (n_ : Nat) (v1 : Int32) (v2 : Int32) (M : Mem) (L : LMem), PL_X1_goBy_70_2 K n_ v1 v2 M L → Wp E d 7 2 [.ref 70, .int v1, .int v2, .null, .null] [] M L Q := by
  intro n_
  induction n_ with
  | zero => intro v1 v2 M L hP; exact False.elim hP
  | succ n_ ih =>
    intro v1 v2 M L hP
    unfold PL_X1_goBy_70_2 at hP
    refine wp_seg (pc' := 5) [.iload 2, .iconst 8] (by decide +kernel) (?_ : Wp E d 7 5 [.ref 70, .int v1, .int v2, .null, .null] [.int (Int32.ofInt 8), .int v2] M L Q)
    refine wp_icmpge (off := 75) 80 (by decide +kernel) (by decide) (fun c_1 => ?_) (fun c_1 => ?_)
    · have hP := hP.1 c_1
      exact wp_vret (by decide +kernel) rfl (hK _ _ hP)
    · have hP := hP.2 c_1
      refine wp_seg (pc' := 10) [.iconst 0, .istore 3] (by decide +kernel) (?_ : Wp E d 7 10 [.ref 70, .int v1, .int v2, .int (Int32.ofInt 0), .null] [] M L Q)
      exact tl_X1_goBy_70_10 hK (fun v1 v2 M L hP => ih v1 v2 M L hP) 100000 v1 v2 (Int32.ofInt 0) M L hP
def P_X1_goBy_70 (x1 : Int32) (M : Mem) (L : LMem) (K : Mem → LMem → Prop) : Prop := PL_X1_goBy_70_2 K 100000 x1 (Int32.ofInt 0) M L
theorem t_X1_goBy_70 {E : VE} {d : Nat} {Q : QQ} {K : Mem → LMem → Prop} {x1 : Int32} {M : Mem} {L : LMem} (hP : P_X1_goBy_70 x1 M L K) (hK : ∀ (M : Mem) (L : LMem), K M L → Q none M L) : Wp E d 7 0 [.ref 70, .int x1, .null, .null, .null] [] M L Q := by
  unfold P_X1_goBy_70 at hP
  refine wp_seg (pc' := 2) [.iconst 0, .istore 2] (by decide +kernel) (?_ : Wp E d 7 2 [.ref 70, .int x1, .int (Int32.ofInt 0), .null, .null] [] M L Q)
  exact tl_X1_goBy_70_2 hK 100000 x1 (Int32.ofInt 0) M L hP

def PL_X1_measure_70_93 (K : Mem → LMem → Prop)  : Nat → Int32 → Int32 → Mem → LMem → Prop
  | 0, _, _, _, _ => False
  | n_ + 1, v2, v3, M, L => (((Int32.ofNat 64) ≤ v3 → K M L) ∧ (¬ ((Int32.ofNat 64) ≤ v3) → (vp_in v3 64 ∧ PL_X1_measure_70_93 K n_ v2 (v3 + Int32.ofInt 1) (mput M 71 v3.toNatClampNeg (f_X1_carried M (M 71 v3.toNatClampNeg) (M 3 1))) L)))
theorem tl_X1_measure_70_93 {E : VE} {d : Nat} {Q : QQ} {K : Mem → LMem → Prop}  (hK : ∀ (M : Mem) (L : LMem), K M L → Q none M L)  : ∀ (n_ : Nat) (v2 : Int32) (v3 : Int32) (M : Mem) (L : LMem), PL_X1_measure_70_93 K n_ v2 v3 M L → Wp E (d + 1) 5 93 [.ref 70, .ref 3, .int v2, .int v3] [] M L Q := by
  intro n_
  induction n_ with
  | zero => intro v2 v3 M L hP; exact False.elim hP
  | succ n_ ih =>
    intro v2 v3 M L hP
    unfold PL_X1_measure_70_93 at hP
    refine wp_seg (pc' := 99) [.iload 3, .aload 0, .getfield 64, .arraylength] (by decide +kernel) (?_ : Wp E (d + 1) 5 99 [.ref 70, .ref 3, .int v2, .int v3] [.int (Int32.ofNat 64), .int v3] M L Q)
    refine wp_icmpge (off := 28) 127 (by decide +kernel) (by decide) (fun c_4 => ?_) (fun c_4 => ?_)
    · have hP := hP.1 c_4
      exact wp_vret (by decide +kernel) rfl (hK _ _ hP)
    · have hP := hP.2 c_4
      obtain ⟨a_5, hP⟩ := hP
      refine wp_seg (pc' := 113) [.aload 0, .getfield 64, .iload 3, .aload 0, .getfield 64, .iload 3, .iaload] (by decide +kernel) (show aok 71 0 v3 ∧ Wp E (d + 1) 5 113 [.ref 70, .ref 3, .int v2, .int v3] [.int (M 71 v3.toNatClampNeg), .int v3, .ref 71] M L Q from ⟨⟨rfl, a_5⟩, ?_⟩)
      refine wp_seg (pc' := 117) [.aload 1, .getfield 193] (by decide +kernel) (?_ : Wp E (d + 1) 5 117 [.ref 70, .ref 3, .int v2, .int v3] [.int (M 3 1), .int (M 71 v3.toNatClampNeg), .int v3, .ref 71] M L Q)
      refine wp_callS 8 [.int (M 71 v3.toNatClampNeg), .int (M 3 1)] (i := 38) (by decide +kernel) (by decide +kernel) (by decide +kernel) rfl rfl rfl (rest := [.int v3, .ref 71]) rfl rfl ?_
      refine s_X1_carried M (M 71 v3.toNatClampNeg) (M 3 1)  ?_
      show Wp E (d + 1) 5 120 [.ref 70, .ref 3, .int v2, .int v3] [.int (f_X1_carried M (M 71 v3.toNatClampNeg) (M 3 1)), .int v3, .ref 71] M L Q
      refine wp_seg (pc' := 121) [.iastore] (by decide +kernel) (show aok 71 0 v3 ∧ Wp E (d + 1) 5 121 [.ref 70, .ref 3, .int v2, .int v3] [] (mput M 71 v3.toNatClampNeg (f_X1_carried M (M 71 v3.toNatClampNeg) (M 3 1))) L Q from ⟨⟨rfl, a_5⟩, ?_⟩)
      refine wp_seg (pc' := 93) [.iinc 3 1, .goto 0] (by decide +kernel) (?_ : Wp E (d + 1) 5 93 [.ref 70, .ref 3, .int v2, .int (v3 + Int32.ofInt 1)] [] (mput M 71 v3.toNatClampNeg (f_X1_carried M (M 71 v3.toNatClampNeg) (M 3 1))) L Q)
      exact ih v2 (v3 + Int32.ofInt 1) (mput M 71 v3.toNatClampNeg (f_X1_carried M (M 71 v3.toNatClampNeg) (M 3 1))) L hP
def PL_X1_measure_70_74 (K : Mem → LMem → Prop)  : Nat → Int32 → Int32 → Mem → LMem → Prop
  | 0, _, _, _, _ => False
  | n_ + 1, v2, v3, M, L => (((Int32.ofInt 8) ≤ v3 → PL_X1_measure_70_93 K 100000 v2 (Int32.ofInt 0) M L) ∧ (¬ ((Int32.ofInt 8) ≤ v3) → P_X1_goBy_70 v3 M L (fun M_6 L_7 => PL_X1_measure_70_74 K n_ v2 (v3 + Int32.ofInt 1) M_6 L_7)))
theorem tl_X1_measure_70_74 {E : VE} {d : Nat} {Q : QQ} {K : Mem → LMem → Prop}  (hK : ∀ (M : Mem) (L : LMem), K M L → Q none M L)  : ∀ (n_ : Nat) (v2 : Int32) (v3 : Int32) (M : Mem) (L : LMem), PL_X1_measure_70_74 K n_ v2 v3 M L → Wp E (d + 1) 5 74 [.ref 70, .ref 3, .int v2, .int v3] [] M L Q := by
  intro n_
  induction n_ with
  | zero => intro v2 v3 M L hP; exact False.elim hP
  | succ n_ ih =>
    intro v2 v3 M L hP
    unfold PL_X1_measure_70_74 at hP
    refine wp_seg (pc' := 77) [.iload 3, .iconst 8] (by decide +kernel) (?_ : Wp E (d + 1) 5 77 [.ref 70, .ref 3, .int v2, .int v3] [.int (Int32.ofInt 8), .int v3] M L Q)
    refine wp_icmpge (off := 14) 91 (by decide +kernel) (by decide) (fun c_3 => ?_) (fun c_3 => ?_)
    · have hP := hP.1 c_3
      refine wp_seg (pc' := 93) [.iconst 0, .istore 3] (by decide +kernel) (?_ : Wp E (d + 1) 5 93 [.ref 70, .ref 3, .int v2, .int (Int32.ofInt 0)] [] M L Q)
      exact tl_X1_measure_70_93 hK 100000 v2 (Int32.ofInt 0) M L hP
    · have hP := hP.2 c_3
      refine wp_seg (pc' := 82) [.aload 0, .iload 3] (by decide +kernel) (?_ : Wp E (d + 1) 5 82 [.ref 70, .ref 3, .int v2, .int v3] [.int v3, .ref 70] M L Q)
      refine wp_callV 7 70 [.int v3] (i := 31) (by decide +kernel) (by decide +kernel) (by decide +kernel) (by decide +kernel) rfl rfl rfl (rest := []) rfl rfl ?_
      refine t_X1_goBy_70 hP (fun M_6 L_7 hP => ?_)
      show Wp E (d + 1) 5 85 [.ref 70, .ref 3, .int v2, .int v3] [] M_6 L_7 Q
      refine wp_seg (pc' := 74) [.iinc 3 1, .goto 0] (by decide +kernel) (?_ : Wp E (d + 1) 5 74 [.ref 70, .ref 3, .int v2, .int (v3 + Int32.ofInt 1)] [] M_6 L_7 Q)
      exact ih v2 (v3 + Int32.ofInt 1) M_6 L_7 hP
def PL_X1_measure_70_38 (K : Mem → LMem → Prop)  : Nat → Int32 → Int32 → Mem → LMem → Prop
  | 0, _, _, _, _ => False
  | n_ + 1, v2, v3, M, L => (((M 4 4) ≤ v3 → PL_X1_measure_70_74 K 100000 v2 (Int32.ofInt 0) M L) ∧ (¬ ((M 4 4) ≤ v3) → ((((v2 >>> (v3 &&& 31)) &&& (Int32.ofInt 1)) = 0 → ((vp_in v3 12) ∧ ((¬ ((M 7 v3.toNatClampNeg) = (Int32.ofInt 120)) → vp_in (((Int32.ofInt 8) * (M 5 v3.toNatClampNeg)) + (M 6 v3.toNatClampNeg)) 64) ∧ ((¬ ((M 7 v3.toNatClampNeg) = (Int32.ofInt 120)) → ¬ ((M 7 v3.toNatClampNeg) = (Int32.ofInt 62)) → vp_in (((Int32.ofInt 8) * (M 6 v3.toNatClampNeg)) + (M 5 v3.toNatClampNeg)) 64) ∧ PL_X1_measure_70_38 K n_ v2 (v3 + Int32.ofInt 1) (g_X1_layTube_70 M v3) L)))) ∧ (¬ (((v2 >>> (v3 &&& 31)) &&& (Int32.ofInt 1)) = 0) → PL_X1_measure_70_38 K n_ v2 (v3 + Int32.ofInt 1) M L))))
theorem tl_X1_measure_70_38 {E : VE} {d : Nat} {Q : QQ} {K : Mem → LMem → Prop}  (hK : ∀ (M : Mem) (L : LMem), K M L → Q none M L)  : ∀ (n_ : Nat) (v2 : Int32) (v3 : Int32) (M : Mem) (L : LMem), PL_X1_measure_70_38 K n_ v2 v3 M L → Wp E (d + 1) 5 38 [.ref 70, .ref 3, .int v2, .int v3] [] M L Q := by
  intro n_
  induction n_ with
  | zero => intro v2 v3 M L hP; exact False.elim hP
  | succ n_ ih =>
    intro v2 v3 M L hP
    unfold PL_X1_measure_70_38 at hP
    refine wp_seg (pc' := 46) [.iload 3, .aload 1, .getfield 192, .getfield 132] (by decide +kernel) (?_ : Wp E (d + 1) 5 46 [.ref 70, .ref 3, .int v2, .int v3] [.int (M 4 4), .int v3] M L Q)
    refine wp_icmpge (off := 26) 72 (by decide +kernel) (by decide) (fun c_2 => ?_) (fun c_2 => ?_)
    · have hP := hP.1 c_2
      refine wp_seg (pc' := 74) [.iconst 0, .istore 3] (by decide +kernel) (?_ : Wp E (d + 1) 5 74 [.ref 70, .ref 3, .int v2, .int (Int32.ofInt 0)] [] M L Q)
      exact tl_X1_measure_70_74 hK 100000 v2 (Int32.ofInt 0) M L hP
    · have hP := hP.2 c_2
      refine wp_seg (pc' := 54) [.iload 2, .iload 3, .ishr, .iconst 1, .iand] (by decide +kernel) (?_ : Wp E (d + 1) 5 54 [.ref 70, .ref 3, .int v2, .int v3] [.int ((v2 >>> (v3 &&& 31)) &&& (Int32.ofInt 1))] M L Q)
      refine wp_ifne (off := 12) 66 (by decide +kernel) (by decide) (fun c_8 => ?_) (fun c_8 => ?_)
      · have hP := hP.2 c_8
        refine wp_seg (pc' := 38) [.iinc 3 1, .goto 0] (by decide +kernel) (?_ : Wp E (d + 1) 5 38 [.ref 70, .ref 3, .int v2, .int (v3 + Int32.ofInt 1)] [] M L Q)
        exact ih v2 (v3 + Int32.ofInt 1) M L hP
      · have hP := hP.1 c_8
        refine wp_seg (pc' := 63) [.aload 0, .aload 1, .getfield 192, .iload 3] (by decide +kernel) (?_ : Wp E (d + 1) 5 63 [.ref 70, .ref 3, .int v2, .int v3] [.int v3, .ref 4, .ref 70] M L Q)
        refine wp_callV 6 70 [.ref 4, .int v3] (i := 27) (by decide +kernel) (by decide +kernel) (by decide +kernel) (by decide +kernel) rfl rfl rfl (rest := []) rfl rfl ?_
        obtain ⟨a_9, hP⟩ := hP
        obtain ⟨a_10, hP⟩ := hP
        obtain ⟨a_11, hP⟩ := hP
        refine s_X1_layTube_70 M v3 a_9 a_10 a_11 ?_
        show Wp E (d + 1) 5 66 [.ref 70, .ref 3, .int v2, .int v3] [] (g_X1_layTube_70 M v3) L Q
        refine wp_seg (pc' := 38) [.iinc 3 1, .goto 0] (by decide +kernel) (?_ : Wp E (d + 1) 5 38 [.ref 70, .ref 3, .int v2, .int (v3 + Int32.ofInt 1)] [] (g_X1_layTube_70 M v3) L Q)
        exact ih v2 (v3 + Int32.ofInt 1) (g_X1_layTube_70 M v3) L hP
def PL_X1_measure_70_2 (K : Mem → LMem → Prop)  : Nat → Int32 → Int32 → Mem → LMem → Prop
  | 0, _, _, _, _ => False
  | n_ + 1, v2, v3, M, L => (((Int32.ofNat 64) ≤ v3 → PL_X1_measure_70_38 K 100000 v2 (Int32.ofInt 0) M L) ∧ (¬ ((Int32.ofNat 64) ≤ v3) → (((v3 - v3 / (Int32.ofInt 9) * (Int32.ofInt 9)) = 0 → (vp_in v3 64 ∧ PL_X1_measure_70_2 K n_ v2 (v3 + Int32.ofInt 1) (mput M 71 v3.toNatClampNeg (Int32.ofInt 0)) L)) ∧ (¬ ((v3 - v3 / (Int32.ofInt 9) * (Int32.ofInt 9)) = 0) → (vp_in v3 64 ∧ PL_X1_measure_70_2 K n_ v2 (v3 + Int32.ofInt 1) (mput M 71 v3.toNatClampNeg (Int32.ofInt 99)) L)))))
theorem tl_X1_measure_70_2 {E : VE} {d : Nat} {Q : QQ} {K : Mem → LMem → Prop}  (hK : ∀ (M : Mem) (L : LMem), K M L → Q none M L)  : ∀ (n_ : Nat) (v2 : Int32) (v3 : Int32) (M : Mem) (L : LMem), PL_X1_measure_70_2 K n_ v2 v3 M L → Wp E (d + 1) 5 2 [.ref 70, .ref 3, .int v2, .int v3] [] M L Q := by
  intro n_
  induction n_ with
  | zero => intro v2 v3 M L hP; exact False.elim hP
  | succ n_ ih =>
    intro v2 v3 M L hP
    unfold PL_X1_measure_70_2 at hP
    refine wp_seg (pc' := 8) [.iload 3, .aload 0, .getfield 64, .arraylength] (by decide +kernel) (?_ : Wp E (d + 1) 5 8 [.ref 70, .ref 3, .int v2, .int v3] [.int (Int32.ofNat 64), .int v3] M L Q)
    refine wp_icmpge (off := 28) 36 (by decide +kernel) (by decide) (fun c_1 => ?_) (fun c_1 => ?_)
    · have hP := hP.1 c_1
      refine wp_seg (pc' := 38) [.iconst 0, .istore 3] (by decide +kernel) (?_ : Wp E (d + 1) 5 38 [.ref 70, .ref 3, .int v2, .int (Int32.ofInt 0)] [] M L Q)
      exact tl_X1_measure_70_38 hK 100000 v2 (Int32.ofInt 0) M L hP
    · have hP := hP.2 c_1
      refine wp_seg (pc' := 20) [.aload 0, .getfield 64, .iload 3, .iload 3, .iconst 9, .irem] (by decide +kernel) (show ¬ (Int32.ofInt 9) = 0 ∧ Wp E (d + 1) 5 20 [.ref 70, .ref 3, .int v2, .int v3] [.int (v3 - v3 / (Int32.ofInt 9) * (Int32.ofInt 9)), .int v3, .ref 71] M L Q from ⟨(by decide), ?_⟩)
      refine wp_ifne (off := 7) 27 (by decide +kernel) (by decide) (fun c_12 => ?_) (fun c_12 => ?_)
      · have hP := hP.2 c_12
        obtain ⟨a_13, hP⟩ := hP
        refine wp_seg (pc' := 30) [.iconst 99, .iastore] (by decide +kernel) (show aok 71 0 v3 ∧ Wp E (d + 1) 5 30 [.ref 70, .ref 3, .int v2, .int v3] [] (mput M 71 v3.toNatClampNeg (Int32.ofInt 99)) L Q from ⟨⟨rfl, a_13⟩, ?_⟩)
        refine wp_seg (pc' := 2) [.iinc 3 1, .goto 0] (by decide +kernel) (?_ : Wp E (d + 1) 5 2 [.ref 70, .ref 3, .int v2, .int (v3 + Int32.ofInt 1)] [] (mput M 71 v3.toNatClampNeg (Int32.ofInt 99)) L Q)
        exact ih v2 (v3 + Int32.ofInt 1) (mput M 71 v3.toNatClampNeg (Int32.ofInt 99)) L hP
      · have hP := hP.1 c_12
        obtain ⟨a_14, hP⟩ := hP
        refine wp_seg (pc' := 30) [.iconst 0, .goto 0, .iastore] (by decide +kernel) (show aok 71 0 v3 ∧ Wp E (d + 1) 5 30 [.ref 70, .ref 3, .int v2, .int v3] [] (mput M 71 v3.toNatClampNeg (Int32.ofInt 0)) L Q from ⟨⟨rfl, a_14⟩, ?_⟩)
        refine wp_seg (pc' := 2) [.iinc 3 1, .goto 0] (by decide +kernel) (?_ : Wp E (d + 1) 5 2 [.ref 70, .ref 3, .int v2, .int (v3 + Int32.ofInt 1)] [] (mput M 71 v3.toNatClampNeg (Int32.ofInt 0)) L Q)
        exact ih v2 (v3 + Int32.ofInt 1) (mput M 71 v3.toNatClampNeg (Int32.ofInt 0)) L hP
def P_X1_measure_70 (x2 : Int32) (M : Mem) (L : LMem) (K : Mem → LMem → Prop) : Prop := PL_X1_measure_70_2 K 100000 x2 (Int32.ofInt 0) M L
theorem t_X1_measure_70 {E : VE} {d : Nat} {Q : QQ} {K : Mem → LMem → Prop} {x2 : Int32} {M : Mem} {L : LMem} (hP : P_X1_measure_70 x2 M L K) (hK : ∀ (M : Mem) (L : LMem), K M L → Q none M L) : Wp E (d + 1) 5 0 [.ref 70, .ref 3, .int x2, .null] [] M L Q := by
  unfold P_X1_measure_70 at hP
  refine wp_seg (pc' := 2) [.iconst 0, .istore 3] (by decide +kernel) (?_ : Wp E (d + 1) 5 2 [.ref 70, .ref 3, .int x2, .int (Int32.ofInt 0)] [] M L Q)
  exact tl_X1_measure_70_2 hK 100000 x2 (Int32.ofInt 0) M L hP

def PL_X1_goBy_72_10 (K : Mem → LMem → Prop) (C_2 : Int32 → Int32 → Mem → LMem → Prop) : Nat → Int32 → Int32 → Int32 → Mem → LMem → Prop
  | 0, _, _, _, _, _ => False
  | n_ + 1, v1, v2, v3, M, L => (((Int32.ofInt 8) ≤ v3 → C_2 v1 (v2 + Int32.ofInt 1) M L) ∧ (¬ ((Int32.ofInt 8) ≤ v3) → (vp_in (((Int32.ofInt 8) * v2) + v1) 64 ∧ (vp_in (((Int32.ofInt 8) * v1) + v3) 64 ∧ (vp_in (((Int32.ofInt 8) * v2) + v3) 64 ∧ PL_X1_goBy_72_10 K C_2 n_ v1 v2 (v3 + Int32.ofInt 1) (mput M 73 ((((Int32.ofInt 8) * v2) + v3).toNatClampNeg) (if ((M 73 ((((Int32.ofInt 8) * v2) + v1).toNatClampNeg)) + (M 73 ((((Int32.ofInt 8) * v1) + v3).toNatClampNeg))) < (M 73 ((((Int32.ofInt 8) * v2) + v3).toNatClampNeg)) then ((M 73 ((((Int32.ofInt 8) * v2) + v1).toNatClampNeg)) + (M 73 ((((Int32.ofInt 8) * v1) + v3).toNatClampNeg))) else (M 73 ((((Int32.ofInt 8) * v2) + v3).toNatClampNeg)))) L)))))
theorem tl_X1_goBy_72_10 {E : VE} {d : Nat} {Q : QQ} {K : Mem → LMem → Prop} {C_2 : Int32 → Int32 → Mem → LMem → Prop} (hK : ∀ (M : Mem) (L : LMem), K M L → Q none M L) (hC_2 : ∀ (v1 : Int32) (v2 : Int32) (M : Mem) (L : LMem), C_2 v1 v2 M L → Wp E d 7 2 [.ref 72, .int v1, .int v2, .null, .null] [] M L Q) : ∀ (n_ : Nat) (v1 : Int32) (v2 : Int32) (v3 : Int32) (M : Mem) (L : LMem), PL_X1_goBy_72_10 K C_2 n_ v1 v2 v3 M L → Wp E d 7 10 [.ref 72, .int v1, .int v2, .int v3, .null] [] M L Q := by
  intro n_
  induction n_ with
  | zero => intro v1 v2 v3 M L hP; exact False.elim hP
  | succ n_ ih =>
    intro v1 v2 v3 M L hP
    unfold PL_X1_goBy_72_10 at hP
    refine wp_seg (pc' := 13) [.iload 3, .iconst 8] (by decide +kernel) (?_ : Wp E d 7 13 [.ref 72, .int v1, .int v2, .int v3, .null] [.int (Int32.ofInt 8), .int v3] M L Q)
    refine wp_icmpge (off := 61) 74 (by decide +kernel) (by decide) (fun c_2 => ?_) (fun c_2 => ?_)
    · have hP := hP.1 c_2
      refine wp_seg (pc' := 2) [.iinc 2 1, .goto 0] (by decide +kernel) (?_ : Wp E d 7 2 [.ref 72, .int v1, .int (v2 + Int32.ofInt 1), .int v3, .null] [] M L Q)
      refine wp_drop (lo := [.ref 72, .int v1, .int (v2 + Int32.ofInt 1), .null, .null]) ⟨Or.inr rfl, Or.inr rfl, Or.inr rfl, Or.inl rfl, Or.inl rfl, trivial⟩ ?_
      exact hC_2 v1 (v2 + Int32.ofInt 1) M L hP
    · have hP := hP.2 c_2
      obtain ⟨a_3, hP⟩ := hP
      refine wp_seg (pc' := 27) [.aload 0, .getfield 64, .iconst 8, .iload 2, .imul, .iload 1, .iadd, .iaload] (by decide +kernel) (show aok 73 0 (((Int32.ofInt 8) * v2) + v1) ∧ Wp E d 7 27 [.ref 72, .int v1, .int v2, .int v3, .null] [.int (M 73 ((((Int32.ofInt 8) * v2) + v1).toNatClampNeg))] M L Q from ⟨⟨rfl, a_3⟩, ?_⟩)
      obtain ⟨a_4, hP⟩ := hP
      refine wp_seg (pc' := 38) [.aload 0, .getfield 64, .iconst 8, .iload 1, .imul, .iload 3, .iadd, .iaload] (by decide +kernel) (show aok 73 0 (((Int32.ofInt 8) * v1) + v3) ∧ Wp E d 7 38 [.ref 72, .int v1, .int v2, .int v3, .null] [.int (M 73 ((((Int32.ofInt 8) * v1) + v3).toNatClampNeg)), .int (M 73 ((((Int32.ofInt 8) * v2) + v1).toNatClampNeg))] M L Q from ⟨⟨rfl, a_4⟩, ?_⟩)
      obtain ⟨a_5, hP⟩ := hP
      refine wp_seg (pc' := 62) [.iadd, .istore 4, .aload 0, .getfield 64, .iconst 8, .iload 2, .imul, .iload 3, .iadd, .aload 0, .getfield 64, .iconst 8, .iload 2, .imul, .iload 3, .iadd, .iaload] (by decide +kernel) (show aok 73 0 (((Int32.ofInt 8) * v2) + v3) ∧ Wp E d 7 62 [.ref 72, .int v1, .int v2, .int v3, .int ((M 73 ((((Int32.ofInt 8) * v2) + v1).toNatClampNeg)) + (M 73 ((((Int32.ofInt 8) * v1) + v3).toNatClampNeg)))] [.int (M 73 ((((Int32.ofInt 8) * v2) + v3).toNatClampNeg)), .int (((Int32.ofInt 8) * v2) + v3), .ref 73] M L Q from ⟨⟨rfl, a_5⟩, ?_⟩)
      refine wp_seg (pc' := 67) [.iload 4, .invokestatic 1] (by decide +kernel) (?_ : Wp E d 7 67 [.ref 72, .int v1, .int v2, .int v3, .int ((M 73 ((((Int32.ofInt 8) * v2) + v1).toNatClampNeg)) + (M 73 ((((Int32.ofInt 8) * v1) + v3).toNatClampNeg)))] [.int (if ((M 73 ((((Int32.ofInt 8) * v2) + v1).toNatClampNeg)) + (M 73 ((((Int32.ofInt 8) * v1) + v3).toNatClampNeg))) < (M 73 ((((Int32.ofInt 8) * v2) + v3).toNatClampNeg)) then ((M 73 ((((Int32.ofInt 8) * v2) + v1).toNatClampNeg)) + (M 73 ((((Int32.ofInt 8) * v1) + v3).toNatClampNeg))) else (M 73 ((((Int32.ofInt 8) * v2) + v3).toNatClampNeg))), .int (((Int32.ofInt 8) * v2) + v3), .ref 73] M L Q)
      refine wp_seg (pc' := 68) [.iastore] (by decide +kernel) (show aok 73 0 (((Int32.ofInt 8) * v2) + v3) ∧ Wp E d 7 68 [.ref 72, .int v1, .int v2, .int v3, .int ((M 73 ((((Int32.ofInt 8) * v2) + v1).toNatClampNeg)) + (M 73 ((((Int32.ofInt 8) * v1) + v3).toNatClampNeg)))] [] (mput M 73 ((((Int32.ofInt 8) * v2) + v3).toNatClampNeg) (if ((M 73 ((((Int32.ofInt 8) * v2) + v1).toNatClampNeg)) + (M 73 ((((Int32.ofInt 8) * v1) + v3).toNatClampNeg))) < (M 73 ((((Int32.ofInt 8) * v2) + v3).toNatClampNeg)) then ((M 73 ((((Int32.ofInt 8) * v2) + v1).toNatClampNeg)) + (M 73 ((((Int32.ofInt 8) * v1) + v3).toNatClampNeg))) else (M 73 ((((Int32.ofInt 8) * v2) + v3).toNatClampNeg)))) L Q from ⟨⟨rfl, a_5⟩, ?_⟩)
      refine wp_seg (pc' := 10) [.iinc 3 1, .goto 0] (by decide +kernel) (?_ : Wp E d 7 10 [.ref 72, .int v1, .int v2, .int (v3 + Int32.ofInt 1), .int ((M 73 ((((Int32.ofInt 8) * v2) + v1).toNatClampNeg)) + (M 73 ((((Int32.ofInt 8) * v1) + v3).toNatClampNeg)))] [] (mput M 73 ((((Int32.ofInt 8) * v2) + v3).toNatClampNeg) (if ((M 73 ((((Int32.ofInt 8) * v2) + v1).toNatClampNeg)) + (M 73 ((((Int32.ofInt 8) * v1) + v3).toNatClampNeg))) < (M 73 ((((Int32.ofInt 8) * v2) + v3).toNatClampNeg)) then ((M 73 ((((Int32.ofInt 8) * v2) + v1).toNatClampNeg)) + (M 73 ((((Int32.ofInt 8) * v1) + v3).toNatClampNeg))) else (M 73 ((((Int32.ofInt 8) * v2) + v3).toNatClampNeg)))) L Q)
      refine wp_drop (lo := [.ref 72, .int v1, .int v2, .int (v3 + Int32.ofInt 1), .null]) ⟨Or.inr rfl, Or.inr rfl, Or.inr rfl, Or.inr rfl, Or.inl rfl, trivial⟩ ?_
      exact ih v1 v2 (v3 + Int32.ofInt 1) (mput M 73 ((((Int32.ofInt 8) * v2) + v3).toNatClampNeg) (if ((M 73 ((((Int32.ofInt 8) * v2) + v1).toNatClampNeg)) + (M 73 ((((Int32.ofInt 8) * v1) + v3).toNatClampNeg))) < (M 73 ((((Int32.ofInt 8) * v2) + v3).toNatClampNeg)) then ((M 73 ((((Int32.ofInt 8) * v2) + v1).toNatClampNeg)) + (M 73 ((((Int32.ofInt 8) * v1) + v3).toNatClampNeg))) else (M 73 ((((Int32.ofInt 8) * v2) + v3).toNatClampNeg)))) L hP
def PL_X1_goBy_72_2 (K : Mem → LMem → Prop)  : Nat → Int32 → Int32 → Mem → LMem → Prop
  | 0, _, _, _, _ => False
  | n_ + 1, v1, v2, M, L => (((Int32.ofInt 8) ≤ v2 → K M L) ∧ (¬ ((Int32.ofInt 8) ≤ v2) → PL_X1_goBy_72_10 K (PL_X1_goBy_72_2 K n_) 100000 v1 v2 (Int32.ofInt 0) M L))
theorem tl_X1_goBy_72_2 {E : VE} {d : Nat} {Q : QQ} {K : Mem → LMem → Prop}  (hK : ∀ (M : Mem) (L : LMem), K M L → Q none M L)  : ∀ (n_ : Nat) (v1 : Int32) (v2 : Int32) (M : Mem) (L : LMem), PL_X1_goBy_72_2 K n_ v1 v2 M L → Wp E d 7 2 [.ref 72, .int v1, .int v2, .null, .null] [] M L Q := by
  intro n_
  induction n_ with
  | zero => intro v1 v2 M L hP; exact False.elim hP
  | succ n_ ih =>
    intro v1 v2 M L hP
    unfold PL_X1_goBy_72_2 at hP
    refine wp_seg (pc' := 5) [.iload 2, .iconst 8] (by decide +kernel) (?_ : Wp E d 7 5 [.ref 72, .int v1, .int v2, .null, .null] [.int (Int32.ofInt 8), .int v2] M L Q)
    refine wp_icmpge (off := 75) 80 (by decide +kernel) (by decide) (fun c_1 => ?_) (fun c_1 => ?_)
    · have hP := hP.1 c_1
      exact wp_vret (by decide +kernel) rfl (hK _ _ hP)
    · have hP := hP.2 c_1
      refine wp_seg (pc' := 10) [.iconst 0, .istore 3] (by decide +kernel) (?_ : Wp E d 7 10 [.ref 72, .int v1, .int v2, .int (Int32.ofInt 0), .null] [] M L Q)
      exact tl_X1_goBy_72_10 hK (fun v1 v2 M L hP => ih v1 v2 M L hP) 100000 v1 v2 (Int32.ofInt 0) M L hP
def P_X1_goBy_72 (x1 : Int32) (M : Mem) (L : LMem) (K : Mem → LMem → Prop) : Prop := PL_X1_goBy_72_2 K 100000 x1 (Int32.ofInt 0) M L
theorem t_X1_goBy_72 {E : VE} {d : Nat} {Q : QQ} {K : Mem → LMem → Prop} {x1 : Int32} {M : Mem} {L : LMem} (hP : P_X1_goBy_72 x1 M L K) (hK : ∀ (M : Mem) (L : LMem), K M L → Q none M L) : Wp E d 7 0 [.ref 72, .int x1, .null, .null, .null] [] M L Q := by
  unfold P_X1_goBy_72 at hP
  refine wp_seg (pc' := 2) [.iconst 0, .istore 2] (by decide +kernel) (?_ : Wp E d 7 2 [.ref 72, .int x1, .int (Int32.ofInt 0), .null, .null] [] M L Q)
  exact tl_X1_goBy_72_2 hK 100000 x1 (Int32.ofInt 0) M L hP

def PL_X1_measure_72_93 (K : Mem → LMem → Prop)  : Nat → Int32 → Int32 → Mem → LMem → Prop
  | 0, _, _, _, _ => False
  | n_ + 1, v2, v3, M, L => (((Int32.ofNat 64) ≤ v3 → K M L) ∧ (¬ ((Int32.ofNat 64) ≤ v3) → (vp_in v3 64 ∧ PL_X1_measure_72_93 K n_ v2 (v3 + Int32.ofInt 1) (mput M 73 v3.toNatClampNeg (f_X1_carried M (M 73 v3.toNatClampNeg) (M 3 1))) L)))
theorem tl_X1_measure_72_93 {E : VE} {d : Nat} {Q : QQ} {K : Mem → LMem → Prop}  (hK : ∀ (M : Mem) (L : LMem), K M L → Q none M L)  : ∀ (n_ : Nat) (v2 : Int32) (v3 : Int32) (M : Mem) (L : LMem), PL_X1_measure_72_93 K n_ v2 v3 M L → Wp E (d + 1) 5 93 [.ref 72, .ref 3, .int v2, .int v3] [] M L Q := by
  intro n_
  induction n_ with
  | zero => intro v2 v3 M L hP; exact False.elim hP
  | succ n_ ih =>
    intro v2 v3 M L hP
    unfold PL_X1_measure_72_93 at hP
    refine wp_seg (pc' := 99) [.iload 3, .aload 0, .getfield 64, .arraylength] (by decide +kernel) (?_ : Wp E (d + 1) 5 99 [.ref 72, .ref 3, .int v2, .int v3] [.int (Int32.ofNat 64), .int v3] M L Q)
    refine wp_icmpge (off := 28) 127 (by decide +kernel) (by decide) (fun c_4 => ?_) (fun c_4 => ?_)
    · have hP := hP.1 c_4
      exact wp_vret (by decide +kernel) rfl (hK _ _ hP)
    · have hP := hP.2 c_4
      obtain ⟨a_5, hP⟩ := hP
      refine wp_seg (pc' := 113) [.aload 0, .getfield 64, .iload 3, .aload 0, .getfield 64, .iload 3, .iaload] (by decide +kernel) (show aok 73 0 v3 ∧ Wp E (d + 1) 5 113 [.ref 72, .ref 3, .int v2, .int v3] [.int (M 73 v3.toNatClampNeg), .int v3, .ref 73] M L Q from ⟨⟨rfl, a_5⟩, ?_⟩)
      refine wp_seg (pc' := 117) [.aload 1, .getfield 193] (by decide +kernel) (?_ : Wp E (d + 1) 5 117 [.ref 72, .ref 3, .int v2, .int v3] [.int (M 3 1), .int (M 73 v3.toNatClampNeg), .int v3, .ref 73] M L Q)
      refine wp_callS 8 [.int (M 73 v3.toNatClampNeg), .int (M 3 1)] (i := 38) (by decide +kernel) (by decide +kernel) (by decide +kernel) rfl rfl rfl (rest := [.int v3, .ref 73]) rfl rfl ?_
      refine s_X1_carried M (M 73 v3.toNatClampNeg) (M 3 1)  ?_
      show Wp E (d + 1) 5 120 [.ref 72, .ref 3, .int v2, .int v3] [.int (f_X1_carried M (M 73 v3.toNatClampNeg) (M 3 1)), .int v3, .ref 73] M L Q
      refine wp_seg (pc' := 121) [.iastore] (by decide +kernel) (show aok 73 0 v3 ∧ Wp E (d + 1) 5 121 [.ref 72, .ref 3, .int v2, .int v3] [] (mput M 73 v3.toNatClampNeg (f_X1_carried M (M 73 v3.toNatClampNeg) (M 3 1))) L Q from ⟨⟨rfl, a_5⟩, ?_⟩)
      refine wp_seg (pc' := 93) [.iinc 3 1, .goto 0] (by decide +kernel) (?_ : Wp E (d + 1) 5 93 [.ref 72, .ref 3, .int v2, .int (v3 + Int32.ofInt 1)] [] (mput M 73 v3.toNatClampNeg (f_X1_carried M (M 73 v3.toNatClampNeg) (M 3 1))) L Q)
      exact ih v2 (v3 + Int32.ofInt 1) (mput M 73 v3.toNatClampNeg (f_X1_carried M (M 73 v3.toNatClampNeg) (M 3 1))) L hP
def PL_X1_measure_72_74 (K : Mem → LMem → Prop)  : Nat → Int32 → Int32 → Mem → LMem → Prop
  | 0, _, _, _, _ => False
  | n_ + 1, v2, v3, M, L => (((Int32.ofInt 8) ≤ v3 → PL_X1_measure_72_93 K 100000 v2 (Int32.ofInt 0) M L) ∧ (¬ ((Int32.ofInt 8) ≤ v3) → P_X1_goBy_72 v3 M L (fun M_6 L_7 => PL_X1_measure_72_74 K n_ v2 (v3 + Int32.ofInt 1) M_6 L_7)))
theorem tl_X1_measure_72_74 {E : VE} {d : Nat} {Q : QQ} {K : Mem → LMem → Prop}  (hK : ∀ (M : Mem) (L : LMem), K M L → Q none M L)  : ∀ (n_ : Nat) (v2 : Int32) (v3 : Int32) (M : Mem) (L : LMem), PL_X1_measure_72_74 K n_ v2 v3 M L → Wp E (d + 1) 5 74 [.ref 72, .ref 3, .int v2, .int v3] [] M L Q := by
  intro n_
  induction n_ with
  | zero => intro v2 v3 M L hP; exact False.elim hP
  | succ n_ ih =>
    intro v2 v3 M L hP
    unfold PL_X1_measure_72_74 at hP
    refine wp_seg (pc' := 77) [.iload 3, .iconst 8] (by decide +kernel) (?_ : Wp E (d + 1) 5 77 [.ref 72, .ref 3, .int v2, .int v3] [.int (Int32.ofInt 8), .int v3] M L Q)
    refine wp_icmpge (off := 14) 91 (by decide +kernel) (by decide) (fun c_3 => ?_) (fun c_3 => ?_)
    · have hP := hP.1 c_3
      refine wp_seg (pc' := 93) [.iconst 0, .istore 3] (by decide +kernel) (?_ : Wp E (d + 1) 5 93 [.ref 72, .ref 3, .int v2, .int (Int32.ofInt 0)] [] M L Q)
      exact tl_X1_measure_72_93 hK 100000 v2 (Int32.ofInt 0) M L hP
    · have hP := hP.2 c_3
      refine wp_seg (pc' := 82) [.aload 0, .iload 3] (by decide +kernel) (?_ : Wp E (d + 1) 5 82 [.ref 72, .ref 3, .int v2, .int v3] [.int v3, .ref 72] M L Q)
      refine wp_callV 7 72 [.int v3] (i := 31) (by decide +kernel) (by decide +kernel) (by decide +kernel) (by decide +kernel) rfl rfl rfl (rest := []) rfl rfl ?_
      refine t_X1_goBy_72 hP (fun M_6 L_7 hP => ?_)
      show Wp E (d + 1) 5 85 [.ref 72, .ref 3, .int v2, .int v3] [] M_6 L_7 Q
      refine wp_seg (pc' := 74) [.iinc 3 1, .goto 0] (by decide +kernel) (?_ : Wp E (d + 1) 5 74 [.ref 72, .ref 3, .int v2, .int (v3 + Int32.ofInt 1)] [] M_6 L_7 Q)
      exact ih v2 (v3 + Int32.ofInt 1) M_6 L_7 hP
def PL_X1_measure_72_38 (K : Mem → LMem → Prop)  : Nat → Int32 → Int32 → Mem → LMem → Prop
  | 0, _, _, _, _ => False
  | n_ + 1, v2, v3, M, L => (((M 4 4) ≤ v3 → PL_X1_measure_72_74 K 100000 v2 (Int32.ofInt 0) M L) ∧ (¬ ((M 4 4) ≤ v3) → ((((v2 >>> (v3 &&& 31)) &&& (Int32.ofInt 1)) = 0 → ((vp_in v3 12) ∧ ((¬ ((M 7 v3.toNatClampNeg) = (Int32.ofInt 120)) → vp_in (((Int32.ofInt 8) * (M 5 v3.toNatClampNeg)) + (M 6 v3.toNatClampNeg)) 64) ∧ ((¬ ((M 7 v3.toNatClampNeg) = (Int32.ofInt 120)) → ¬ ((M 7 v3.toNatClampNeg) = (Int32.ofInt 62)) → vp_in (((Int32.ofInt 8) * (M 6 v3.toNatClampNeg)) + (M 5 v3.toNatClampNeg)) 64) ∧ PL_X1_measure_72_38 K n_ v2 (v3 + Int32.ofInt 1) (g_X1_layTube_72 M v3) L)))) ∧ (¬ (((v2 >>> (v3 &&& 31)) &&& (Int32.ofInt 1)) = 0) → PL_X1_measure_72_38 K n_ v2 (v3 + Int32.ofInt 1) M L))))
theorem tl_X1_measure_72_38 {E : VE} {d : Nat} {Q : QQ} {K : Mem → LMem → Prop}  (hK : ∀ (M : Mem) (L : LMem), K M L → Q none M L)  : ∀ (n_ : Nat) (v2 : Int32) (v3 : Int32) (M : Mem) (L : LMem), PL_X1_measure_72_38 K n_ v2 v3 M L → Wp E (d + 1) 5 38 [.ref 72, .ref 3, .int v2, .int v3] [] M L Q := by
  intro n_
  induction n_ with
  | zero => intro v2 v3 M L hP; exact False.elim hP
  | succ n_ ih =>
    intro v2 v3 M L hP
    unfold PL_X1_measure_72_38 at hP
    refine wp_seg (pc' := 46) [.iload 3, .aload 1, .getfield 192, .getfield 132] (by decide +kernel) (?_ : Wp E (d + 1) 5 46 [.ref 72, .ref 3, .int v2, .int v3] [.int (M 4 4), .int v3] M L Q)
    refine wp_icmpge (off := 26) 72 (by decide +kernel) (by decide) (fun c_2 => ?_) (fun c_2 => ?_)
    · have hP := hP.1 c_2
      refine wp_seg (pc' := 74) [.iconst 0, .istore 3] (by decide +kernel) (?_ : Wp E (d + 1) 5 74 [.ref 72, .ref 3, .int v2, .int (Int32.ofInt 0)] [] M L Q)
      exact tl_X1_measure_72_74 hK 100000 v2 (Int32.ofInt 0) M L hP
    · have hP := hP.2 c_2
      refine wp_seg (pc' := 54) [.iload 2, .iload 3, .ishr, .iconst 1, .iand] (by decide +kernel) (?_ : Wp E (d + 1) 5 54 [.ref 72, .ref 3, .int v2, .int v3] [.int ((v2 >>> (v3 &&& 31)) &&& (Int32.ofInt 1))] M L Q)
      refine wp_ifne (off := 12) 66 (by decide +kernel) (by decide) (fun c_8 => ?_) (fun c_8 => ?_)
      · have hP := hP.2 c_8
        refine wp_seg (pc' := 38) [.iinc 3 1, .goto 0] (by decide +kernel) (?_ : Wp E (d + 1) 5 38 [.ref 72, .ref 3, .int v2, .int (v3 + Int32.ofInt 1)] [] M L Q)
        exact ih v2 (v3 + Int32.ofInt 1) M L hP
      · have hP := hP.1 c_8
        refine wp_seg (pc' := 63) [.aload 0, .aload 1, .getfield 192, .iload 3] (by decide +kernel) (?_ : Wp E (d + 1) 5 63 [.ref 72, .ref 3, .int v2, .int v3] [.int v3, .ref 4, .ref 72] M L Q)
        refine wp_callV 6 72 [.ref 4, .int v3] (i := 27) (by decide +kernel) (by decide +kernel) (by decide +kernel) (by decide +kernel) rfl rfl rfl (rest := []) rfl rfl ?_
        obtain ⟨a_9, hP⟩ := hP
        obtain ⟨a_10, hP⟩ := hP
        obtain ⟨a_11, hP⟩ := hP
        refine s_X1_layTube_72 M v3 a_9 a_10 a_11 ?_
        show Wp E (d + 1) 5 66 [.ref 72, .ref 3, .int v2, .int v3] [] (g_X1_layTube_72 M v3) L Q
        refine wp_seg (pc' := 38) [.iinc 3 1, .goto 0] (by decide +kernel) (?_ : Wp E (d + 1) 5 38 [.ref 72, .ref 3, .int v2, .int (v3 + Int32.ofInt 1)] [] (g_X1_layTube_72 M v3) L Q)
        exact ih v2 (v3 + Int32.ofInt 1) (g_X1_layTube_72 M v3) L hP
def PL_X1_measure_72_2 (K : Mem → LMem → Prop)  : Nat → Int32 → Int32 → Mem → LMem → Prop
  | 0, _, _, _, _ => False
  | n_ + 1, v2, v3, M, L => (((Int32.ofNat 64) ≤ v3 → PL_X1_measure_72_38 K 100000 v2 (Int32.ofInt 0) M L) ∧ (¬ ((Int32.ofNat 64) ≤ v3) → (((v3 - v3 / (Int32.ofInt 9) * (Int32.ofInt 9)) = 0 → (vp_in v3 64 ∧ PL_X1_measure_72_2 K n_ v2 (v3 + Int32.ofInt 1) (mput M 73 v3.toNatClampNeg (Int32.ofInt 0)) L)) ∧ (¬ ((v3 - v3 / (Int32.ofInt 9) * (Int32.ofInt 9)) = 0) → (vp_in v3 64 ∧ PL_X1_measure_72_2 K n_ v2 (v3 + Int32.ofInt 1) (mput M 73 v3.toNatClampNeg (Int32.ofInt 99)) L)))))
theorem tl_X1_measure_72_2 {E : VE} {d : Nat} {Q : QQ} {K : Mem → LMem → Prop}  (hK : ∀ (M : Mem) (L : LMem), K M L → Q none M L)  : ∀ (n_ : Nat) (v2 : Int32) (v3 : Int32) (M : Mem) (L : LMem), PL_X1_measure_72_2 K n_ v2 v3 M L → Wp E (d + 1) 5 2 [.ref 72, .ref 3, .int v2, .int v3] [] M L Q := by
  intro n_
  induction n_ with
  | zero => intro v2 v3 M L hP; exact False.elim hP
  | succ n_ ih =>
    intro v2 v3 M L hP
    unfold PL_X1_measure_72_2 at hP
    refine wp_seg (pc' := 8) [.iload 3, .aload 0, .getfield 64, .arraylength] (by decide +kernel) (?_ : Wp E (d + 1) 5 8 [.ref 72, .ref 3, .int v2, .int v3] [.int (Int32.ofNat 64), .int v3] M L Q)
    refine wp_icmpge (off := 28) 36 (by decide +kernel) (by decide) (fun c_1 => ?_) (fun c_1 => ?_)
    · have hP := hP.1 c_1
      refine wp_seg (pc' := 38) [.iconst 0, .istore 3] (by decide +kernel) (?_ : Wp E (d + 1) 5 38 [.ref 72, .ref 3, .int v2, .int (Int32.ofInt 0)] [] M L Q)
      exact tl_X1_measure_72_38 hK 100000 v2 (Int32.ofInt 0) M L hP
    · have hP := hP.2 c_1
      refine wp_seg (pc' := 20) [.aload 0, .getfield 64, .iload 3, .iload 3, .iconst 9, .irem] (by decide +kernel) (show ¬ (Int32.ofInt 9) = 0 ∧ Wp E (d + 1) 5 20 [.ref 72, .ref 3, .int v2, .int v3] [.int (v3 - v3 / (Int32.ofInt 9) * (Int32.ofInt 9)), .int v3, .ref 73] M L Q from ⟨(by decide), ?_⟩)
      refine wp_ifne (off := 7) 27 (by decide +kernel) (by decide) (fun c_12 => ?_) (fun c_12 => ?_)
      · have hP := hP.2 c_12
        obtain ⟨a_13, hP⟩ := hP
        refine wp_seg (pc' := 30) [.iconst 99, .iastore] (by decide +kernel) (show aok 73 0 v3 ∧ Wp E (d + 1) 5 30 [.ref 72, .ref 3, .int v2, .int v3] [] (mput M 73 v3.toNatClampNeg (Int32.ofInt 99)) L Q from ⟨⟨rfl, a_13⟩, ?_⟩)
        refine wp_seg (pc' := 2) [.iinc 3 1, .goto 0] (by decide +kernel) (?_ : Wp E (d + 1) 5 2 [.ref 72, .ref 3, .int v2, .int (v3 + Int32.ofInt 1)] [] (mput M 73 v3.toNatClampNeg (Int32.ofInt 99)) L Q)
        exact ih v2 (v3 + Int32.ofInt 1) (mput M 73 v3.toNatClampNeg (Int32.ofInt 99)) L hP
      · have hP := hP.1 c_12
        obtain ⟨a_14, hP⟩ := hP
        refine wp_seg (pc' := 30) [.iconst 0, .goto 0, .iastore] (by decide +kernel) (show aok 73 0 v3 ∧ Wp E (d + 1) 5 30 [.ref 72, .ref 3, .int v2, .int v3] [] (mput M 73 v3.toNatClampNeg (Int32.ofInt 0)) L Q from ⟨⟨rfl, a_14⟩, ?_⟩)
        refine wp_seg (pc' := 2) [.iinc 3 1, .goto 0] (by decide +kernel) (?_ : Wp E (d + 1) 5 2 [.ref 72, .ref 3, .int v2, .int (v3 + Int32.ofInt 1)] [] (mput M 73 v3.toNatClampNeg (Int32.ofInt 0)) L Q)
        exact ih v2 (v3 + Int32.ofInt 1) (mput M 73 v3.toNatClampNeg (Int32.ofInt 0)) L hP
def P_X1_measure_72 (x2 : Int32) (M : Mem) (L : LMem) (K : Mem → LMem → Prop) : Prop := PL_X1_measure_72_2 K 100000 x2 (Int32.ofInt 0) M L
theorem t_X1_measure_72 {E : VE} {d : Nat} {Q : QQ} {K : Mem → LMem → Prop} {x2 : Int32} {M : Mem} {L : LMem} (hP : P_X1_measure_72 x2 M L K) (hK : ∀ (M : Mem) (L : LMem), K M L → Q none M L) : Wp E (d + 1) 5 0 [.ref 72, .ref 3, .int x2, .null] [] M L Q := by
  unfold P_X1_measure_72 at hP
  refine wp_seg (pc' := 2) [.iconst 0, .istore 3] (by decide +kernel) (?_ : Wp E (d + 1) 5 2 [.ref 72, .ref 3, .int x2, .int (Int32.ofInt 0)] [] M L Q)
  exact tl_X1_measure_72_2 hK 100000 x2 (Int32.ofInt 0) M L hP

def PL_X1_sum_13 (K : Int32 → Mem → LMem → Prop)  : Nat → Int32 → Int32 → Int32 → Mem → LMem → Prop
  | 0, _, _, _, _, _ => False
  | n_ + 1, v1, v3, v4, M, L => ((v3 ≤ v4 → K v1 M L) ∧ (¬ (v3 ≤ v4) → (vp_in v4 64 ∧ PL_X1_sum_13 K n_ (v1 + (M 71 v4.toNatClampNeg)) v3 (v4 + Int32.ofInt 1) M L)))
theorem tl_X1_sum_13 {E : VE} {d : Nat} {Q : QQ} {K : Int32 → Mem → LMem → Prop}  (hK : ∀ (v : Int32) (M : Mem) (L : LMem), K v M L → Q (some (.int v)) M L)  : ∀ (n_ : Nat) (v1 : Int32) (v3 : Int32) (v4 : Int32) (M : Mem) (L : LMem), PL_X1_sum_13 K n_ v1 v3 v4 M L → Wp E d 9 13 [.ref 70, .int v1, .ref 71, .int v3, .int v4, .null] [] M L Q := by
  intro n_
  induction n_ with
  | zero => intro v1 v3 v4 M L hP; exact False.elim hP
  | succ n_ ih =>
    intro v1 v3 v4 M L hP
    unfold PL_X1_sum_13 at hP
    refine wp_seg (pc' := 16) [.iload 4, .iload 3] (by decide +kernel) (?_ : Wp E d 9 16 [.ref 70, .int v1, .ref 71, .int v3, .int v4, .null] [.int v3, .int v4] M L Q)
    refine wp_icmpge (off := 20) 36 (by decide +kernel) (by decide) (fun c_1 => ?_) (fun c_1 => ?_)
    · have hP := hP.1 c_1
      refine wp_seg (pc' := 37) [.iload 1] (by decide +kernel) (?_ : Wp E d 9 37 [.ref 70, .int v1, .ref 71, .int v3, .int v4, .null] [.int v1] M L Q)
      exact wp_iret (by decide +kernel) rfl (hK _ _ _ hP)
    · have hP := hP.2 c_1
      obtain ⟨a_2, hP⟩ := hP
      refine wp_seg (pc' := 23) [.aload 2, .iload 4, .iaload] (by decide +kernel) (show aok 71 0 v4 ∧ Wp E d 9 23 [.ref 70, .int v1, .ref 71, .int v3, .int v4, .null] [.int (M 71 v4.toNatClampNeg)] M L Q from ⟨⟨rfl, a_2⟩, ?_⟩)
      refine wp_seg (pc' := 13) [.istore 5, .iload 1, .iload 5, .iadd, .istore 1, .iinc 4 1, .goto 0] (by decide +kernel) (?_ : Wp E d 9 13 [.ref 70, .int (v1 + (M 71 v4.toNatClampNeg)), .ref 71, .int v3, .int (v4 + Int32.ofInt 1), .int (M 71 v4.toNatClampNeg)] [] M L Q)
      refine wp_drop (lo := [.ref 70, .int (v1 + (M 71 v4.toNatClampNeg)), .ref 71, .int v3, .int (v4 + Int32.ofInt 1), .null]) ⟨Or.inr rfl, Or.inr rfl, Or.inr rfl, Or.inr rfl, Or.inr rfl, Or.inl rfl, trivial⟩ ?_
      exact ih (v1 + (M 71 v4.toNatClampNeg)) v3 (v4 + Int32.ofInt 1) M L hP
def P_X1_sum (M : Mem) (L : LMem) (K : Int32 → Mem → LMem → Prop) : Prop := PL_X1_sum_13 K 100000 (Int32.ofInt 0) (Int32.ofNat 64) (Int32.ofInt 0) M L
theorem t_X1_sum {E : VE} {d : Nat} {Q : QQ} {K : Int32 → Mem → LMem → Prop} {M : Mem} {L : LMem} (hP : P_X1_sum M L K) (hK : ∀ (v : Int32) (M : Mem) (L : LMem), K v M L → Q (some (.int v)) M L) : Wp E d 9 0 [.ref 70, .null, .null, .null, .null, .null] [] M L Q := by
  unfold P_X1_sum at hP
  refine wp_seg (pc' := 13) [.iconst 0, .istore 1, .aload 0, .getfield 64, .astore 2, .aload 2, .arraylength, .istore 3, .iconst 0, .istore 4] (by decide +kernel) (?_ : Wp E d 9 13 [.ref 70, .int (Int32.ofInt 0), .ref 71, .int (Int32.ofNat 64), .int (Int32.ofInt 0), .null] [] M L Q)
  exact tl_X1_sum_13 hK 100000 (Int32.ofInt 0) (Int32.ofNat 64) (Int32.ofInt 0) M L hP

def PL_X1_sumWith_48 (K : Int32 → Mem → LMem → Prop) (C_6 : Int32 → Int32 → Int32 → Int32 → Int32 → Int32 → Mem → LMem → Prop) : Nat → Int32 → Int32 → Int32 → Int32 → Int32 → Int32 → Int32 → Int32 → Int32 → Mem → LMem → Prop
  | 0, _, _, _, _, _, _, _, _, _, _, _ => False
  | n_ + 1, v1, v2, v3, v4, v5, v6, v7, v8, v9, M, L => (((Int32.ofInt 8) ≤ v9 → C_6 v1 v2 v3 v4 v5 (v6 + Int32.ofInt 1) M L) ∧ (¬ ((Int32.ofInt 8) ≤ v9) → (vp_in (((Int32.ofInt 8) * v2) + v9) 64 ∧ (vp_in (((Int32.ofInt 8) * v1) + v9) 64 ∧ (vp_in (((Int32.ofInt 8) * v6) + v9) 64 ∧ PL_X1_sumWith_48 K C_6 n_ v1 v2 v3 v4 (v5 + (f_X1_carried M (if (if (v8 + (M 71 ((((Int32.ofInt 8) * v1) + v9).toNatClampNeg))) < (v7 + (M 71 ((((Int32.ofInt 8) * v2) + v9).toNatClampNeg))) then (v8 + (M 71 ((((Int32.ofInt 8) * v1) + v9).toNatClampNeg))) else (v7 + (M 71 ((((Int32.ofInt 8) * v2) + v9).toNatClampNeg)))) < (M 71 ((((Int32.ofInt 8) * v6) + v9).toNatClampNeg)) then (if (v8 + (M 71 ((((Int32.ofInt 8) * v1) + v9).toNatClampNeg))) < (v7 + (M 71 ((((Int32.ofInt 8) * v2) + v9).toNatClampNeg))) then (v8 + (M 71 ((((Int32.ofInt 8) * v1) + v9).toNatClampNeg))) else (v7 + (M 71 ((((Int32.ofInt 8) * v2) + v9).toNatClampNeg)))) else (M 71 ((((Int32.ofInt 8) * v6) + v9).toNatClampNeg))) v4)) v6 v7 v8 (v9 + Int32.ofInt 1) M L)))))
theorem tl_X1_sumWith_48 {E : VE} {d : Nat} {Q : QQ} {K : Int32 → Mem → LMem → Prop} {C_6 : Int32 → Int32 → Int32 → Int32 → Int32 → Int32 → Mem → LMem → Prop} (hK : ∀ (v : Int32) (M : Mem) (L : LMem), K v M L → Q (some (.int v)) M L) (hC_6 : ∀ (v1 : Int32) (v2 : Int32) (v3 : Int32) (v4 : Int32) (v5 : Int32) (v6 : Int32) (M : Mem) (L : LMem), C_6 v1 v2 v3 v4 v5 v6 M L → Wp E (d + 1) 10 6 [.ref 70, .int v1, .int v2, .int v3, .int v4, .int v5, .int v6, .null, .null, .null, .null, .null, .null] [] M L Q) : ∀ (n_ : Nat) (v1 : Int32) (v2 : Int32) (v3 : Int32) (v4 : Int32) (v5 : Int32) (v6 : Int32) (v7 : Int32) (v8 : Int32) (v9 : Int32) (M : Mem) (L : LMem), PL_X1_sumWith_48 K C_6 n_ v1 v2 v3 v4 v5 v6 v7 v8 v9 M L → Wp E (d + 1) 10 48 [.ref 70, .int v1, .int v2, .int v3, .int v4, .int v5, .int v6, .int v7, .int v8, .int v9, .null, .null, .null] [] M L Q := by
  intro n_
  induction n_ with
  | zero => intro v1 v2 v3 v4 v5 v6 v7 v8 v9 M L hP; exact False.elim hP
  | succ n_ ih =>
    intro v1 v2 v3 v4 v5 v6 v7 v8 v9 M L hP
    unfold PL_X1_sumWith_48 at hP
    refine wp_seg (pc' := 52) [.iload 9, .iconst 8] (by decide +kernel) (?_ : Wp E (d + 1) 10 52 [.ref 70, .int v1, .int v2, .int v3, .int v4, .int v5, .int v6, .int v7, .int v8, .int v9, .null, .null, .null] [.int (Int32.ofInt 8), .int v9] M L Q)
    refine wp_icmpge (off := 80) 132 (by decide +kernel) (by decide) (fun c_4 => ?_) (fun c_4 => ?_)
    · have hP := hP.1 c_4
      refine wp_seg (pc' := 6) [.iinc 6 1, .goto 0] (by decide +kernel) (?_ : Wp E (d + 1) 10 6 [.ref 70, .int v1, .int v2, .int v3, .int v4, .int v5, .int (v6 + Int32.ofInt 1), .int v7, .int v8, .int v9, .null, .null, .null] [] M L Q)
      refine wp_drop (lo := [.ref 70, .int v1, .int v2, .int v3, .int v4, .int v5, .int (v6 + Int32.ofInt 1), .null, .null, .null, .null, .null, .null]) ⟨Or.inr rfl, Or.inr rfl, Or.inr rfl, Or.inr rfl, Or.inr rfl, Or.inr rfl, Or.inr rfl, Or.inl rfl, Or.inl rfl, Or.inl rfl, Or.inl rfl, Or.inl rfl, Or.inl rfl, trivial⟩ ?_
      exact hC_6 v1 v2 v3 v4 v5 (v6 + Int32.ofInt 1) M L hP
    · have hP := hP.2 c_4
      obtain ⟨a_5, hP⟩ := hP
      refine wp_seg (pc' := 69) [.iload 7, .aload 0, .getfield 64, .iconst 8, .iload 2, .imul, .iload 9, .iadd, .iaload] (by decide +kernel) (show aok 71 0 (((Int32.ofInt 8) * v2) + v9) ∧ Wp E (d + 1) 10 69 [.ref 70, .int v1, .int v2, .int v3, .int v4, .int v5, .int v6, .int v7, .int v8, .int v9, .null, .null, .null] [.int (M 71 ((((Int32.ofInt 8) * v2) + v9).toNatClampNeg)), .int v7] M L Q from ⟨⟨rfl, a_5⟩, ?_⟩)
      obtain ⟨a_6, hP⟩ := hP
      refine wp_seg (pc' := 86) [.iadd, .istore 10, .iload 8, .aload 0, .getfield 64, .iconst 8, .iload 1, .imul, .iload 9, .iadd, .iaload] (by decide +kernel) (show aok 71 0 (((Int32.ofInt 8) * v1) + v9) ∧ Wp E (d + 1) 10 86 [.ref 70, .int v1, .int v2, .int v3, .int v4, .int v5, .int v6, .int v7, .int v8, .int v9, .int (v7 + (M 71 ((((Int32.ofInt 8) * v2) + v9).toNatClampNeg))), .null, .null] [.int (M 71 ((((Int32.ofInt 8) * v1) + v9).toNatClampNeg)), .int v8] M L Q from ⟨⟨rfl, a_6⟩, ?_⟩)
      obtain ⟨a_7, hP⟩ := hP
      refine wp_seg (pc' := 102) [.iadd, .istore 11, .aload 0, .getfield 64, .iconst 8, .iload 6, .imul, .iload 9, .iadd, .iaload] (by decide +kernel) (show aok 71 0 (((Int32.ofInt 8) * v6) + v9) ∧ Wp E (d + 1) 10 102 [.ref 70, .int v1, .int v2, .int v3, .int v4, .int v5, .int v6, .int v7, .int v8, .int v9, .int (v7 + (M 71 ((((Int32.ofInt 8) * v2) + v9).toNatClampNeg))), .int (v8 + (M 71 ((((Int32.ofInt 8) * v1) + v9).toNatClampNeg))), .null] [.int (M 71 ((((Int32.ofInt 8) * v6) + v9).toNatClampNeg))] M L Q from ⟨⟨rfl, a_7⟩, ?_⟩)
      refine wp_seg (pc' := 109) [.iload 10, .iload 11, .invokestatic 1] (by decide +kernel) (?_ : Wp E (d + 1) 10 109 [.ref 70, .int v1, .int v2, .int v3, .int v4, .int v5, .int v6, .int v7, .int v8, .int v9, .int (v7 + (M 71 ((((Int32.ofInt 8) * v2) + v9).toNatClampNeg))), .int (v8 + (M 71 ((((Int32.ofInt 8) * v1) + v9).toNatClampNeg))), .null] [.int (if (v8 + (M 71 ((((Int32.ofInt 8) * v1) + v9).toNatClampNeg))) < (v7 + (M 71 ((((Int32.ofInt 8) * v2) + v9).toNatClampNeg))) then (v8 + (M 71 ((((Int32.ofInt 8) * v1) + v9).toNatClampNeg))) else (v7 + (M 71 ((((Int32.ofInt 8) * v2) + v9).toNatClampNeg)))), .int (M 71 ((((Int32.ofInt 8) * v6) + v9).toNatClampNeg))] M L Q)
      refine wp_seg (pc' := 112) [.invokestatic 1] (by decide +kernel) (?_ : Wp E (d + 1) 10 112 [.ref 70, .int v1, .int v2, .int v3, .int v4, .int v5, .int v6, .int v7, .int v8, .int v9, .int (v7 + (M 71 ((((Int32.ofInt 8) * v2) + v9).toNatClampNeg))), .int (v8 + (M 71 ((((Int32.ofInt 8) * v1) + v9).toNatClampNeg))), .null] [.int (if (if (v8 + (M 71 ((((Int32.ofInt 8) * v1) + v9).toNatClampNeg))) < (v7 + (M 71 ((((Int32.ofInt 8) * v2) + v9).toNatClampNeg))) then (v8 + (M 71 ((((Int32.ofInt 8) * v1) + v9).toNatClampNeg))) else (v7 + (M 71 ((((Int32.ofInt 8) * v2) + v9).toNatClampNeg)))) < (M 71 ((((Int32.ofInt 8) * v6) + v9).toNatClampNeg)) then (if (v8 + (M 71 ((((Int32.ofInt 8) * v1) + v9).toNatClampNeg))) < (v7 + (M 71 ((((Int32.ofInt 8) * v2) + v9).toNatClampNeg))) then (v8 + (M 71 ((((Int32.ofInt 8) * v1) + v9).toNatClampNeg))) else (v7 + (M 71 ((((Int32.ofInt 8) * v2) + v9).toNatClampNeg)))) else (M 71 ((((Int32.ofInt 8) * v6) + v9).toNatClampNeg)))] M L Q)
      refine wp_seg (pc' := 120) [.istore 12, .iload 5, .iload 12, .iload 4] (by decide +kernel) (?_ : Wp E (d + 1) 10 120 [.ref 70, .int v1, .int v2, .int v3, .int v4, .int v5, .int v6, .int v7, .int v8, .int v9, .int (v7 + (M 71 ((((Int32.ofInt 8) * v2) + v9).toNatClampNeg))), .int (v8 + (M 71 ((((Int32.ofInt 8) * v1) + v9).toNatClampNeg))), .int (if (if (v8 + (M 71 ((((Int32.ofInt 8) * v1) + v9).toNatClampNeg))) < (v7 + (M 71 ((((Int32.ofInt 8) * v2) + v9).toNatClampNeg))) then (v8 + (M 71 ((((Int32.ofInt 8) * v1) + v9).toNatClampNeg))) else (v7 + (M 71 ((((Int32.ofInt 8) * v2) + v9).toNatClampNeg)))) < (M 71 ((((Int32.ofInt 8) * v6) + v9).toNatClampNeg)) then (if (v8 + (M 71 ((((Int32.ofInt 8) * v1) + v9).toNatClampNeg))) < (v7 + (M 71 ((((Int32.ofInt 8) * v2) + v9).toNatClampNeg))) then (v8 + (M 71 ((((Int32.ofInt 8) * v1) + v9).toNatClampNeg))) else (v7 + (M 71 ((((Int32.ofInt 8) * v2) + v9).toNatClampNeg)))) else (M 71 ((((Int32.ofInt 8) * v6) + v9).toNatClampNeg)))] [.int v4, .int (if (if (v8 + (M 71 ((((Int32.ofInt 8) * v1) + v9).toNatClampNeg))) < (v7 + (M 71 ((((Int32.ofInt 8) * v2) + v9).toNatClampNeg))) then (v8 + (M 71 ((((Int32.ofInt 8) * v1) + v9).toNatClampNeg))) else (v7 + (M 71 ((((Int32.ofInt 8) * v2) + v9).toNatClampNeg)))) < (M 71 ((((Int32.ofInt 8) * v6) + v9).toNatClampNeg)) then (if (v8 + (M 71 ((((Int32.ofInt 8) * v1) + v9).toNatClampNeg))) < (v7 + (M 71 ((((Int32.ofInt 8) * v2) + v9).toNatClampNeg))) then (v8 + (M 71 ((((Int32.ofInt 8) * v1) + v9).toNatClampNeg))) else (v7 + (M 71 ((((Int32.ofInt 8) * v2) + v9).toNatClampNeg)))) else (M 71 ((((Int32.ofInt 8) * v6) + v9).toNatClampNeg))), .int v5] M L Q)
      refine wp_callS 8 [.int (if (if (v8 + (M 71 ((((Int32.ofInt 8) * v1) + v9).toNatClampNeg))) < (v7 + (M 71 ((((Int32.ofInt 8) * v2) + v9).toNatClampNeg))) then (v8 + (M 71 ((((Int32.ofInt 8) * v1) + v9).toNatClampNeg))) else (v7 + (M 71 ((((Int32.ofInt 8) * v2) + v9).toNatClampNeg)))) < (M 71 ((((Int32.ofInt 8) * v6) + v9).toNatClampNeg)) then (if (v8 + (M 71 ((((Int32.ofInt 8) * v1) + v9).toNatClampNeg))) < (v7 + (M 71 ((((Int32.ofInt 8) * v2) + v9).toNatClampNeg))) then (v8 + (M 71 ((((Int32.ofInt 8) * v1) + v9).toNatClampNeg))) else (v7 + (M 71 ((((Int32.ofInt 8) * v2) + v9).toNatClampNeg)))) else (M 71 ((((Int32.ofInt 8) * v6) + v9).toNatClampNeg))), .int v4] (i := 38) (by decide +kernel) (by decide +kernel) (by decide +kernel) rfl rfl rfl (rest := [.int v5]) rfl rfl ?_
      refine s_X1_carried M (if (if (v8 + (M 71 ((((Int32.ofInt 8) * v1) + v9).toNatClampNeg))) < (v7 + (M 71 ((((Int32.ofInt 8) * v2) + v9).toNatClampNeg))) then (v8 + (M 71 ((((Int32.ofInt 8) * v1) + v9).toNatClampNeg))) else (v7 + (M 71 ((((Int32.ofInt 8) * v2) + v9).toNatClampNeg)))) < (M 71 ((((Int32.ofInt 8) * v6) + v9).toNatClampNeg)) then (if (v8 + (M 71 ((((Int32.ofInt 8) * v1) + v9).toNatClampNeg))) < (v7 + (M 71 ((((Int32.ofInt 8) * v2) + v9).toNatClampNeg))) then (v8 + (M 71 ((((Int32.ofInt 8) * v1) + v9).toNatClampNeg))) else (v7 + (M 71 ((((Int32.ofInt 8) * v2) + v9).toNatClampNeg)))) else (M 71 ((((Int32.ofInt 8) * v6) + v9).toNatClampNeg))) v4  ?_
      show Wp E (d + 1) 10 123 [.ref 70, .int v1, .int v2, .int v3, .int v4, .int v5, .int v6, .int v7, .int v8, .int v9, .int (v7 + (M 71 ((((Int32.ofInt 8) * v2) + v9).toNatClampNeg))), .int (v8 + (M 71 ((((Int32.ofInt 8) * v1) + v9).toNatClampNeg))), .int (if (if (v8 + (M 71 ((((Int32.ofInt 8) * v1) + v9).toNatClampNeg))) < (v7 + (M 71 ((((Int32.ofInt 8) * v2) + v9).toNatClampNeg))) then (v8 + (M 71 ((((Int32.ofInt 8) * v1) + v9).toNatClampNeg))) else (v7 + (M 71 ((((Int32.ofInt 8) * v2) + v9).toNatClampNeg)))) < (M 71 ((((Int32.ofInt 8) * v6) + v9).toNatClampNeg)) then (if (v8 + (M 71 ((((Int32.ofInt 8) * v1) + v9).toNatClampNeg))) < (v7 + (M 71 ((((Int32.ofInt 8) * v2) + v9).toNatClampNeg))) then (v8 + (M 71 ((((Int32.ofInt 8) * v1) + v9).toNatClampNeg))) else (v7 + (M 71 ((((Int32.ofInt 8) * v2) + v9).toNatClampNeg)))) else (M 71 ((((Int32.ofInt 8) * v6) + v9).toNatClampNeg)))] [.int (f_X1_carried M (if (if (v8 + (M 71 ((((Int32.ofInt 8) * v1) + v9).toNatClampNeg))) < (v7 + (M 71 ((((Int32.ofInt 8) * v2) + v9).toNatClampNeg))) then (v8 + (M 71 ((((Int32.ofInt 8) * v1) + v9).toNatClampNeg))) else (v7 + (M 71 ((((Int32.ofInt 8) * v2) + v9).toNatClampNeg)))) < (M 71 ((((Int32.ofInt 8) * v6) + v9).toNatClampNeg)) then (if (v8 + (M 71 ((((Int32.ofInt 8) * v1) + v9).toNatClampNeg))) < (v7 + (M 71 ((((Int32.ofInt 8) * v2) + v9).toNatClampNeg))) then (v8 + (M 71 ((((Int32.ofInt 8) * v1) + v9).toNatClampNeg))) else (v7 + (M 71 ((((Int32.ofInt 8) * v2) + v9).toNatClampNeg)))) else (M 71 ((((Int32.ofInt 8) * v6) + v9).toNatClampNeg))) v4), .int v5] M L Q
      refine wp_seg (pc' := 48) [.iadd, .istore 5, .iinc 9 1, .goto 0] (by decide +kernel) (?_ : Wp E (d + 1) 10 48 [.ref 70, .int v1, .int v2, .int v3, .int v4, .int (v5 + (f_X1_carried M (if (if (v8 + (M 71 ((((Int32.ofInt 8) * v1) + v9).toNatClampNeg))) < (v7 + (M 71 ((((Int32.ofInt 8) * v2) + v9).toNatClampNeg))) then (v8 + (M 71 ((((Int32.ofInt 8) * v1) + v9).toNatClampNeg))) else (v7 + (M 71 ((((Int32.ofInt 8) * v2) + v9).toNatClampNeg)))) < (M 71 ((((Int32.ofInt 8) * v6) + v9).toNatClampNeg)) then (if (v8 + (M 71 ((((Int32.ofInt 8) * v1) + v9).toNatClampNeg))) < (v7 + (M 71 ((((Int32.ofInt 8) * v2) + v9).toNatClampNeg))) then (v8 + (M 71 ((((Int32.ofInt 8) * v1) + v9).toNatClampNeg))) else (v7 + (M 71 ((((Int32.ofInt 8) * v2) + v9).toNatClampNeg)))) else (M 71 ((((Int32.ofInt 8) * v6) + v9).toNatClampNeg))) v4)), .int v6, .int v7, .int v8, .int (v9 + Int32.ofInt 1), .int (v7 + (M 71 ((((Int32.ofInt 8) * v2) + v9).toNatClampNeg))), .int (v8 + (M 71 ((((Int32.ofInt 8) * v1) + v9).toNatClampNeg))), .int (if (if (v8 + (M 71 ((((Int32.ofInt 8) * v1) + v9).toNatClampNeg))) < (v7 + (M 71 ((((Int32.ofInt 8) * v2) + v9).toNatClampNeg))) then (v8 + (M 71 ((((Int32.ofInt 8) * v1) + v9).toNatClampNeg))) else (v7 + (M 71 ((((Int32.ofInt 8) * v2) + v9).toNatClampNeg)))) < (M 71 ((((Int32.ofInt 8) * v6) + v9).toNatClampNeg)) then (if (v8 + (M 71 ((((Int32.ofInt 8) * v1) + v9).toNatClampNeg))) < (v7 + (M 71 ((((Int32.ofInt 8) * v2) + v9).toNatClampNeg))) then (v8 + (M 71 ((((Int32.ofInt 8) * v1) + v9).toNatClampNeg))) else (v7 + (M 71 ((((Int32.ofInt 8) * v2) + v9).toNatClampNeg)))) else (M 71 ((((Int32.ofInt 8) * v6) + v9).toNatClampNeg)))] [] M L Q)
      refine wp_drop (lo := [.ref 70, .int v1, .int v2, .int v3, .int v4, .int (v5 + (f_X1_carried M (if (if (v8 + (M 71 ((((Int32.ofInt 8) * v1) + v9).toNatClampNeg))) < (v7 + (M 71 ((((Int32.ofInt 8) * v2) + v9).toNatClampNeg))) then (v8 + (M 71 ((((Int32.ofInt 8) * v1) + v9).toNatClampNeg))) else (v7 + (M 71 ((((Int32.ofInt 8) * v2) + v9).toNatClampNeg)))) < (M 71 ((((Int32.ofInt 8) * v6) + v9).toNatClampNeg)) then (if (v8 + (M 71 ((((Int32.ofInt 8) * v1) + v9).toNatClampNeg))) < (v7 + (M 71 ((((Int32.ofInt 8) * v2) + v9).toNatClampNeg))) then (v8 + (M 71 ((((Int32.ofInt 8) * v1) + v9).toNatClampNeg))) else (v7 + (M 71 ((((Int32.ofInt 8) * v2) + v9).toNatClampNeg)))) else (M 71 ((((Int32.ofInt 8) * v6) + v9).toNatClampNeg))) v4)), .int v6, .int v7, .int v8, .int (v9 + Int32.ofInt 1), .null, .null, .null]) ⟨Or.inr rfl, Or.inr rfl, Or.inr rfl, Or.inr rfl, Or.inr rfl, Or.inr rfl, Or.inr rfl, Or.inr rfl, Or.inr rfl, Or.inr rfl, Or.inl rfl, Or.inl rfl, Or.inl rfl, trivial⟩ ?_
      exact ih v1 v2 v3 v4 (v5 + (f_X1_carried M (if (if (v8 + (M 71 ((((Int32.ofInt 8) * v1) + v9).toNatClampNeg))) < (v7 + (M 71 ((((Int32.ofInt 8) * v2) + v9).toNatClampNeg))) then (v8 + (M 71 ((((Int32.ofInt 8) * v1) + v9).toNatClampNeg))) else (v7 + (M 71 ((((Int32.ofInt 8) * v2) + v9).toNatClampNeg)))) < (M 71 ((((Int32.ofInt 8) * v6) + v9).toNatClampNeg)) then (if (v8 + (M 71 ((((Int32.ofInt 8) * v1) + v9).toNatClampNeg))) < (v7 + (M 71 ((((Int32.ofInt 8) * v2) + v9).toNatClampNeg))) then (v8 + (M 71 ((((Int32.ofInt 8) * v1) + v9).toNatClampNeg))) else (v7 + (M 71 ((((Int32.ofInt 8) * v2) + v9).toNatClampNeg)))) else (M 71 ((((Int32.ofInt 8) * v6) + v9).toNatClampNeg))) v4)) v6 v7 v8 (v9 + Int32.ofInt 1) M L hP
def PL_X1_sumWith_6 (K : Int32 → Mem → LMem → Prop)  : Nat → Int32 → Int32 → Int32 → Int32 → Int32 → Int32 → Mem → LMem → Prop
  | 0, _, _, _, _, _, _, _, _ => False
  | n_ + 1, v1, v2, v3, v4, v5, v6, M, L => (((Int32.ofInt 8) ≤ v6 → K v5 M L) ∧ (¬ ((Int32.ofInt 8) ≤ v6) → (vp_in (((Int32.ofInt 8) * v6) + v1) 64 ∧ (vp_in (((Int32.ofInt 8) * v6) + v2) 64 ∧ PL_X1_sumWith_48 K (PL_X1_sumWith_6 K n_) 100000 v1 v2 v3 v4 v5 v6 ((M 71 ((((Int32.ofInt 8) * v6) + v1).toNatClampNeg)) + v3) ((M 71 ((((Int32.ofInt 8) * v6) + v2).toNatClampNeg)) + v3) (Int32.ofInt 0) M L))))
theorem tl_X1_sumWith_6 {E : VE} {d : Nat} {Q : QQ} {K : Int32 → Mem → LMem → Prop}  (hK : ∀ (v : Int32) (M : Mem) (L : LMem), K v M L → Q (some (.int v)) M L)  : ∀ (n_ : Nat) (v1 : Int32) (v2 : Int32) (v3 : Int32) (v4 : Int32) (v5 : Int32) (v6 : Int32) (M : Mem) (L : LMem), PL_X1_sumWith_6 K n_ v1 v2 v3 v4 v5 v6 M L → Wp E (d + 1) 10 6 [.ref 70, .int v1, .int v2, .int v3, .int v4, .int v5, .int v6, .null, .null, .null, .null, .null, .null] [] M L Q := by
  intro n_
  induction n_ with
  | zero => intro v1 v2 v3 v4 v5 v6 M L hP; exact False.elim hP
  | succ n_ ih =>
    intro v1 v2 v3 v4 v5 v6 M L hP
    unfold PL_X1_sumWith_6 at hP
    refine wp_seg (pc' := 10) [.iload 6, .iconst 8] (by decide +kernel) (?_ : Wp E (d + 1) 10 10 [.ref 70, .int v1, .int v2, .int v3, .int v4, .int v5, .int v6, .null, .null, .null, .null, .null, .null] [.int (Int32.ofInt 8), .int v6] M L Q)
    refine wp_icmpge (off := 128) 138 (by decide +kernel) (by decide) (fun c_1 => ?_) (fun c_1 => ?_)
    · have hP := hP.1 c_1
      refine wp_seg (pc' := 140) [.iload 5] (by decide +kernel) (?_ : Wp E (d + 1) 10 140 [.ref 70, .int v1, .int v2, .int v3, .int v4, .int v5, .int v6, .null, .null, .null, .null, .null, .null] [.int v5] M L Q)
      exact wp_iret (by decide +kernel) rfl (hK _ _ _ hP)
    · have hP := hP.2 c_1
      obtain ⟨a_2, hP⟩ := hP
      refine wp_seg (pc' := 25) [.aload 0, .getfield 64, .iconst 8, .iload 6, .imul, .iload 1, .iadd, .iaload] (by decide +kernel) (show aok 71 0 (((Int32.ofInt 8) * v6) + v1) ∧ Wp E (d + 1) 10 25 [.ref 70, .int v1, .int v2, .int v3, .int v4, .int v5, .int v6, .null, .null, .null, .null, .null, .null] [.int (M 71 ((((Int32.ofInt 8) * v6) + v1).toNatClampNeg))] M L Q from ⟨⟨rfl, a_2⟩, ?_⟩)
      obtain ⟨a_3, hP⟩ := hP
      refine wp_seg (pc' := 41) [.iload 3, .iadd, .istore 7, .aload 0, .getfield 64, .iconst 8, .iload 6, .imul, .iload 2, .iadd, .iaload] (by decide +kernel) (show aok 71 0 (((Int32.ofInt 8) * v6) + v2) ∧ Wp E (d + 1) 10 41 [.ref 70, .int v1, .int v2, .int v3, .int v4, .int v5, .int v6, .int ((M 71 ((((Int32.ofInt 8) * v6) + v1).toNatClampNeg)) + v3), .null, .null, .null, .null, .null] [.int (M 71 ((((Int32.ofInt 8) * v6) + v2).toNatClampNeg))] M L Q from ⟨⟨rfl, a_3⟩, ?_⟩)
      refine wp_seg (pc' := 48) [.iload 3, .iadd, .istore 8, .iconst 0, .istore 9] (by decide +kernel) (?_ : Wp E (d + 1) 10 48 [.ref 70, .int v1, .int v2, .int v3, .int v4, .int v5, .int v6, .int ((M 71 ((((Int32.ofInt 8) * v6) + v1).toNatClampNeg)) + v3), .int ((M 71 ((((Int32.ofInt 8) * v6) + v2).toNatClampNeg)) + v3), .int (Int32.ofInt 0), .null, .null, .null] [] M L Q)
      exact tl_X1_sumWith_48 hK (fun v1 v2 v3 v4 v5 v6 M L hP => ih v1 v2 v3 v4 v5 v6 M L hP) 100000 v1 v2 v3 v4 v5 v6 ((M 71 ((((Int32.ofInt 8) * v6) + v1).toNatClampNeg)) + v3) ((M 71 ((((Int32.ofInt 8) * v6) + v2).toNatClampNeg)) + v3) (Int32.ofInt 0) M L hP
def P_X1_sumWith (x1 : Int32) (x2 : Int32) (x3 : Int32) (x4 : Int32) (M : Mem) (L : LMem) (K : Int32 → Mem → LMem → Prop) : Prop := PL_X1_sumWith_6 K 100000 x1 x2 x3 x4 (Int32.ofInt 0) (Int32.ofInt 0) M L
theorem t_X1_sumWith {E : VE} {d : Nat} {Q : QQ} {K : Int32 → Mem → LMem → Prop} {x1 : Int32} {x2 : Int32} {x3 : Int32} {x4 : Int32} {M : Mem} {L : LMem} (hP : P_X1_sumWith x1 x2 x3 x4 M L K) (hK : ∀ (v : Int32) (M : Mem) (L : LMem), K v M L → Q (some (.int v)) M L) : Wp E (d + 1) 10 0 [.ref 70, .int x1, .int x2, .int x3, .int x4, .null, .null, .null, .null, .null, .null, .null, .null] [] M L Q := by
  unfold P_X1_sumWith at hP
  refine wp_seg (pc' := 6) [.iconst 0, .istore 5, .iconst 0, .istore 6] (by decide +kernel) (?_ : Wp E (d + 1) 10 6 [.ref 70, .int x1, .int x2, .int x3, .int x4, .int (Int32.ofInt 0), .int (Int32.ofInt 0), .null, .null, .null, .null, .null, .null] [] M L Q)
  exact tl_X1_sumWith_6 hK 100000 x1 x2 x3 x4 (Int32.ofInt 0) (Int32.ofInt 0) M L hP

def PL_X1_lacksOneOf_2 (K : Int32 → Mem → LMem → Prop)  : Nat → Int32 → Mem → LMem → Prop
  | 0, _, _, _ => False
  | n_ + 1, v2, M, L => (((Int32.ofNat 64) ≤ v2 → K (Int32.ofInt 0) M L) ∧ (¬ ((Int32.ofNat 64) ≤ v2) → (vp_in v2 64 ∧ (((M 73 v2.toNatClampNeg) = (Int32.ofInt 99) → (((M 71 v2.toNatClampNeg) = (Int32.ofInt 99) → PL_X1_lacksOneOf_2 K n_ (v2 + Int32.ofInt 1) M L) ∧ (¬ ((M 71 v2.toNatClampNeg) = (Int32.ofInt 99)) → K (Int32.ofInt 1) M L))) ∧ (¬ ((M 73 v2.toNatClampNeg) = (Int32.ofInt 99)) → PL_X1_lacksOneOf_2 K n_ (v2 + Int32.ofInt 1) M L)))))
theorem tl_X1_lacksOneOf_2 {E : VE} {d : Nat} {Q : QQ} {K : Int32 → Mem → LMem → Prop}  (hK : ∀ (v : Int32) (M : Mem) (L : LMem), K v M L → Q (some (.int v)) M L)  : ∀ (n_ : Nat) (v2 : Int32) (M : Mem) (L : LMem), PL_X1_lacksOneOf_2 K n_ v2 M L → Wp E d 11 2 [.ref 72, .ref 70, .int v2] [] M L Q := by
  intro n_
  induction n_ with
  | zero => intro v2 M L hP; exact False.elim hP
  | succ n_ ih =>
    intro v2 M L hP
    unfold PL_X1_lacksOneOf_2 at hP
    refine wp_seg (pc' := 8) [.iload 2, .aload 0, .getfield 64, .arraylength] (by decide +kernel) (?_ : Wp E d 11 8 [.ref 72, .ref 70, .int v2] [.int (Int32.ofNat 64), .int v2] M L Q)
    refine wp_icmpge (off := 33) 41 (by decide +kernel) (by decide) (fun c_1 => ?_) (fun c_1 => ?_)
    · have hP := hP.1 c_1
      refine wp_seg (pc' := 42) [.iconst 0] (by decide +kernel) (?_ : Wp E d 11 42 [.ref 72, .ref 70, .int v2] [.int (Int32.ofInt 0)] M L Q)
      exact wp_zret (by decide +kernel) rfl (by decide) (hK _ _ _ hP)
    · have hP := hP.2 c_1
      obtain ⟨a_2, hP⟩ := hP
      refine wp_seg (pc' := 17) [.aload 0, .getfield 64, .iload 2, .iaload] (by decide +kernel) (show aok 73 0 v2 ∧ Wp E d 11 17 [.ref 72, .ref 70, .int v2] [.int (M 73 v2.toNatClampNeg)] M L Q from ⟨⟨rfl, a_2⟩, ?_⟩)
      refine wp_seg (pc' := 19) [.iconst 99] (by decide +kernel) (?_ : Wp E d 11 19 [.ref 72, .ref 70, .int v2] [.int (Int32.ofInt 99), .int (M 73 v2.toNatClampNeg)] M L Q)
      refine wp_icmpne (off := 16) 35 (by decide +kernel) (by decide) (fun c_3 => ?_) (fun c_3 => ?_)
      · have hP := hP.2 c_3
        refine wp_seg (pc' := 2) [.iinc 2 1, .goto 0] (by decide +kernel) (?_ : Wp E d 11 2 [.ref 72, .ref 70, .int (v2 + Int32.ofInt 1)] [] M L Q)
        exact ih (v2 + Int32.ofInt 1) M L hP
      · have hP := hP.1 c_3
        refine wp_seg (pc' := 28) [.aload 1, .getfield 64, .iload 2, .iaload] (by decide +kernel) (show aok 71 0 v2 ∧ Wp E d 11 28 [.ref 72, .ref 70, .int v2] [.int (M 71 v2.toNatClampNeg)] M L Q from ⟨⟨rfl, a_2⟩, ?_⟩)
        refine wp_seg (pc' := 30) [.iconst 99] (by decide +kernel) (?_ : Wp E d 11 30 [.ref 72, .ref 70, .int v2] [.int (Int32.ofInt 99), .int (M 71 v2.toNatClampNeg)] M L Q)
        refine wp_icmpeq (off := 5) 35 (by decide +kernel) (by decide) (fun c_4 => ?_) (fun c_4 => ?_)
        · have hP := hP.1 c_4
          refine wp_seg (pc' := 2) [.iinc 2 1, .goto 0] (by decide +kernel) (?_ : Wp E d 11 2 [.ref 72, .ref 70, .int (v2 + Int32.ofInt 1)] [] M L Q)
          exact ih (v2 + Int32.ofInt 1) M L hP
        · have hP := hP.2 c_4
          refine wp_seg (pc' := 34) [.iconst 1] (by decide +kernel) (?_ : Wp E d 11 34 [.ref 72, .ref 70, .int v2] [.int (Int32.ofInt 1)] M L Q)
          exact wp_zret (by decide +kernel) rfl (by decide) (hK _ _ _ hP)
def P_X1_lacksOneOf (M : Mem) (L : LMem) (K : Int32 → Mem → LMem → Prop) : Prop := PL_X1_lacksOneOf_2 K 100000 (Int32.ofInt 0) M L
theorem t_X1_lacksOneOf {E : VE} {d : Nat} {Q : QQ} {K : Int32 → Mem → LMem → Prop} {M : Mem} {L : LMem} (hP : P_X1_lacksOneOf M L K) (hK : ∀ (v : Int32) (M : Mem) (L : LMem), K v M L → Q (some (.int v)) M L) : Wp E d 11 0 [.ref 72, .ref 70, .null] [] M L Q := by
  unfold P_X1_lacksOneOf at hP
  refine wp_seg (pc' := 2) [.iconst 0, .istore 2] (by decide +kernel) (?_ : Wp E d 11 2 [.ref 72, .ref 70, .int (Int32.ofInt 0)] [] M L Q)
  exact tl_X1_lacksOneOf_2 hK 100000 (Int32.ofInt 0) M L hP
