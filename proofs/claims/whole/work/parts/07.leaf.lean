/-! ===== loop-free leaves, by program ===== -/
theorem vp_lit (n N : Nat) (h : n < N ∧ N < 2 ^ 31) : vp_in (Int32.ofInt (n : Int)) N := by
  rw [vp_in_iff, Int32.toInt_ofInt_of_le (by omega) (by omega)]
  omega
def lsub : List Value → List Value → Prop
  | [], [] => True
  | a :: r, b :: s => (a = Value.null ∨ a = b) ∧ lsub r s
  | _, _ => False
theorem lsub_spec : ∀ (a b : List Value), lsub a b → a.length = b.length ∧ ∀ (i : Nat) (v : Value), a[i]? = some v → v ≠ Value.null → b[i]? = some v
  | [], [], _ => ⟨rfl, fun _ _ h _ => by simp at h⟩
  | [], _ :: _, h => False.elim h
  | _ :: _, [], h => False.elim h
  | a :: r, b :: s, h => by
    obtain ⟨h1, h2⟩ := lsub_spec r s h.2
    refine ⟨congrArg Nat.succ h1, fun i v hi hn => ?_⟩
    cases i with
    | zero =>
      have hi : some a = some v := hi
      cases hi
      rcases h.1 with h3 | h3
      · exact absurd h3 hn
      · rw [h3]; rfl
    | succ i => exact h2 i v hi hn
/-- what stands in a local that is not asked for any more is no matter -/
theorem wp_drop {E : VE} {d y pc : Nat} {lo lo' st : List Value} {M : Mem} {L : LMem} {Q : QQ} (h : lsub lo lo') (k : Wp E d y pc lo st M L Q) : Wp E d y pc lo' st M L Q :=
  fun p e s m args below meth c C ls H locs hl hP hS => k p e s m args below meth c C ls H locs ⟨hl.1, (lsub_spec _ _ h).1.trans hl.2.1, hl.2.2.1, fun i v h1 h2 => hl.2.2.2 i v ((lsub_spec _ _ h).2 i v h1 h2) h2⟩ hP hS
theorem sw_ne {x : Int32} {v : Nat} (hv : v < 2 ^ 31) (h : ¬ x = Int32.ofInt (v : Int)) : x.toInt ≠ (v : Int) := by
  intro q
  apply h
  apply Int32.toInt_inj.mp
  rw [q, Int32.toInt_ofInt_of_le (by omega) (by omega)]
theorem vp_of {x : Int32} {n : Nat} (hn : n < 2 ^ 31) (h0 : ¬ x < 0) (h1 : ¬ Int32.ofInt (n : Int) ≤ x) : vp_in x n := by
  rw [vp_in_iff]
  rw [Int32.lt_iff_toInt_lt] at h0
  rw [Int32.le_iff_toInt_le, Int32.toInt_ofInt_of_le (by omega) (by omega)] at h1
  have : (0 : Int32).toInt = 0 := by decide
  omega

def f_X9_within (M : Mem) (x1 : Int32) (x2 : Int32) (x3 : Int32) : Int32 := (if x1 < x2 then Int32.ofInt 0 else (if x3 < x1 then Int32.ofInt 0 else Int32.ofInt 1))
theorem z_X9_within (M : Mem) (x1 : Int32) (x2 : Int32) (x3 : Int32) : f_X9_within M x1 x2 x3 = 0 ∨ f_X9_within M x1 x2 x3 = 1 := by
  unfold f_X9_within
  repeat' split
  all_goals first | exact Or.inl rfl | exact Or.inr rfl
theorem s_X9_within {E : VE} {d : Nat} {Q : QQ} {L : LMem} (M : Mem) (x1 : Int32) (x2 : Int32) (x3 : Int32) (hQ : Q (some (.int (f_X9_within M x1 x2 x3))) M L) : Wp E d 90 0 [.int x1, .int x2, .int x3] [] M L Q := by
  refine wp_seg (pc' := 2) [.iload 0, .iload 1] (by decide +kernel) (?_ : Wp E d 90 2 [.int x1, .int x2, .int x3] [.int x2, .int x1] M L Q)
  refine wp_icmplt (off := 12) 14 (by decide +kernel) (by decide) (fun c_1 => ?_) (fun c_1 => ?_)
  · refine wp_seg (pc' := 15) [.iconst 0] (by decide +kernel) (?_ : Wp E d 90 15 [.int x1, .int x2, .int x3] [.int (Int32.ofInt 0)] M L Q)
    exact wp_zret (by decide +kernel) rfl (by decide) (by rw [f_X9_within, if_pos c_1] at hQ; exact hQ)
  · refine wp_seg (pc' := 7) [.iload 0, .iload 2] (by decide +kernel) (?_ : Wp E d 90 7 [.int x1, .int x2, .int x3] [.int x3, .int x1] M L Q)
    refine wp_icmpgt (off := 7) 14 (by decide +kernel) (by decide) (fun c_2 => ?_) (fun c_2 => ?_)
    · refine wp_seg (pc' := 15) [.iconst 0] (by decide +kernel) (?_ : Wp E d 90 15 [.int x1, .int x2, .int x3] [.int (Int32.ofInt 0)] M L Q)
      exact wp_zret (by decide +kernel) rfl (by decide) (by rw [f_X9_within, if_neg c_1, if_pos c_2] at hQ; exact hQ)
    · refine wp_seg (pc' := 15) [.iconst 1, .goto 0] (by decide +kernel) (?_ : Wp E d 90 15 [.int x1, .int x2, .int x3] [.int (Int32.ofInt 1)] M L Q)
      exact wp_zret (by decide +kernel) rfl (by decide) (by rw [f_X9_within, if_neg c_1, if_neg c_2] at hQ; exact hQ)

def f_X9_isRoom (M : Mem) (x1 : Int32) : Int32 := f_X9_within M x1 (Int32.ofInt 0) (Int32.ofInt 7)
theorem z_X9_isRoom (M : Mem) (x1 : Int32) : f_X9_isRoom M x1 = 0 ∨ f_X9_isRoom M x1 = 1 := by
  unfold f_X9_isRoom
  repeat' split
  all_goals first | exact Or.inl rfl | exact Or.inr rfl | exact z_X9_within ..
theorem s_X9_isRoom {E : VE} {d : Nat} {Q : QQ} {L : LMem} (M : Mem) (x1 : Int32) (hQ : Q (some (.int (f_X9_isRoom M x1))) M L) : Wp E (d + 1) 91 0 [.int x1] [] M L Q := by
  refine wp_seg (pc' := 4) [.iload 0, .iconst 0, .iconst 7] (by decide +kernel) (?_ : Wp E (d + 1) 91 4 [.int x1] [.int (Int32.ofInt 7), .int (Int32.ofInt 0), .int x1] M L Q)
  refine wp_callS 90 [.int x1, .int (Int32.ofInt 0), .int (Int32.ofInt 7)] (i := 126) (by decide +kernel) (by decide +kernel) (by decide +kernel) rfl rfl rfl (rest := []) rfl rfl ?_
  refine s_X9_within M x1 (Int32.ofInt 0) (Int32.ofInt 7)  ?_
  show Wp E (d + 1) 91 7 [.int x1] [.int (f_X9_within M x1 (Int32.ofInt 0) (Int32.ofInt 7))] M L Q
  exact wp_zret (by decide +kernel) rfl (z_X9_within ..) hQ

def f_X9_twoRooms (M : Mem) (x1 : Int32) (x2 : Int32) : Int32 := (if (f_X9_isRoom M x1) = 0 then Int32.ofInt 0 else (if (f_X9_isRoom M x2) = 0 then Int32.ofInt 0 else (if x1 = x2 then Int32.ofInt 0 else Int32.ofInt 1)))
theorem z_X9_twoRooms (M : Mem) (x1 : Int32) (x2 : Int32) : f_X9_twoRooms M x1 x2 = 0 ∨ f_X9_twoRooms M x1 x2 = 1 := by
  unfold f_X9_twoRooms
  repeat' split
  all_goals first | exact Or.inl rfl | exact Or.inr rfl
theorem s_X9_twoRooms {E : VE} {d : Nat} {Q : QQ} {L : LMem} (M : Mem) (x1 : Int32) (x2 : Int32) (hQ : Q (some (.int (f_X9_twoRooms M x1 x2))) M L) : Wp E (d + 2) 92 0 [.int x1, .int x2] [] M L Q := by
  refine wp_seg (pc' := 1) [.iload 0] (by decide +kernel) (?_ : Wp E (d + 2) 92 1 [.int x1, .int x2] [.int x1] M L Q)
  refine wp_callS 91 [.int x1] (i := 150) (by decide +kernel) (by decide +kernel) (by decide +kernel) rfl rfl rfl (rest := []) rfl rfl ?_
  refine s_X9_isRoom M x1  ?_
  show Wp E (d + 2) 92 4 [.int x1, .int x2] [.int (f_X9_isRoom M x1)] M L Q
  refine wp_ifeq (off := 19) 23 (by decide +kernel) (by decide) (fun c_1 => ?_) (fun c_1 => ?_)
  · refine wp_seg (pc' := 24) [.iconst 0] (by decide +kernel) (?_ : Wp E (d + 2) 92 24 [.int x1, .int x2] [.int (Int32.ofInt 0)] M L Q)
    exact wp_zret (by decide +kernel) rfl (by decide) (by rw [f_X9_twoRooms, if_pos c_1] at hQ; exact hQ)
  · refine wp_seg (pc' := 8) [.iload 1] (by decide +kernel) (?_ : Wp E (d + 2) 92 8 [.int x1, .int x2] [.int x2] M L Q)
    refine wp_callS 91 [.int x2] (i := 150) (by decide +kernel) (by decide +kernel) (by decide +kernel) rfl rfl rfl (rest := []) rfl rfl ?_
    refine s_X9_isRoom M x2  ?_
    show Wp E (d + 2) 92 11 [.int x1, .int x2] [.int (f_X9_isRoom M x2)] M L Q
    refine wp_ifeq (off := 12) 23 (by decide +kernel) (by decide) (fun c_2 => ?_) (fun c_2 => ?_)
    · refine wp_seg (pc' := 24) [.iconst 0] (by decide +kernel) (?_ : Wp E (d + 2) 92 24 [.int x1, .int x2] [.int (Int32.ofInt 0)] M L Q)
      exact wp_zret (by decide +kernel) rfl (by decide) (by rw [f_X9_twoRooms, if_neg c_1, if_pos c_2] at hQ; exact hQ)
    · refine wp_seg (pc' := 16) [.iload 0, .iload 1] (by decide +kernel) (?_ : Wp E (d + 2) 92 16 [.int x1, .int x2] [.int x2, .int x1] M L Q)
      refine wp_icmpeq (off := 7) 23 (by decide +kernel) (by decide) (fun c_3 => ?_) (fun c_3 => ?_)
      · refine wp_seg (pc' := 24) [.iconst 0] (by decide +kernel) (?_ : Wp E (d + 2) 92 24 [.int x1, .int x2] [.int (Int32.ofInt 0)] M L Q)
        exact wp_zret (by decide +kernel) rfl (by decide) (by rw [f_X9_twoRooms, if_neg c_1, if_neg c_2, if_pos c_3] at hQ; exact hQ)
      · refine wp_seg (pc' := 24) [.iconst 1, .goto 0] (by decide +kernel) (?_ : Wp E (d + 2) 92 24 [.int x1, .int x2] [.int (Int32.ofInt 1)] M L Q)
        exact wp_zret (by decide +kernel) rfl (by decide) (by rw [f_X9_twoRooms, if_neg c_1, if_neg c_2, if_neg c_3] at hQ; exact hQ)

def f_X9_takenOf (M : Mem) (x1 : Int32) (x2 : Int32) (x3 : Int32) : Int32 := (x1 &&& (x3 ^^^ (Int32.ofInt (-1)))) ||| x2
theorem s_X9_takenOf {E : VE} {d : Nat} {Q : QQ} {L : LMem} (M : Mem) (x1 : Int32) (x2 : Int32) (x3 : Int32) (hQ : Q (some (.int (f_X9_takenOf M x1 x2 x3))) M L) : Wp E d 93 0 [.int x1, .int x2, .int x3] [] M L Q := by
  refine wp_seg (pc' := 7) [.iload 0, .iload 2, .iconst (-1), .ixor, .iand, .iload 1, .ior] (by decide +kernel) (?_ : Wp E d 93 7 [.int x1, .int x2, .int x3] [.int ((x1 &&& (x3 ^^^ (Int32.ofInt (-1)))) ||| x2)] M L Q)
  exact wp_iret (by decide +kernel) rfl hQ

def f_X5_signAt (M : Mem) (x1 : Int32) : Int32 := (if x1 < 0 then Int32.ofInt 0 else (if (M 1 1) ≤ x1 then Int32.ofInt 0 else (if (Int32.ofInt 60) ≤ x1 then Int32.ofInt 0 else M 2 x1.toNatClampNeg)))
theorem s_X5_signAt {E : VE} {d : Nat} {Q : QQ} {L : LMem} (M : Mem) (x1 : Int32) (hQ : Q (some (.int (f_X5_signAt M x1))) M L) : Wp E d 31 0 [.ref 1, .int x1] [] M L Q := by
  refine wp_seg (pc' := 1) [.iload 1] (by decide +kernel) (?_ : Wp E d 31 1 [.ref 1, .int x1] [.int x1] M L Q)
  refine wp_iflt (off := 26) 27 (by decide +kernel) (by decide) (fun c_1 => ?_) (fun c_1 => ?_)
  · refine wp_seg (pc' := 28) [.iconst 0] (by decide +kernel) (?_ : Wp E d 31 28 [.ref 1, .int x1] [.int (Int32.ofInt 0)] M L Q)
    exact wp_iret (by decide +kernel) rfl (by rw [f_X5_signAt, if_pos c_1] at hQ; exact hQ)
  · refine wp_seg (pc' := 9) [.iload 1, .aload 0, .getfield 321] (by decide +kernel) (?_ : Wp E d 31 9 [.ref 1, .int x1] [.int (M 1 1), .int x1] M L Q)
    refine wp_icmpge (off := 18) 27 (by decide +kernel) (by decide) (fun c_2 => ?_) (fun c_2 => ?_)
    · refine wp_seg (pc' := 28) [.iconst 0] (by decide +kernel) (?_ : Wp E d 31 28 [.ref 1, .int x1] [.int (Int32.ofInt 0)] M L Q)
      exact wp_iret (by decide +kernel) rfl (by rw [f_X5_signAt, if_neg c_1, if_pos c_2] at hQ; exact hQ)
    · refine wp_seg (pc' := 15) [.iload 1, .iconst 60] (by decide +kernel) (?_ : Wp E d 31 15 [.ref 1, .int x1] [.int (Int32.ofInt 60), .int x1] M L Q)
      refine wp_icmpge (off := 12) 27 (by decide +kernel) (by decide) (fun c_3 => ?_) (fun c_3 => ?_)
      · refine wp_seg (pc' := 28) [.iconst 0] (by decide +kernel) (?_ : Wp E d 31 28 [.ref 1, .int x1] [.int (Int32.ofInt 0)] M L Q)
        exact wp_iret (by decide +kernel) rfl (by rw [f_X5_signAt, if_neg c_1, if_neg c_2, if_pos c_3] at hQ; exact hQ)
      · refine wp_seg (pc' := 24) [.aload 0, .getfield 320, .iload 1, .iaload] (by decide +kernel) (show aok 2 0 x1 ∧ Wp E d 31 24 [.ref 1, .int x1] [.int (M 2 x1.toNatClampNeg)] M L Q from ⟨⟨rfl, (vp_of (n := 60) (by decide) c_1 c_3)⟩, ?_⟩)
        refine wp_seg (pc' := 28) [.goto 0] (by decide +kernel) (?_ : Wp E d 31 28 [.ref 1, .int x1] [.int (M 2 x1.toNatClampNeg)] M L Q)
        exact wp_iret (by decide +kernel) rfl (by rw [f_X5_signAt, if_neg c_1, if_neg c_2, if_neg c_3] at hQ; exact hQ)

def f_X5_roomAt (M : Mem) (x1 : Int32) : Int32 := f_X9_within M (f_X5_signAt M x1) (Int32.ofInt 65) (Int32.ofInt 72)
theorem z_X5_roomAt (M : Mem) (x1 : Int32) : f_X5_roomAt M x1 = 0 ∨ f_X5_roomAt M x1 = 1 := by
  unfold f_X5_roomAt
  repeat' split
  all_goals first | exact Or.inl rfl | exact Or.inr rfl | exact z_X9_within ..
theorem s_X5_roomAt {E : VE} {d : Nat} {Q : QQ} {L : LMem} (M : Mem) (x1 : Int32) (hQ : Q (some (.int (f_X5_roomAt M x1))) M L) : Wp E (d + 1) 32 0 [.ref 1, .int x1] [] M L Q := by
  refine wp_seg (pc' := 2) [.aload 0, .iload 1] (by decide +kernel) (?_ : Wp E (d + 1) 32 2 [.ref 1, .int x1] [.int x1, .ref 1] M L Q)
  refine wp_callV 31 1 [.int x1] (i := 19) (by decide +kernel) (by decide +kernel) (by decide +kernel) (by decide +kernel) rfl rfl rfl (rest := []) rfl rfl ?_
  refine s_X5_signAt M x1  ?_
  show Wp E (d + 1) 32 5 [.ref 1, .int x1] [.int (f_X5_signAt M x1)] M L Q
  refine wp_seg (pc' := 9) [.iconst 65, .iconst 72] (by decide +kernel) (?_ : Wp E (d + 1) 32 9 [.ref 1, .int x1] [.int (Int32.ofInt 72), .int (Int32.ofInt 65), .int (f_X5_signAt M x1)] M L Q)
  refine wp_callN 90 [.int (f_X5_signAt M x1), .int (Int32.ofInt 65), .int (Int32.ofInt 72)] (i := 23) (by decide +kernel) (by decide +kernel) (by decide +kernel) (by decide +kernel) rfl rfl rfl (rest := []) rfl rfl ?_
  refine s_X9_within M (f_X5_signAt M x1) (Int32.ofInt 65) (Int32.ofInt 72)  ?_
  show Wp E (d + 1) 32 12 [.ref 1, .int x1] [.int (f_X9_within M (f_X5_signAt M x1) (Int32.ofInt 65) (Int32.ofInt 72))] M L Q
  exact wp_zret (by decide +kernel) rfl (z_X9_within ..) hQ

def f_X5_otherRoomAt (M : Mem) (x1 : Int32) (x2 : Int32) : Int32 := (if (f_X5_roomAt M x1) = 0 then Int32.ofInt 0 else (if (f_X5_signAt M x1) = (f_X5_signAt M x2) then Int32.ofInt 0 else Int32.ofInt 1))
theorem z_X5_otherRoomAt (M : Mem) (x1 : Int32) (x2 : Int32) : f_X5_otherRoomAt M x1 x2 = 0 ∨ f_X5_otherRoomAt M x1 x2 = 1 := by
  unfold f_X5_otherRoomAt
  repeat' split
  all_goals first | exact Or.inl rfl | exact Or.inr rfl
theorem s_X5_otherRoomAt {E : VE} {d : Nat} {Q : QQ} {L : LMem} (M : Mem) (x1 : Int32) (x2 : Int32) (hQ : Q (some (.int (f_X5_otherRoomAt M x1 x2))) M L) : Wp E (d + 2) 33 0 [.ref 1, .int x1, .int x2] [] M L Q := by
  refine wp_seg (pc' := 2) [.aload 0, .iload 1] (by decide +kernel) (?_ : Wp E (d + 2) 33 2 [.ref 1, .int x1, .int x2] [.int x1, .ref 1] M L Q)
  refine wp_callV 32 1 [.int x1] (i := 27) (by decide +kernel) (by decide +kernel) (by decide +kernel) (by decide +kernel) rfl rfl rfl (rest := []) rfl rfl ?_
  refine s_X5_roomAt M x1  ?_
  show Wp E (d + 2) 33 5 [.ref 1, .int x1, .int x2] [.int (f_X5_roomAt M x1)] M L Q
  refine wp_ifeq (off := 20) 25 (by decide +kernel) (by decide) (fun c_1 => ?_) (fun c_1 => ?_)
  · refine wp_seg (pc' := 26) [.iconst 0] (by decide +kernel) (?_ : Wp E (d + 2) 33 26 [.ref 1, .int x1, .int x2] [.int (Int32.ofInt 0)] M L Q)
    exact wp_zret (by decide +kernel) rfl (by decide) (by rw [f_X5_otherRoomAt, if_pos c_1] at hQ; exact hQ)
  · refine wp_seg (pc' := 10) [.aload 0, .iload 1] (by decide +kernel) (?_ : Wp E (d + 2) 33 10 [.ref 1, .int x1, .int x2] [.int x1, .ref 1] M L Q)
    refine wp_callV 31 1 [.int x1] (i := 19) (by decide +kernel) (by decide +kernel) (by decide +kernel) (by decide +kernel) rfl rfl rfl (rest := []) rfl rfl ?_
    refine s_X5_signAt M x1  ?_
    show Wp E (d + 2) 33 13 [.ref 1, .int x1, .int x2] [.int (f_X5_signAt M x1)] M L Q
    refine wp_seg (pc' := 15) [.aload 0, .iload 2] (by decide +kernel) (?_ : Wp E (d + 2) 33 15 [.ref 1, .int x1, .int x2] [.int x2, .ref 1, .int (f_X5_signAt M x1)] M L Q)
    refine wp_callV 31 1 [.int x2] (i := 19) (by decide +kernel) (by decide +kernel) (by decide +kernel) (by decide +kernel) rfl rfl rfl (rest := [.int (f_X5_signAt M x1)]) rfl rfl ?_
    refine s_X5_signAt M x2  ?_
    show Wp E (d + 2) 33 18 [.ref 1, .int x1, .int x2] [.int (f_X5_signAt M x2), .int (f_X5_signAt M x1)] M L Q
    refine wp_icmpeq (off := 7) 25 (by decide +kernel) (by decide) (fun c_2 => ?_) (fun c_2 => ?_)
    · refine wp_seg (pc' := 26) [.iconst 0] (by decide +kernel) (?_ : Wp E (d + 2) 33 26 [.ref 1, .int x1, .int x2] [.int (Int32.ofInt 0)] M L Q)
      exact wp_zret (by decide +kernel) rfl (by decide) (by rw [f_X5_otherRoomAt, if_neg c_1, if_pos c_2] at hQ; exact hQ)
    · refine wp_seg (pc' := 26) [.iconst 1, .goto 0] (by decide +kernel) (?_ : Wp E (d + 2) 33 26 [.ref 1, .int x1, .int x2] [.int (Int32.ofInt 1)] M L Q)
      exact wp_zret (by decide +kernel) rfl (by decide) (by rw [f_X5_otherRoomAt, if_neg c_1, if_neg c_2] at hQ; exact hQ)

def f_X5_digitAt (M : Mem) (x1 : Int32) : Int32 := f_X9_within M (f_X5_signAt M x1) (Int32.ofInt 49) (Int32.ofInt 57)
theorem z_X5_digitAt (M : Mem) (x1 : Int32) : f_X5_digitAt M x1 = 0 ∨ f_X5_digitAt M x1 = 1 := by
  unfold f_X5_digitAt
  repeat' split
  all_goals first | exact Or.inl rfl | exact Or.inr rfl | exact z_X9_within ..
theorem s_X5_digitAt {E : VE} {d : Nat} {Q : QQ} {L : LMem} (M : Mem) (x1 : Int32) (hQ : Q (some (.int (f_X5_digitAt M x1))) M L) : Wp E (d + 1) 34 0 [.ref 1, .int x1] [] M L Q := by
  refine wp_seg (pc' := 2) [.aload 0, .iload 1] (by decide +kernel) (?_ : Wp E (d + 1) 34 2 [.ref 1, .int x1] [.int x1, .ref 1] M L Q)
  refine wp_callV 31 1 [.int x1] (i := 19) (by decide +kernel) (by decide +kernel) (by decide +kernel) (by decide +kernel) rfl rfl rfl (rest := []) rfl rfl ?_
  refine s_X5_signAt M x1  ?_
  show Wp E (d + 1) 34 5 [.ref 1, .int x1] [.int (f_X5_signAt M x1)] M L Q
  refine wp_seg (pc' := 9) [.iconst 49, .iconst 57] (by decide +kernel) (?_ : Wp E (d + 1) 34 9 [.ref 1, .int x1] [.int (Int32.ofInt 57), .int (Int32.ofInt 49), .int (f_X5_signAt M x1)] M L Q)
  refine wp_callN 90 [.int (f_X5_signAt M x1), .int (Int32.ofInt 49), .int (Int32.ofInt 57)] (i := 23) (by decide +kernel) (by decide +kernel) (by decide +kernel) (by decide +kernel) rfl rfl rfl (rest := []) rfl rfl ?_
  refine s_X9_within M (f_X5_signAt M x1) (Int32.ofInt 49) (Int32.ofInt 57)  ?_
  show Wp E (d + 1) 34 12 [.ref 1, .int x1] [.int (f_X9_within M (f_X5_signAt M x1) (Int32.ofInt 49) (Int32.ofInt 57))] M L Q
  exact wp_zret (by decide +kernel) rfl (z_X9_within ..) hQ

def f_X5_kindAt (M : Mem) (x1 : Int32) : Int32 := (if (f_X5_signAt M x1) = (Int32.ofInt 45) then Int32.ofInt 1 else (if (f_X5_signAt M x1) = (Int32.ofInt 62) then Int32.ofInt 1 else (if (f_X5_signAt M x1) = (Int32.ofInt 126) then Int32.ofInt 1 else (if (f_X5_signAt M x1) = (Int32.ofInt 61) then Int32.ofInt 1 else (if (f_X5_signAt M x1) = (Int32.ofInt 120) then Int32.ofInt 1 else Int32.ofInt 0)))))
theorem z_X5_kindAt (M : Mem) (x1 : Int32) : f_X5_kindAt M x1 = 0 ∨ f_X5_kindAt M x1 = 1 := by
  unfold f_X5_kindAt
  repeat' split
  all_goals first | exact Or.inl rfl | exact Or.inr rfl
theorem s_X5_kindAt {E : VE} {d : Nat} {Q : QQ} {L : LMem} (M : Mem) (x1 : Int32) (hQ : Q (some (.int (f_X5_kindAt M x1))) M L) : Wp E (d + 1) 35 0 [.ref 1, .int x1, .null] [] M L Q := by
  refine wp_seg (pc' := 2) [.aload 0, .iload 1] (by decide +kernel) (?_ : Wp E (d + 1) 35 2 [.ref 1, .int x1, .null] [.int x1, .ref 1] M L Q)
  refine wp_callV 31 1 [.int x1] (i := 19) (by decide +kernel) (by decide +kernel) (by decide +kernel) (by decide +kernel) rfl rfl rfl (rest := []) rfl rfl ?_
  refine s_X5_signAt M x1  ?_
  show Wp E (d + 1) 35 5 [.ref 1, .int x1, .null] [.int (f_X5_signAt M x1)] M L Q
  refine wp_seg (pc' := 9) [.istore 2, .iload 2, .iconst 45] (by decide +kernel) (?_ : Wp E (d + 1) 35 9 [.ref 1, .int x1, .int (f_X5_signAt M x1)] [.int (Int32.ofInt 45), .int (f_X5_signAt M x1)] M L Q)
  refine wp_icmpeq (off := 27) 36 (by decide +kernel) (by decide) (fun c_1 => ?_) (fun c_1 => ?_)
  · refine wp_seg (pc' := 41) [.iconst 1, .goto 0] (by decide +kernel) (?_ : Wp E (d + 1) 35 41 [.ref 1, .int x1, .int (f_X5_signAt M x1)] [.int (Int32.ofInt 1)] M L Q)
    exact wp_zret (by decide +kernel) rfl (by decide) (by rw [f_X5_kindAt, if_pos c_1] at hQ; exact hQ)
  · refine wp_seg (pc' := 15) [.iload 2, .iconst 62] (by decide +kernel) (?_ : Wp E (d + 1) 35 15 [.ref 1, .int x1, .int (f_X5_signAt M x1)] [.int (Int32.ofInt 62), .int (f_X5_signAt M x1)] M L Q)
    refine wp_icmpeq (off := 21) 36 (by decide +kernel) (by decide) (fun c_2 => ?_) (fun c_2 => ?_)
    · refine wp_seg (pc' := 41) [.iconst 1, .goto 0] (by decide +kernel) (?_ : Wp E (d + 1) 35 41 [.ref 1, .int x1, .int (f_X5_signAt M x1)] [.int (Int32.ofInt 1)] M L Q)
      exact wp_zret (by decide +kernel) rfl (by decide) (by rw [f_X5_kindAt, if_neg c_1, if_pos c_2] at hQ; exact hQ)
    · refine wp_seg (pc' := 21) [.iload 2, .iconst 126] (by decide +kernel) (?_ : Wp E (d + 1) 35 21 [.ref 1, .int x1, .int (f_X5_signAt M x1)] [.int (Int32.ofInt 126), .int (f_X5_signAt M x1)] M L Q)
      refine wp_icmpeq (off := 15) 36 (by decide +kernel) (by decide) (fun c_3 => ?_) (fun c_3 => ?_)
      · refine wp_seg (pc' := 41) [.iconst 1, .goto 0] (by decide +kernel) (?_ : Wp E (d + 1) 35 41 [.ref 1, .int x1, .int (f_X5_signAt M x1)] [.int (Int32.ofInt 1)] M L Q)
        exact wp_zret (by decide +kernel) rfl (by decide) (by rw [f_X5_kindAt, if_neg c_1, if_neg c_2, if_pos c_3] at hQ; exact hQ)
      · refine wp_seg (pc' := 27) [.iload 2, .iconst 61] (by decide +kernel) (?_ : Wp E (d + 1) 35 27 [.ref 1, .int x1, .int (f_X5_signAt M x1)] [.int (Int32.ofInt 61), .int (f_X5_signAt M x1)] M L Q)
        refine wp_icmpeq (off := 9) 36 (by decide +kernel) (by decide) (fun c_4 => ?_) (fun c_4 => ?_)
        · refine wp_seg (pc' := 41) [.iconst 1, .goto 0] (by decide +kernel) (?_ : Wp E (d + 1) 35 41 [.ref 1, .int x1, .int (f_X5_signAt M x1)] [.int (Int32.ofInt 1)] M L Q)
          exact wp_zret (by decide +kernel) rfl (by decide) (by rw [f_X5_kindAt, if_neg c_1, if_neg c_2, if_neg c_3, if_pos c_4] at hQ; exact hQ)
        · refine wp_seg (pc' := 33) [.iload 2, .iconst 120] (by decide +kernel) (?_ : Wp E (d + 1) 35 33 [.ref 1, .int x1, .int (f_X5_signAt M x1)] [.int (Int32.ofInt 120), .int (f_X5_signAt M x1)] M L Q)
          refine wp_icmpne (off := 7) 40 (by decide +kernel) (by decide) (fun c_5 => ?_) (fun c_5 => ?_)
          · refine wp_seg (pc' := 41) [.iconst 0] (by decide +kernel) (?_ : Wp E (d + 1) 35 41 [.ref 1, .int x1, .int (f_X5_signAt M x1)] [.int (Int32.ofInt 0)] M L Q)
            exact wp_zret (by decide +kernel) rfl (by decide) (by rw [f_X5_kindAt, if_neg c_1, if_neg c_2, if_neg c_3, if_neg c_4, if_neg c_5] at hQ; exact hQ)
          · refine wp_seg (pc' := 41) [.iconst 1, .goto 0] (by decide +kernel) (?_ : Wp E (d + 1) 35 41 [.ref 1, .int x1, .int (f_X5_signAt M x1)] [.int (Int32.ofInt 1)] M L Q)
            exact wp_zret (by decide +kernel) rfl (by decide) (by rw [f_X5_kindAt, if_neg c_1, if_neg c_2, if_neg c_3, if_neg c_4, if_pos c_5] at hQ; exact hQ)

def f_X5_roomOf (M : Mem) (x1 : Int32) : Int32 := (f_X5_signAt M x1) - (Int32.ofInt 65)
theorem s_X5_roomOf {E : VE} {d : Nat} {Q : QQ} {L : LMem} (M : Mem) (x1 : Int32) (hQ : Q (some (.int (f_X5_roomOf M x1))) M L) : Wp E (d + 1) 36 0 [.ref 1, .int x1] [] M L Q := by
  refine wp_seg (pc' := 2) [.aload 0, .iload 1] (by decide +kernel) (?_ : Wp E (d + 1) 36 2 [.ref 1, .int x1] [.int x1, .ref 1] M L Q)
  refine wp_callV 31 1 [.int x1] (i := 19) (by decide +kernel) (by decide +kernel) (by decide +kernel) (by decide +kernel) rfl rfl rfl (rest := []) rfl rfl ?_
  refine s_X5_signAt M x1  ?_
  show Wp E (d + 1) 36 5 [.ref 1, .int x1] [.int (f_X5_signAt M x1)] M L Q
  refine wp_seg (pc' := 8) [.iconst 65, .isub] (by decide +kernel) (?_ : Wp E (d + 1) 36 8 [.ref 1, .int x1] [.int ((f_X5_signAt M x1) - (Int32.ofInt 65))] M L Q)
  exact wp_iret (by decide +kernel) rfl hQ

def f_X5_numberOf (M : Mem) (x1 : Int32) : Int32 := (f_X5_signAt M x1) - (Int32.ofInt 48)
theorem s_X5_numberOf {E : VE} {d : Nat} {Q : QQ} {L : LMem} (M : Mem) (x1 : Int32) (hQ : Q (some (.int (f_X5_numberOf M x1))) M L) : Wp E (d + 1) 37 0 [.ref 1, .int x1] [] M L Q := by
  refine wp_seg (pc' := 2) [.aload 0, .iload 1] (by decide +kernel) (?_ : Wp E (d + 1) 37 2 [.ref 1, .int x1] [.int x1, .ref 1] M L Q)
  refine wp_callV 31 1 [.int x1] (i := 19) (by decide +kernel) (by decide +kernel) (by decide +kernel) (by decide +kernel) rfl rfl rfl (rest := []) rfl rfl ?_
  refine s_X5_signAt M x1  ?_
  show Wp E (d + 1) 37 5 [.ref 1, .int x1] [.int (f_X5_signAt M x1)] M L Q
  refine wp_seg (pc' := 8) [.iconst 48, .isub] (by decide +kernel) (?_ : Wp E (d + 1) 37 8 [.ref 1, .int x1] [.int ((f_X5_signAt M x1) - (Int32.ofInt 48))] M L Q)
  exact wp_iret (by decide +kernel) rfl hQ

def f_X5_empty (M : Mem) : Int32 := M 1 1
def g_X5_empty (M : Mem) : Mem := (mput M 1 1 (Int32.ofInt 0))
theorem s_X5_empty {E : VE} {d : Nat} {Q : QQ} {L : LMem} (M : Mem) (hQ : Q (some (.int (f_X5_empty M))) (g_X5_empty M) L) : Wp E d 30 0 [.ref 1, .null] [] M L Q := by
  refine wp_seg (pc' := 11) [.aload 0, .getfield 321, .istore 1, .aload 0, .iconst 0, .putfield 321, .iload 1] (by decide +kernel) (?_ : Wp E d 30 11 [.ref 1, .int (M 1 1)] [.int (M 1 1)] (mput M 1 1 (Int32.ofInt 0)) L Q)
  exact wp_iret (by decide +kernel) rfl hQ

def f_X5_add (M : Mem) (x1 : Int32) : Int32 := (if (M 1 1) < (Int32.ofInt 60) then Int32.ofInt 1 else Int32.ofInt 0)
def g_X5_add (M : Mem) (x1 : Int32) : Mem := (if (M 1 1) < (Int32.ofInt 60) then (mput (mput M 2 ((M 1 1).toNatClampNeg) x1) 1 1 ((M 1 1) + (Int32.ofInt 1))) else M)
theorem z_X5_add (M : Mem) (x1 : Int32) : f_X5_add M x1 = 0 ∨ f_X5_add M x1 = 1 := by
  unfold f_X5_add
  repeat' split
  all_goals first | exact Or.inl rfl | exact Or.inr rfl
theorem s_X5_add {E : VE} {d : Nat} {Q : QQ} {L : LMem} (M : Mem) (x1 : Int32) (o_1 : (M 1 1) < (Int32.ofInt 60) → vp_in (M 1 1) 60) (hQ : Q (some (.int (f_X5_add M x1))) (g_X5_add M x1) L) : Wp E d 29 0 [.ref 1, .int x1] [] M L Q := by
  refine wp_seg (pc' := 6) [.aload 0, .getfield 321, .iconst 60] (by decide +kernel) (?_ : Wp E d 29 6 [.ref 1, .int x1] [.int (Int32.ofInt 60), .int (M 1 1)] M L Q)
  refine wp_icmplt (off := 5) 11 (by decide +kernel) (by decide) (fun c_1 => ?_) (fun c_1 => ?_)
  · refine wp_seg (pc' := 21) [.aload 0, .getfield 320, .aload 0, .getfield 321, .iload 1, .iastore] (by decide +kernel) (show aok 2 0 (M 1 1) ∧ Wp E d 29 21 [.ref 1, .int x1] [] (mput M 2 ((M 1 1).toNatClampNeg) x1) L Q from ⟨⟨rfl, (o_1 c_1)⟩, ?_⟩)
    refine wp_seg (pc' := 32) [.aload 0, .dup, .getfield 321, .iconst 1, .iadd, .putfield 321, .iconst 1] (by decide +kernel) (?_ : Wp E d 29 32 [.ref 1, .int x1] [.int (Int32.ofInt 1)] (mput (mput M 2 ((M 1 1).toNatClampNeg) x1) 1 1 ((M 1 1) + (Int32.ofInt 1))) L Q)
    exact wp_zret (by decide +kernel) rfl (by decide) (by rw [f_X5_add, if_pos c_1, g_X5_add, if_pos c_1] at hQ; exact hQ)
  · refine wp_seg (pc' := 10) [.iconst 0] (by decide +kernel) (?_ : Wp E d 29 10 [.ref 1, .int x1] [.int (Int32.ofInt 0)] M L Q)
    exact wp_zret (by decide +kernel) rfl (by decide) (by rw [f_X5_add, if_neg c_1, g_X5_add, if_neg c_1] at hQ; exact hQ)

def f_X1_carried (M : Mem) (x1 : Int32) (x2 : Int32) : Int32 := (if x2 < x1 then Int32.ofInt 99 else x1)
theorem s_X1_carried {E : VE} {d : Nat} {Q : QQ} {L : LMem} (M : Mem) (x1 : Int32) (x2 : Int32) (hQ : Q (some (.int (f_X1_carried M x1 x2))) M L) : Wp E d 8 0 [.int x1, .int x2] [] M L Q := by
  refine wp_seg (pc' := 2) [.iload 0, .iload 1] (by decide +kernel) (?_ : Wp E d 8 2 [.int x1, .int x2] [.int x2, .int x1] M L Q)
  refine wp_icmpgt (off := 7) 9 (by decide +kernel) (by decide) (fun c_1 => ?_) (fun c_1 => ?_)
  · refine wp_seg (pc' := 11) [.iconst 99] (by decide +kernel) (?_ : Wp E d 8 11 [.int x1, .int x2] [.int (Int32.ofInt 99)] M L Q)
    exact wp_iret (by decide +kernel) rfl (by rw [f_X1_carried, if_pos c_1] at hQ; exact hQ)
  · refine wp_seg (pc' := 11) [.iload 0, .goto 0] (by decide +kernel) (?_ : Wp E d 8 11 [.int x1, .int x2] [.int x1] M L Q)
    exact wp_iret (by decide +kernel) rfl (by rw [f_X1_carried, if_neg c_1] at hQ; exact hQ)

def f_X2_beyond (M : Mem) (x1 : Int32) (x2 : Int32) : Int32 := (if (M 7 x1.toNatClampNeg) = (Int32.ofInt 120) then Int32.ofInt (-6) else (if (M 5 x1.toNatClampNeg) = x2 then M 6 x1.toNatClampNeg else (if (M 6 x1.toNatClampNeg) = x2 then (if (M 7 x1.toNatClampNeg) = (Int32.ofInt 62) then Int32.ofInt (-6) else M 5 x1.toNatClampNeg) else Int32.ofInt (-6))))
theorem s_X2_beyond {E : VE} {d : Nat} {Q : QQ} {L : LMem} (M : Mem) (x1 : Int32) (x2 : Int32) (o_1 : vp_in x1 12) (hQ : Q (some (.int (f_X2_beyond M x1 x2))) M L) : Wp E d 14 0 [.ref 4, .int x1, .int x2] [] M L Q := by
  refine wp_seg (pc' := 6) [.aload 0, .getfield 130, .iload 1, .iaload] (by decide +kernel) (show aok 7 0 x1 ∧ Wp E d 14 6 [.ref 4, .int x1, .int x2] [.int (M 7 x1.toNatClampNeg)] M L Q from ⟨⟨rfl, (o_1)⟩, ?_⟩)
  refine wp_seg (pc' := 8) [.iconst 120] (by decide +kernel) (?_ : Wp E d 14 8 [.ref 4, .int x1, .int x2] [.int (Int32.ofInt 120), .int (M 7 x1.toNatClampNeg)] M L Q)
  refine wp_icmpne (off := 6) 14 (by decide +kernel) (by decide) (fun c_1 => ?_) (fun c_1 => ?_)
  · refine wp_seg (pc' := 20) [.aload 0, .getfield 128, .iload 1, .iaload] (by decide +kernel) (show aok 5 0 x1 ∧ Wp E d 14 20 [.ref 4, .int x1, .int x2] [.int (M 5 x1.toNatClampNeg)] M L Q from ⟨⟨rfl, (o_1)⟩, ?_⟩)
    refine wp_seg (pc' := 21) [.iload 2] (by decide +kernel) (?_ : Wp E d 14 21 [.ref 4, .int x1, .int x2] [.int x2, .int (M 5 x1.toNatClampNeg)] M L Q)
    refine wp_icmpne (off := 10) 31 (by decide +kernel) (by decide) (fun c_2 => ?_) (fun c_2 => ?_)
    · refine wp_seg (pc' := 37) [.aload 0, .getfield 129, .iload 1, .iaload] (by decide +kernel) (show aok 6 0 x1 ∧ Wp E d 14 37 [.ref 4, .int x1, .int x2] [.int (M 6 x1.toNatClampNeg)] M L Q from ⟨⟨rfl, (o_1)⟩, ?_⟩)
      refine wp_seg (pc' := 38) [.iload 2] (by decide +kernel) (?_ : Wp E d 14 38 [.ref 4, .int x1, .int x2] [.int x2, .int (M 6 x1.toNatClampNeg)] M L Q)
      refine wp_icmpne (off := 23) 61 (by decide +kernel) (by decide) (fun c_3 => ?_) (fun c_3 => ?_)
      · refine wp_seg (pc' := 63) [.iconst (-6)] (by decide +kernel) (?_ : Wp E d 14 63 [.ref 4, .int x1, .int x2] [.int (Int32.ofInt (-6))] M L Q)
        exact wp_iret (by decide +kernel) rfl (by rw [f_X2_beyond, if_neg c_1, if_neg c_2, if_neg c_3] at hQ; exact hQ)
      · refine wp_seg (pc' := 47) [.aload 0, .getfield 130, .iload 1, .iaload] (by decide +kernel) (show aok 7 0 x1 ∧ Wp E d 14 47 [.ref 4, .int x1, .int x2] [.int (M 7 x1.toNatClampNeg)] M L Q from ⟨⟨rfl, (o_1)⟩, ?_⟩)
        refine wp_seg (pc' := 49) [.iconst 62] (by decide +kernel) (?_ : Wp E d 14 49 [.ref 4, .int x1, .int x2] [.int (Int32.ofInt 62), .int (M 7 x1.toNatClampNeg)] M L Q)
        refine wp_icmpeq (off := 12) 61 (by decide +kernel) (by decide) (fun c_4 => ?_) (fun c_4 => ?_)
        · refine wp_seg (pc' := 63) [.iconst (-6)] (by decide +kernel) (?_ : Wp E d 14 63 [.ref 4, .int x1, .int x2] [.int (Int32.ofInt (-6))] M L Q)
          exact wp_iret (by decide +kernel) rfl (by rw [f_X2_beyond, if_neg c_1, if_neg c_2, if_pos c_3, if_pos c_4] at hQ; exact hQ)
        · refine wp_seg (pc' := 58) [.aload 0, .getfield 128, .iload 1, .iaload] (by decide +kernel) (show aok 5 0 x1 ∧ Wp E d 14 58 [.ref 4, .int x1, .int x2] [.int (M 5 x1.toNatClampNeg)] M L Q from ⟨⟨rfl, (o_1)⟩, ?_⟩)
          refine wp_seg (pc' := 63) [.goto 0] (by decide +kernel) (?_ : Wp E d 14 63 [.ref 4, .int x1, .int x2] [.int (M 5 x1.toNatClampNeg)] M L Q)
          exact wp_iret (by decide +kernel) rfl (by rw [f_X2_beyond, if_neg c_1, if_neg c_2, if_pos c_3, if_neg c_4] at hQ; exact hQ)
    · refine wp_seg (pc' := 30) [.aload 0, .getfield 129, .iload 1, .iaload] (by decide +kernel) (show aok 6 0 x1 ∧ Wp E d 14 30 [.ref 4, .int x1, .int x2] [.int (M 6 x1.toNatClampNeg)] M L Q from ⟨⟨rfl, (o_1)⟩, ?_⟩)
      exact wp_iret (by decide +kernel) rfl (by rw [f_X2_beyond, if_neg c_1, if_pos c_2] at hQ; exact hQ)
  · refine wp_seg (pc' := 13) [.iconst (-6)] (by decide +kernel) (?_ : Wp E d 14 13 [.ref 4, .int x1, .int x2] [.int (Int32.ofInt (-6))] M L Q)
    exact wp_iret (by decide +kernel) rfl (by rw [f_X2_beyond, if_pos c_1] at hQ; exact hQ)

def f_X6_stepOf (M : Mem) (x2 : Int32) : Int32 := ((M 8 x2.toNatClampNeg) <<< ((Int32.ofInt 4) &&& 31)) + (Int32.ofInt 1)
theorem s_X6_stepOf {E : VE} {d : Nat} {Q : QQ} {L : LMem} (M : Mem) (x2 : Int32) (o_1 : vp_in x2 12) (hQ : Q (some (.int (f_X6_stepOf M x2))) M L) : Wp E d 43 0 [.ref 4, .int x2] [] M L Q := by
  refine wp_seg (pc' := 6) [.aload 0, .getfield 131, .iload 1, .iaload] (by decide +kernel) (show aok 8 0 x2 ∧ Wp E d 43 6 [.ref 4, .int x2] [.int (M 8 x2.toNatClampNeg)] M L Q from ⟨⟨rfl, (o_1)⟩, ?_⟩)
  refine wp_seg (pc' := 10) [.iconst 4, .ishl, .iconst 1, .iadd] (by decide +kernel) (?_ : Wp E d 43 10 [.ref 4, .int x2] [.int (((M 8 x2.toNatClampNeg) <<< ((Int32.ofInt 4) &&& 31)) + (Int32.ofInt 1))] M L Q)
  exact wp_iret (by decide +kernel) rfl hQ

def f_X6_bringsNearer (M : Mem) (x2 : Int32) : Int32 := (if (M 7 x2.toNatClampNeg) = (Int32.ofInt 120) then Int32.ofInt 0 else (if (M 38 ((M 5 x2.toNatClampNeg).toNatClampNeg)) ≤ ((M 38 ((M 6 x2.toNatClampNeg).toNatClampNeg)) + (f_X6_stepOf M x2)) then (if (M 7 x2.toNatClampNeg) = (Int32.ofInt 62) then Int32.ofInt 0 else (if (M 38 ((M 6 x2.toNatClampNeg).toNatClampNeg)) ≤ ((M 38 ((M 5 x2.toNatClampNeg).toNatClampNeg)) + (f_X6_stepOf M x2)) then Int32.ofInt 0 else Int32.ofInt 1)) else Int32.ofInt 1))
def g_X6_bringsNearer (M : Mem) (x2 : Int32) : Mem := (if (M 7 x2.toNatClampNeg) = (Int32.ofInt 120) then M else (if (M 38 ((M 5 x2.toNatClampNeg).toNatClampNeg)) ≤ ((M 38 ((M 6 x2.toNatClampNeg).toNatClampNeg)) + (f_X6_stepOf M x2)) then (if (M 7 x2.toNatClampNeg) = (Int32.ofInt 62) then M else (if (M 38 ((M 6 x2.toNatClampNeg).toNatClampNeg)) ≤ ((M 38 ((M 5 x2.toNatClampNeg).toNatClampNeg)) + (f_X6_stepOf M x2)) then M else (mput M 38 ((M 6 x2.toNatClampNeg).toNatClampNeg) ((M 38 ((M 5 x2.toNatClampNeg).toNatClampNeg)) + (f_X6_stepOf M x2))))) else (mput M 38 ((M 5 x2.toNatClampNeg).toNatClampNeg) ((M 38 ((M 6 x2.toNatClampNeg).toNatClampNeg)) + (f_X6_stepOf M x2)))))
theorem z_X6_bringsNearer (M : Mem) (x2 : Int32) : f_X6_bringsNearer M x2 = 0 ∨ f_X6_bringsNearer M x2 = 1 := by
  unfold f_X6_bringsNearer
  repeat' split
  all_goals first | exact Or.inl rfl | exact Or.inr rfl
theorem s_X6_bringsNearer {E : VE} {d : Nat} {Q : QQ} {L : LMem} (M : Mem) (x2 : Int32) (o_1 : vp_in x2 12) (o_2 : (vp_in x2 12)) (o_3 : ¬ ((M 7 x2.toNatClampNeg) = (Int32.ofInt 120)) → vp_in (M 6 x2.toNatClampNeg) 8) (o_4 : ¬ ((M 7 x2.toNatClampNeg) = (Int32.ofInt 120)) → vp_in (M 5 x2.toNatClampNeg) 8) (hQ : Q (some (.int (f_X6_bringsNearer M x2))) (g_X6_bringsNearer M x2) L) : Wp E (d + 1) 42 0 [.ref 37, .ref 4, .int x2, .null, .null, .null, .null] [] M L Q := by
  refine wp_seg (pc' := 6) [.aload 1, .getfield 128, .iload 2, .iaload] (by decide +kernel) (show aok 5 0 x2 ∧ Wp E (d + 1) 42 6 [.ref 37, .ref 4, .int x2, .null, .null, .null, .null] [.int (M 5 x2.toNatClampNeg)] M L Q from ⟨⟨rfl, (o_1)⟩, ?_⟩)
  refine wp_seg (pc' := 13) [.istore 3, .aload 1, .getfield 129, .iload 2, .iaload] (by decide +kernel) (show aok 6 0 x2 ∧ Wp E (d + 1) 42 13 [.ref 37, .ref 4, .int x2, .int (M 5 x2.toNatClampNeg), .null, .null, .null] [.int (M 6 x2.toNatClampNeg)] M L Q from ⟨⟨rfl, (o_1)⟩, ?_⟩)
  refine wp_seg (pc' := 21) [.istore 4, .aload 1, .getfield 130, .iload 2, .iaload] (by decide +kernel) (show aok 7 0 x2 ∧ Wp E (d + 1) 42 21 [.ref 37, .ref 4, .int x2, .int (M 5 x2.toNatClampNeg), .int (M 6 x2.toNatClampNeg), .null, .null] [.int (M 7 x2.toNatClampNeg)] M L Q from ⟨⟨rfl, (o_1)⟩, ?_⟩)
  refine wp_seg (pc' := 25) [.istore 5, .aload 1, .iload 2] (by decide +kernel) (?_ : Wp E (d + 1) 42 25 [.ref 37, .ref 4, .int x2, .int (M 5 x2.toNatClampNeg), .int (M 6 x2.toNatClampNeg), .int (M 7 x2.toNatClampNeg), .null] [.int x2, .ref 4] M L Q)
  refine wp_callS 43 [.ref 4, .int x2] (i := 55) (by decide +kernel) (by decide +kernel) (by decide +kernel) rfl rfl rfl (rest := []) rfl rfl ?_
  refine s_X6_stepOf M x2 (o_2) ?_
  show Wp E (d + 1) 42 28 [.ref 37, .ref 4, .int x2, .int (M 5 x2.toNatClampNeg), .int (M 6 x2.toNatClampNeg), .int (M 7 x2.toNatClampNeg), .null] [.int (f_X6_stepOf M x2)] M L Q
  refine wp_seg (pc' := 34) [.istore 6, .iload 5, .iconst 120] (by decide +kernel) (?_ : Wp E (d + 1) 42 34 [.ref 37, .ref 4, .int x2, .int (M 5 x2.toNatClampNeg), .int (M 6 x2.toNatClampNeg), .int (M 7 x2.toNatClampNeg), .int (f_X6_stepOf M x2)] [.int (Int32.ofInt 120), .int (M 7 x2.toNatClampNeg)] M L Q)
  refine wp_icmpeq (off := 40) 74 (by decide +kernel) (by decide) (fun c_1 => ?_) (fun c_1 => ?_)
  · refine wp_seg (pc' := 78) [.iload 5, .iconst 120] (by decide +kernel) (?_ : Wp E (d + 1) 42 78 [.ref 37, .ref 4, .int x2, .int (M 5 x2.toNatClampNeg), .int (M 6 x2.toNatClampNeg), .int (M 7 x2.toNatClampNeg), .int (f_X6_stepOf M x2)] [.int (Int32.ofInt 120), .int (M 7 x2.toNatClampNeg)] M L Q)
    refine wp_icmpeq (off := 47) 125 (by decide +kernel) (by decide) (fun c_2 => ?_) (fun c_2 => ?_)
    · refine wp_seg (pc' := 126) [.iconst 0] (by decide +kernel) (?_ : Wp E (d + 1) 42 126 [.ref 37, .ref 4, .int x2, .int (M 5 x2.toNatClampNeg), .int (M 6 x2.toNatClampNeg), .int (M 7 x2.toNatClampNeg), .int (f_X6_stepOf M x2)] [.int (Int32.ofInt 0)] M L Q)
      exact wp_zret (by decide +kernel) rfl (by decide) (by rw [f_X6_bringsNearer, if_pos c_1, g_X6_bringsNearer, if_pos c_1] at hQ; exact hQ)
    · exact absurd c_1 c_2
  · refine wp_seg (pc' := 44) [.aload 0, .getfield 384, .iload 4, .iaload] (by decide +kernel) (show aok 38 0 (M 6 x2.toNatClampNeg) ∧ Wp E (d + 1) 42 44 [.ref 37, .ref 4, .int x2, .int (M 5 x2.toNatClampNeg), .int (M 6 x2.toNatClampNeg), .int (M 7 x2.toNatClampNeg), .int (f_X6_stepOf M x2)] [.int (M 38 ((M 6 x2.toNatClampNeg).toNatClampNeg))] M L Q from ⟨⟨rfl, (o_3 c_1)⟩, ?_⟩)
    refine wp_seg (pc' := 53) [.iload 6, .iadd, .aload 0, .getfield 384, .iload 3, .iaload] (by decide +kernel) (show aok 38 0 (M 5 x2.toNatClampNeg) ∧ Wp E (d + 1) 42 53 [.ref 37, .ref 4, .int x2, .int (M 5 x2.toNatClampNeg), .int (M 6 x2.toNatClampNeg), .int (M 7 x2.toNatClampNeg), .int (f_X6_stepOf M x2)] [.int (M 38 ((M 5 x2.toNatClampNeg).toNatClampNeg)), .int ((M 38 ((M 6 x2.toNatClampNeg).toNatClampNeg)) + (f_X6_stepOf M x2))] M L Q from ⟨⟨rfl, (o_4 c_1)⟩, ?_⟩)
    refine wp_icmpge (off := 21) 74 (by decide +kernel) (by decide) (fun c_3 => ?_) (fun c_3 => ?_)
    · refine wp_seg (pc' := 78) [.iload 5, .iconst 120] (by decide +kernel) (?_ : Wp E (d + 1) 42 78 [.ref 37, .ref 4, .int x2, .int (M 5 x2.toNatClampNeg), .int (M 6 x2.toNatClampNeg), .int (M 7 x2.toNatClampNeg), .int (f_X6_stepOf M x2)] [.int (Int32.ofInt 120), .int (M 7 x2.toNatClampNeg)] M L Q)
      refine wp_icmpeq (off := 47) 125 (by decide +kernel) (by decide) (fun c_4 => ?_) (fun c_4 => ?_)
      · exact absurd c_4 c_1
      · refine wp_seg (pc' := 85) [.iload 5, .iconst 62] (by decide +kernel) (?_ : Wp E (d + 1) 42 85 [.ref 37, .ref 4, .int x2, .int (M 5 x2.toNatClampNeg), .int (M 6 x2.toNatClampNeg), .int (M 7 x2.toNatClampNeg), .int (f_X6_stepOf M x2)] [.int (Int32.ofInt 62), .int (M 7 x2.toNatClampNeg)] M L Q)
        refine wp_icmpeq (off := 40) 125 (by decide +kernel) (by decide) (fun c_5 => ?_) (fun c_5 => ?_)
        · refine wp_seg (pc' := 126) [.iconst 0] (by decide +kernel) (?_ : Wp E (d + 1) 42 126 [.ref 37, .ref 4, .int x2, .int (M 5 x2.toNatClampNeg), .int (M 6 x2.toNatClampNeg), .int (M 7 x2.toNatClampNeg), .int (f_X6_stepOf M x2)] [.int (Int32.ofInt 0)] M L Q)
          exact wp_zret (by decide +kernel) rfl (by decide) (by rw [f_X6_bringsNearer, if_neg c_1, if_pos c_3, if_pos c_5, g_X6_bringsNearer, if_neg c_1, if_pos c_3, if_pos c_5] at hQ; exact hQ)
        · refine wp_seg (pc' := 94) [.aload 0, .getfield 384, .iload 3, .iaload] (by decide +kernel) (show aok 38 0 (M 5 x2.toNatClampNeg) ∧ Wp E (d + 1) 42 94 [.ref 37, .ref 4, .int x2, .int (M 5 x2.toNatClampNeg), .int (M 6 x2.toNatClampNeg), .int (M 7 x2.toNatClampNeg), .int (f_X6_stepOf M x2)] [.int (M 38 ((M 5 x2.toNatClampNeg).toNatClampNeg))] M L Q from ⟨⟨rfl, (o_4 c_1)⟩, ?_⟩)
          refine wp_seg (pc' := 104) [.iload 6, .iadd, .aload 0, .getfield 384, .iload 4, .iaload] (by decide +kernel) (show aok 38 0 (M 6 x2.toNatClampNeg) ∧ Wp E (d + 1) 42 104 [.ref 37, .ref 4, .int x2, .int (M 5 x2.toNatClampNeg), .int (M 6 x2.toNatClampNeg), .int (M 7 x2.toNatClampNeg), .int (f_X6_stepOf M x2)] [.int (M 38 ((M 6 x2.toNatClampNeg).toNatClampNeg)), .int ((M 38 ((M 5 x2.toNatClampNeg).toNatClampNeg)) + (f_X6_stepOf M x2))] M L Q from ⟨⟨rfl, (o_3 c_1)⟩, ?_⟩)
          refine wp_icmpge (off := 21) 125 (by decide +kernel) (by decide) (fun c_6 => ?_) (fun c_6 => ?_)
          · refine wp_seg (pc' := 126) [.iconst 0] (by decide +kernel) (?_ : Wp E (d + 1) 42 126 [.ref 37, .ref 4, .int x2, .int (M 5 x2.toNatClampNeg), .int (M 6 x2.toNatClampNeg), .int (M 7 x2.toNatClampNeg), .int (f_X6_stepOf M x2)] [.int (Int32.ofInt 0)] M L Q)
            exact wp_zret (by decide +kernel) rfl (by decide) (by rw [f_X6_bringsNearer, if_neg c_1, if_pos c_3, if_neg c_5, if_pos c_6, g_X6_bringsNearer, if_neg c_1, if_pos c_3, if_neg c_5, if_pos c_6] at hQ; exact hQ)
          · refine wp_seg (pc' := 119) [.aload 0, .getfield 384, .iload 4, .aload 0, .getfield 384, .iload 3, .iaload] (by decide +kernel) (show aok 38 0 (M 5 x2.toNatClampNeg) ∧ Wp E (d + 1) 42 119 [.ref 37, .ref 4, .int x2, .int (M 5 x2.toNatClampNeg), .int (M 6 x2.toNatClampNeg), .int (M 7 x2.toNatClampNeg), .int (f_X6_stepOf M x2)] [.int (M 38 ((M 5 x2.toNatClampNeg).toNatClampNeg)), .int (M 6 x2.toNatClampNeg), .ref 38] M L Q from ⟨⟨rfl, (o_4 c_1)⟩, ?_⟩)
            refine wp_seg (pc' := 123) [.iload 6, .iadd, .iastore] (by decide +kernel) (show aok 38 0 (M 6 x2.toNatClampNeg) ∧ Wp E (d + 1) 42 123 [.ref 37, .ref 4, .int x2, .int (M 5 x2.toNatClampNeg), .int (M 6 x2.toNatClampNeg), .int (M 7 x2.toNatClampNeg), .int (f_X6_stepOf M x2)] [] (mput M 38 ((M 6 x2.toNatClampNeg).toNatClampNeg) ((M 38 ((M 5 x2.toNatClampNeg).toNatClampNeg)) + (f_X6_stepOf M x2))) L Q from ⟨⟨rfl, (o_3 c_1)⟩, ?_⟩)
            refine wp_seg (pc' := 124) [.iconst 1] (by decide +kernel) (?_ : Wp E (d + 1) 42 124 [.ref 37, .ref 4, .int x2, .int (M 5 x2.toNatClampNeg), .int (M 6 x2.toNatClampNeg), .int (M 7 x2.toNatClampNeg), .int (f_X6_stepOf M x2)] [.int (Int32.ofInt 1)] (mput M 38 ((M 6 x2.toNatClampNeg).toNatClampNeg) ((M 38 ((M 5 x2.toNatClampNeg).toNatClampNeg)) + (f_X6_stepOf M x2))) L Q)
            exact wp_zret (by decide +kernel) rfl (by decide) (by rw [f_X6_bringsNearer, if_neg c_1, if_pos c_3, if_neg c_5, if_neg c_6, g_X6_bringsNearer, if_neg c_1, if_pos c_3, if_neg c_5, if_neg c_6] at hQ; exact hQ)
    · refine wp_seg (pc' := 68) [.aload 0, .getfield 384, .iload 3, .aload 0, .getfield 384, .iload 4, .iaload] (by decide +kernel) (show aok 38 0 (M 6 x2.toNatClampNeg) ∧ Wp E (d + 1) 42 68 [.ref 37, .ref 4, .int x2, .int (M 5 x2.toNatClampNeg), .int (M 6 x2.toNatClampNeg), .int (M 7 x2.toNatClampNeg), .int (f_X6_stepOf M x2)] [.int (M 38 ((M 6 x2.toNatClampNeg).toNatClampNeg)), .int (M 5 x2.toNatClampNeg), .ref 38] M L Q from ⟨⟨rfl, (o_3 c_1)⟩, ?_⟩)
      refine wp_seg (pc' := 72) [.iload 6, .iadd, .iastore] (by decide +kernel) (show aok 38 0 (M 5 x2.toNatClampNeg) ∧ Wp E (d + 1) 42 72 [.ref 37, .ref 4, .int x2, .int (M 5 x2.toNatClampNeg), .int (M 6 x2.toNatClampNeg), .int (M 7 x2.toNatClampNeg), .int (f_X6_stepOf M x2)] [] (mput M 38 ((M 5 x2.toNatClampNeg).toNatClampNeg) ((M 38 ((M 6 x2.toNatClampNeg).toNatClampNeg)) + (f_X6_stepOf M x2))) L Q from ⟨⟨rfl, (o_4 c_1)⟩, ?_⟩)
      refine wp_seg (pc' := 73) [.iconst 1] (by decide +kernel) (?_ : Wp E (d + 1) 42 73 [.ref 37, .ref 4, .int x2, .int (M 5 x2.toNatClampNeg), .int (M 6 x2.toNatClampNeg), .int (M 7 x2.toNatClampNeg), .int (f_X6_stepOf M x2)] [.int (Int32.ofInt 1)] (mput M 38 ((M 5 x2.toNatClampNeg).toNatClampNeg) ((M 38 ((M 6 x2.toNatClampNeg).toNatClampNeg)) + (f_X6_stepOf M x2))) L Q)
      exact wp_zret (by decide +kernel) rfl (by decide) (by rw [f_X6_bringsNearer, if_neg c_1, if_neg c_3, g_X6_bringsNearer, if_neg c_1, if_neg c_3] at hQ; exact hQ)

def f_X4_span (M : Mem) (x1 : Int32) (x2 : Int32) : Int64 := (((Int64.ofNat 1) <<< (x2.toInt64 &&& 63)) - (Int64.ofNat 1)) <<< (x1.toInt64 &&& 63)
theorem s_X4_span {E : VE} {d : Nat} {Q : QQ} {L : LMem} (M : Mem) (x1 : Int32) (x2 : Int32) (hQ : Q (some (.long (f_X4_span M x1 x2))) M L) : Wp E d 23 0 [.int x1, .int x2] [] M L Q := by
  refine wp_seg (pc' := 7) [.ldc2_w 1, .iload 1, .lshl, .ldc2_w 1, .lsub, .iload 0, .lshl] (by decide +kernel) (?_ : Wp E d 23 7 [.int x1, .int x2] [.long ((((Int64.ofNat 1) <<< (x2.toInt64 &&& 63)) - (Int64.ofNat 1)) <<< (x1.toInt64 &&& 63))] M L Q)
  exact wp_lret (by decide +kernel) rfl hQ

def g_X4_swap (M : Mem) (x1 : Int32) (x2 : Int32) : Mem := (mput (mput M 54 x1.toNatClampNeg (M 54 x2.toNatClampNeg)) 54 x2.toNatClampNeg (M 54 x1.toNatClampNeg))
theorem s_X4_swap {E : VE} {d : Nat} {Q : QQ} {L : LMem} (M : Mem) (x1 : Int32) (x2 : Int32) (o_1 : vp_in x1 5) (o_2 : vp_in x2 5) (hQ : Q none (g_X4_swap M x1 x2) L) : Wp E d 28 0 [.ref 49, .int x1, .int x2, .null] [] M L Q := by
  refine wp_seg (pc' := 6) [.aload 0, .getfield 260, .iload 1, .iaload] (by decide +kernel) (show aok 54 0 x1 ∧ Wp E d 28 6 [.ref 49, .int x1, .int x2, .null] [.int (M 54 x1.toNatClampNeg)] M L Q from ⟨⟨rfl, (o_1)⟩, ?_⟩)
  refine wp_seg (pc' := 18) [.istore 3, .aload 0, .getfield 260, .iload 1, .aload 0, .getfield 260, .iload 2, .iaload] (by decide +kernel) (show aok 54 0 x2 ∧ Wp E d 28 18 [.ref 49, .int x1, .int x2, .int (M 54 x1.toNatClampNeg)] [.int (M 54 x2.toNatClampNeg), .int x1, .ref 54] M L Q from ⟨⟨rfl, (o_2)⟩, ?_⟩)
  refine wp_seg (pc' := 19) [.iastore] (by decide +kernel) (show aok 54 0 x1 ∧ Wp E d 28 19 [.ref 49, .int x1, .int x2, .int (M 54 x1.toNatClampNeg)] [] (mput M 54 x1.toNatClampNeg (M 54 x2.toNatClampNeg)) L Q from ⟨⟨rfl, (o_1)⟩, ?_⟩)
  refine wp_seg (pc' := 26) [.aload 0, .getfield 260, .iload 2, .iload 3, .iastore] (by decide +kernel) (show aok 54 0 x2 ∧ Wp E d 28 26 [.ref 49, .int x1, .int x2, .int (M 54 x1.toNatClampNeg)] [] (mput (mput M 54 x1.toNatClampNeg (M 54 x2.toNatClampNeg)) 54 x2.toNatClampNeg (M 54 x1.toNatClampNeg)) L Q from ⟨⟨rfl, (o_2)⟩, ?_⟩)
  exact wp_vret (by decide +kernel) rfl hQ

def f_X4_callAt (M : Mem) (x1 : Int32) : Int32 := (if x1 < 0 then Int32.ofInt (-6) else (if (M 49 7) ≤ x1 then Int32.ofInt (-6) else M 55 x1.toNatClampNeg))
theorem s_X4_callAt {E : VE} {d : Nat} {Q : QQ} {L : LMem} (M : Mem) (x1 : Int32) (o_1 : ¬ (x1 < 0) → ¬ ((M 49 7) ≤ x1) → vp_in x1 5) (hQ : Q (some (.int (f_X4_callAt M x1))) M L) : Wp E d 21 0 [.ref 49, .int x1] [] M L Q := by
  refine wp_seg (pc' := 1) [.iload 1] (by decide +kernel) (?_ : Wp E d 21 1 [.ref 49, .int x1] [.int x1] M L Q)
  refine wp_iflt (off := 20) 21 (by decide +kernel) (by decide) (fun c_1 => ?_) (fun c_1 => ?_)
  · refine wp_seg (pc' := 23) [.iconst (-6)] (by decide +kernel) (?_ : Wp E d 21 23 [.ref 49, .int x1] [.int (Int32.ofInt (-6))] M L Q)
    exact wp_iret (by decide +kernel) rfl (by rw [f_X4_callAt, if_pos c_1] at hQ; exact hQ)
  · refine wp_seg (pc' := 9) [.iload 1, .aload 0, .getfield 263] (by decide +kernel) (?_ : Wp E d 21 9 [.ref 49, .int x1] [.int (M 49 7), .int x1] M L Q)
    refine wp_icmpge (off := 12) 21 (by decide +kernel) (by decide) (fun c_2 => ?_) (fun c_2 => ?_)
    · refine wp_seg (pc' := 23) [.iconst (-6)] (by decide +kernel) (?_ : Wp E d 21 23 [.ref 49, .int x1] [.int (Int32.ofInt (-6))] M L Q)
      exact wp_iret (by decide +kernel) rfl (by rw [f_X4_callAt, if_neg c_1, if_pos c_2] at hQ; exact hQ)
    · refine wp_seg (pc' := 18) [.aload 0, .getfield 261, .iload 1, .iaload] (by decide +kernel) (show aok 55 0 x1 ∧ Wp E d 21 18 [.ref 49, .int x1] [.int (M 55 x1.toNatClampNeg)] M L Q from ⟨⟨rfl, (o_1 c_1 c_2)⟩, ?_⟩)
      refine wp_seg (pc' := 23) [.goto 0] (by decide +kernel) (?_ : Wp E d 21 23 [.ref 49, .int x1] [.int (M 55 x1.toNatClampNeg)] M L Q)
      exact wp_iret (by decide +kernel) rfl (by rw [f_X4_callAt, if_neg c_1, if_neg c_2] at hQ; exact hQ)

def f_J6_bitCount_0f7a4 (M : Mem) (x1 : Int32) : Int32 := (((((((x1 - (((x1.toUInt32 >>> ((Int32.ofInt 1).toUInt32 &&& Int32.toUInt32 31)).toInt32) &&& (Int32.ofInt 1431655765))) &&& (Int32.ofInt 858993459)) + ((((x1 - (((x1.toUInt32 >>> ((Int32.ofInt 1).toUInt32 &&& Int32.toUInt32 31)).toInt32) &&& (Int32.ofInt 1431655765))).toUInt32 >>> ((Int32.ofInt 2).toUInt32 &&& Int32.toUInt32 31)).toInt32) &&& (Int32.ofInt 858993459))) + (((((x1 - (((x1.toUInt32 >>> ((Int32.ofInt 1).toUInt32 &&& Int32.toUInt32 31)).toInt32) &&& (Int32.ofInt 1431655765))) &&& (Int32.ofInt 858993459)) + ((((x1 - (((x1.toUInt32 >>> ((Int32.ofInt 1).toUInt32 &&& Int32.toUInt32 31)).toInt32) &&& (Int32.ofInt 1431655765))).toUInt32 >>> ((Int32.ofInt 2).toUInt32 &&& Int32.toUInt32 31)).toInt32) &&& (Int32.ofInt 858993459))).toUInt32 >>> ((Int32.ofInt 4).toUInt32 &&& Int32.toUInt32 31)).toInt32)) &&& (Int32.ofInt 252645135)) + (((((((x1 - (((x1.toUInt32 >>> ((Int32.ofInt 1).toUInt32 &&& Int32.toUInt32 31)).toInt32) &&& (Int32.ofInt 1431655765))) &&& (Int32.ofInt 858993459)) + ((((x1 - (((x1.toUInt32 >>> ((Int32.ofInt 1).toUInt32 &&& Int32.toUInt32 31)).toInt32) &&& (Int32.ofInt 1431655765))).toUInt32 >>> ((Int32.ofInt 2).toUInt32 &&& Int32.toUInt32 31)).toInt32) &&& (Int32.ofInt 858993459))) + (((((x1 - (((x1.toUInt32 >>> ((Int32.ofInt 1).toUInt32 &&& Int32.toUInt32 31)).toInt32) &&& (Int32.ofInt 1431655765))) &&& (Int32.ofInt 858993459)) + ((((x1 - (((x1.toUInt32 >>> ((Int32.ofInt 1).toUInt32 &&& Int32.toUInt32 31)).toInt32) &&& (Int32.ofInt 1431655765))).toUInt32 >>> ((Int32.ofInt 2).toUInt32 &&& Int32.toUInt32 31)).toInt32) &&& (Int32.ofInt 858993459))).toUInt32 >>> ((Int32.ofInt 4).toUInt32 &&& Int32.toUInt32 31)).toInt32)) &&& (Int32.ofInt 252645135)).toUInt32 >>> ((Int32.ofInt 8).toUInt32 &&& Int32.toUInt32 31)).toInt32)) + ((((((((x1 - (((x1.toUInt32 >>> ((Int32.ofInt 1).toUInt32 &&& Int32.toUInt32 31)).toInt32) &&& (Int32.ofInt 1431655765))) &&& (Int32.ofInt 858993459)) + ((((x1 - (((x1.toUInt32 >>> ((Int32.ofInt 1).toUInt32 &&& Int32.toUInt32 31)).toInt32) &&& (Int32.ofInt 1431655765))).toUInt32 >>> ((Int32.ofInt 2).toUInt32 &&& Int32.toUInt32 31)).toInt32) &&& (Int32.ofInt 858993459))) + (((((x1 - (((x1.toUInt32 >>> ((Int32.ofInt 1).toUInt32 &&& Int32.toUInt32 31)).toInt32) &&& (Int32.ofInt 1431655765))) &&& (Int32.ofInt 858993459)) + ((((x1 - (((x1.toUInt32 >>> ((Int32.ofInt 1).toUInt32 &&& Int32.toUInt32 31)).toInt32) &&& (Int32.ofInt 1431655765))).toUInt32 >>> ((Int32.ofInt 2).toUInt32 &&& Int32.toUInt32 31)).toInt32) &&& (Int32.ofInt 858993459))).toUInt32 >>> ((Int32.ofInt 4).toUInt32 &&& Int32.toUInt32 31)).toInt32)) &&& (Int32.ofInt 252645135)) + (((((((x1 - (((x1.toUInt32 >>> ((Int32.ofInt 1).toUInt32 &&& Int32.toUInt32 31)).toInt32) &&& (Int32.ofInt 1431655765))) &&& (Int32.ofInt 858993459)) + ((((x1 - (((x1.toUInt32 >>> ((Int32.ofInt 1).toUInt32 &&& Int32.toUInt32 31)).toInt32) &&& (Int32.ofInt 1431655765))).toUInt32 >>> ((Int32.ofInt 2).toUInt32 &&& Int32.toUInt32 31)).toInt32) &&& (Int32.ofInt 858993459))) + (((((x1 - (((x1.toUInt32 >>> ((Int32.ofInt 1).toUInt32 &&& Int32.toUInt32 31)).toInt32) &&& (Int32.ofInt 1431655765))) &&& (Int32.ofInt 858993459)) + ((((x1 - (((x1.toUInt32 >>> ((Int32.ofInt 1).toUInt32 &&& Int32.toUInt32 31)).toInt32) &&& (Int32.ofInt 1431655765))).toUInt32 >>> ((Int32.ofInt 2).toUInt32 &&& Int32.toUInt32 31)).toInt32) &&& (Int32.ofInt 858993459))).toUInt32 >>> ((Int32.ofInt 4).toUInt32 &&& Int32.toUInt32 31)).toInt32)) &&& (Int32.ofInt 252645135)).toUInt32 >>> ((Int32.ofInt 8).toUInt32 &&& Int32.toUInt32 31)).toInt32)).toUInt32 >>> ((Int32.ofInt 16).toUInt32 &&& Int32.toUInt32 31)).toInt32)) &&& (Int32.ofInt 63)
theorem s_J6_bitCount_0f7a4 {E : VE} {d : Nat} {Q : QQ} {L : LMem} (M : Mem) (x1 : Int32) (hQ : Q (some (.int (f_J6_bitCount_0f7a4 M x1))) M L) : Wp E d 165 0 [.int x1] [] M L Q := by
  refine wp_seg (pc' := 24) [.iload 0, .iload 0, .iconst 1, .iushr, .iconst 1431655765, .iand, .isub, .istore 0, .iload 0, .iconst 858993459, .iand, .iload 0, .iconst 2, .iushr, .iconst 858993459, .iand, .iadd, .istore 0] (by decide +kernel) (?_ : Wp E d 165 24 [.int (((x1 - (((x1.toUInt32 >>> ((Int32.ofInt 1).toUInt32 &&& Int32.toUInt32 31)).toInt32) &&& (Int32.ofInt 1431655765))) &&& (Int32.ofInt 858993459)) + ((((x1 - (((x1.toUInt32 >>> ((Int32.ofInt 1).toUInt32 &&& Int32.toUInt32 31)).toInt32) &&& (Int32.ofInt 1431655765))).toUInt32 >>> ((Int32.ofInt 2).toUInt32 &&& Int32.toUInt32 31)).toInt32) &&& (Int32.ofInt 858993459)))] [] M L Q)
  refine wp_seg (pc' := 46) [.iload 0, .iload 0, .iconst 4, .iushr, .iadd, .iconst 252645135, .iand, .istore 0, .iload 0, .iload 0, .iconst 8, .iushr, .iadd, .istore 0, .iload 0, .iload 0, .iconst 16, .iushr] (by decide +kernel) (?_ : Wp E d 165 46 [.int ((((((x1 - (((x1.toUInt32 >>> ((Int32.ofInt 1).toUInt32 &&& Int32.toUInt32 31)).toInt32) &&& (Int32.ofInt 1431655765))) &&& (Int32.ofInt 858993459)) + ((((x1 - (((x1.toUInt32 >>> ((Int32.ofInt 1).toUInt32 &&& Int32.toUInt32 31)).toInt32) &&& (Int32.ofInt 1431655765))).toUInt32 >>> ((Int32.ofInt 2).toUInt32 &&& Int32.toUInt32 31)).toInt32) &&& (Int32.ofInt 858993459))) + (((((x1 - (((x1.toUInt32 >>> ((Int32.ofInt 1).toUInt32 &&& Int32.toUInt32 31)).toInt32) &&& (Int32.ofInt 1431655765))) &&& (Int32.ofInt 858993459)) + ((((x1 - (((x1.toUInt32 >>> ((Int32.ofInt 1).toUInt32 &&& Int32.toUInt32 31)).toInt32) &&& (Int32.ofInt 1431655765))).toUInt32 >>> ((Int32.ofInt 2).toUInt32 &&& Int32.toUInt32 31)).toInt32) &&& (Int32.ofInt 858993459))).toUInt32 >>> ((Int32.ofInt 4).toUInt32 &&& Int32.toUInt32 31)).toInt32)) &&& (Int32.ofInt 252645135)) + (((((((x1 - (((x1.toUInt32 >>> ((Int32.ofInt 1).toUInt32 &&& Int32.toUInt32 31)).toInt32) &&& (Int32.ofInt 1431655765))) &&& (Int32.ofInt 858993459)) + ((((x1 - (((x1.toUInt32 >>> ((Int32.ofInt 1).toUInt32 &&& Int32.toUInt32 31)).toInt32) &&& (Int32.ofInt 1431655765))).toUInt32 >>> ((Int32.ofInt 2).toUInt32 &&& Int32.toUInt32 31)).toInt32) &&& (Int32.ofInt 858993459))) + (((((x1 - (((x1.toUInt32 >>> ((Int32.ofInt 1).toUInt32 &&& Int32.toUInt32 31)).toInt32) &&& (Int32.ofInt 1431655765))) &&& (Int32.ofInt 858993459)) + ((((x1 - (((x1.toUInt32 >>> ((Int32.ofInt 1).toUInt32 &&& Int32.toUInt32 31)).toInt32) &&& (Int32.ofInt 1431655765))).toUInt32 >>> ((Int32.ofInt 2).toUInt32 &&& Int32.toUInt32 31)).toInt32) &&& (Int32.ofInt 858993459))).toUInt32 >>> ((Int32.ofInt 4).toUInt32 &&& Int32.toUInt32 31)).toInt32)) &&& (Int32.ofInt 252645135)).toUInt32 >>> ((Int32.ofInt 8).toUInt32 &&& Int32.toUInt32 31)).toInt32))] [.int ((((((((x1 - (((x1.toUInt32 >>> ((Int32.ofInt 1).toUInt32 &&& Int32.toUInt32 31)).toInt32) &&& (Int32.ofInt 1431655765))) &&& (Int32.ofInt 858993459)) + ((((x1 - (((x1.toUInt32 >>> ((Int32.ofInt 1).toUInt32 &&& Int32.toUInt32 31)).toInt32) &&& (Int32.ofInt 1431655765))).toUInt32 >>> ((Int32.ofInt 2).toUInt32 &&& Int32.toUInt32 31)).toInt32) &&& (Int32.ofInt 858993459))) + (((((x1 - (((x1.toUInt32 >>> ((Int32.ofInt 1).toUInt32 &&& Int32.toUInt32 31)).toInt32) &&& (Int32.ofInt 1431655765))) &&& (Int32.ofInt 858993459)) + ((((x1 - (((x1.toUInt32 >>> ((Int32.ofInt 1).toUInt32 &&& Int32.toUInt32 31)).toInt32) &&& (Int32.ofInt 1431655765))).toUInt32 >>> ((Int32.ofInt 2).toUInt32 &&& Int32.toUInt32 31)).toInt32) &&& (Int32.ofInt 858993459))).toUInt32 >>> ((Int32.ofInt 4).toUInt32 &&& Int32.toUInt32 31)).toInt32)) &&& (Int32.ofInt 252645135)) + (((((((x1 - (((x1.toUInt32 >>> ((Int32.ofInt 1).toUInt32 &&& Int32.toUInt32 31)).toInt32) &&& (Int32.ofInt 1431655765))) &&& (Int32.ofInt 858993459)) + ((((x1 - (((x1.toUInt32 >>> ((Int32.ofInt 1).toUInt32 &&& Int32.toUInt32 31)).toInt32) &&& (Int32.ofInt 1431655765))).toUInt32 >>> ((Int32.ofInt 2).toUInt32 &&& Int32.toUInt32 31)).toInt32) &&& (Int32.ofInt 858993459))) + (((((x1 - (((x1.toUInt32 >>> ((Int32.ofInt 1).toUInt32 &&& Int32.toUInt32 31)).toInt32) &&& (Int32.ofInt 1431655765))) &&& (Int32.ofInt 858993459)) + ((((x1 - (((x1.toUInt32 >>> ((Int32.ofInt 1).toUInt32 &&& Int32.toUInt32 31)).toInt32) &&& (Int32.ofInt 1431655765))).toUInt32 >>> ((Int32.ofInt 2).toUInt32 &&& Int32.toUInt32 31)).toInt32) &&& (Int32.ofInt 858993459))).toUInt32 >>> ((Int32.ofInt 4).toUInt32 &&& Int32.toUInt32 31)).toInt32)) &&& (Int32.ofInt 252645135)).toUInt32 >>> ((Int32.ofInt 8).toUInt32 &&& Int32.toUInt32 31)).toInt32)).toUInt32 >>> ((Int32.ofInt 16).toUInt32 &&& Int32.toUInt32 31)).toInt32), .int ((((((x1 - (((x1.toUInt32 >>> ((Int32.ofInt 1).toUInt32 &&& Int32.toUInt32 31)).toInt32) &&& (Int32.ofInt 1431655765))) &&& (Int32.ofInt 858993459)) + ((((x1 - (((x1.toUInt32 >>> ((Int32.ofInt 1).toUInt32 &&& Int32.toUInt32 31)).toInt32) &&& (Int32.ofInt 1431655765))).toUInt32 >>> ((Int32.ofInt 2).toUInt32 &&& Int32.toUInt32 31)).toInt32) &&& (Int32.ofInt 858993459))) + (((((x1 - (((x1.toUInt32 >>> ((Int32.ofInt 1).toUInt32 &&& Int32.toUInt32 31)).toInt32) &&& (Int32.ofInt 1431655765))) &&& (Int32.ofInt 858993459)) + ((((x1 - (((x1.toUInt32 >>> ((Int32.ofInt 1).toUInt32 &&& Int32.toUInt32 31)).toInt32) &&& (Int32.ofInt 1431655765))).toUInt32 >>> ((Int32.ofInt 2).toUInt32 &&& Int32.toUInt32 31)).toInt32) &&& (Int32.ofInt 858993459))).toUInt32 >>> ((Int32.ofInt 4).toUInt32 &&& Int32.toUInt32 31)).toInt32)) &&& (Int32.ofInt 252645135)) + (((((((x1 - (((x1.toUInt32 >>> ((Int32.ofInt 1).toUInt32 &&& Int32.toUInt32 31)).toInt32) &&& (Int32.ofInt 1431655765))) &&& (Int32.ofInt 858993459)) + ((((x1 - (((x1.toUInt32 >>> ((Int32.ofInt 1).toUInt32 &&& Int32.toUInt32 31)).toInt32) &&& (Int32.ofInt 1431655765))).toUInt32 >>> ((Int32.ofInt 2).toUInt32 &&& Int32.toUInt32 31)).toInt32) &&& (Int32.ofInt 858993459))) + (((((x1 - (((x1.toUInt32 >>> ((Int32.ofInt 1).toUInt32 &&& Int32.toUInt32 31)).toInt32) &&& (Int32.ofInt 1431655765))) &&& (Int32.ofInt 858993459)) + ((((x1 - (((x1.toUInt32 >>> ((Int32.ofInt 1).toUInt32 &&& Int32.toUInt32 31)).toInt32) &&& (Int32.ofInt 1431655765))).toUInt32 >>> ((Int32.ofInt 2).toUInt32 &&& Int32.toUInt32 31)).toInt32) &&& (Int32.ofInt 858993459))).toUInt32 >>> ((Int32.ofInt 4).toUInt32 &&& Int32.toUInt32 31)).toInt32)) &&& (Int32.ofInt 252645135)).toUInt32 >>> ((Int32.ofInt 8).toUInt32 &&& Int32.toUInt32 31)).toInt32))] M L Q)
  refine wp_seg (pc' := 52) [.iadd, .istore 0, .iload 0, .iconst 63, .iand] (by decide +kernel) (?_ : Wp E d 165 52 [.int (((((((x1 - (((x1.toUInt32 >>> ((Int32.ofInt 1).toUInt32 &&& Int32.toUInt32 31)).toInt32) &&& (Int32.ofInt 1431655765))) &&& (Int32.ofInt 858993459)) + ((((x1 - (((x1.toUInt32 >>> ((Int32.ofInt 1).toUInt32 &&& Int32.toUInt32 31)).toInt32) &&& (Int32.ofInt 1431655765))).toUInt32 >>> ((Int32.ofInt 2).toUInt32 &&& Int32.toUInt32 31)).toInt32) &&& (Int32.ofInt 858993459))) + (((((x1 - (((x1.toUInt32 >>> ((Int32.ofInt 1).toUInt32 &&& Int32.toUInt32 31)).toInt32) &&& (Int32.ofInt 1431655765))) &&& (Int32.ofInt 858993459)) + ((((x1 - (((x1.toUInt32 >>> ((Int32.ofInt 1).toUInt32 &&& Int32.toUInt32 31)).toInt32) &&& (Int32.ofInt 1431655765))).toUInt32 >>> ((Int32.ofInt 2).toUInt32 &&& Int32.toUInt32 31)).toInt32) &&& (Int32.ofInt 858993459))).toUInt32 >>> ((Int32.ofInt 4).toUInt32 &&& Int32.toUInt32 31)).toInt32)) &&& (Int32.ofInt 252645135)) + (((((((x1 - (((x1.toUInt32 >>> ((Int32.ofInt 1).toUInt32 &&& Int32.toUInt32 31)).toInt32) &&& (Int32.ofInt 1431655765))) &&& (Int32.ofInt 858993459)) + ((((x1 - (((x1.toUInt32 >>> ((Int32.ofInt 1).toUInt32 &&& Int32.toUInt32 31)).toInt32) &&& (Int32.ofInt 1431655765))).toUInt32 >>> ((Int32.ofInt 2).toUInt32 &&& Int32.toUInt32 31)).toInt32) &&& (Int32.ofInt 858993459))) + (((((x1 - (((x1.toUInt32 >>> ((Int32.ofInt 1).toUInt32 &&& Int32.toUInt32 31)).toInt32) &&& (Int32.ofInt 1431655765))) &&& (Int32.ofInt 858993459)) + ((((x1 - (((x1.toUInt32 >>> ((Int32.ofInt 1).toUInt32 &&& Int32.toUInt32 31)).toInt32) &&& (Int32.ofInt 1431655765))).toUInt32 >>> ((Int32.ofInt 2).toUInt32 &&& Int32.toUInt32 31)).toInt32) &&& (Int32.ofInt 858993459))).toUInt32 >>> ((Int32.ofInt 4).toUInt32 &&& Int32.toUInt32 31)).toInt32)) &&& (Int32.ofInt 252645135)).toUInt32 >>> ((Int32.ofInt 8).toUInt32 &&& Int32.toUInt32 31)).toInt32)) + ((((((((x1 - (((x1.toUInt32 >>> ((Int32.ofInt 1).toUInt32 &&& Int32.toUInt32 31)).toInt32) &&& (Int32.ofInt 1431655765))) &&& (Int32.ofInt 858993459)) + ((((x1 - (((x1.toUInt32 >>> ((Int32.ofInt 1).toUInt32 &&& Int32.toUInt32 31)).toInt32) &&& (Int32.ofInt 1431655765))).toUInt32 >>> ((Int32.ofInt 2).toUInt32 &&& Int32.toUInt32 31)).toInt32) &&& (Int32.ofInt 858993459))) + (((((x1 - (((x1.toUInt32 >>> ((Int32.ofInt 1).toUInt32 &&& Int32.toUInt32 31)).toInt32) &&& (Int32.ofInt 1431655765))) &&& (Int32.ofInt 858993459)) + ((((x1 - (((x1.toUInt32 >>> ((Int32.ofInt 1).toUInt32 &&& Int32.toUInt32 31)).toInt32) &&& (Int32.ofInt 1431655765))).toUInt32 >>> ((Int32.ofInt 2).toUInt32 &&& Int32.toUInt32 31)).toInt32) &&& (Int32.ofInt 858993459))).toUInt32 >>> ((Int32.ofInt 4).toUInt32 &&& Int32.toUInt32 31)).toInt32)) &&& (Int32.ofInt 252645135)) + (((((((x1 - (((x1.toUInt32 >>> ((Int32.ofInt 1).toUInt32 &&& Int32.toUInt32 31)).toInt32) &&& (Int32.ofInt 1431655765))) &&& (Int32.ofInt 858993459)) + ((((x1 - (((x1.toUInt32 >>> ((Int32.ofInt 1).toUInt32 &&& Int32.toUInt32 31)).toInt32) &&& (Int32.ofInt 1431655765))).toUInt32 >>> ((Int32.ofInt 2).toUInt32 &&& Int32.toUInt32 31)).toInt32) &&& (Int32.ofInt 858993459))) + (((((x1 - (((x1.toUInt32 >>> ((Int32.ofInt 1).toUInt32 &&& Int32.toUInt32 31)).toInt32) &&& (Int32.ofInt 1431655765))) &&& (Int32.ofInt 858993459)) + ((((x1 - (((x1.toUInt32 >>> ((Int32.ofInt 1).toUInt32 &&& Int32.toUInt32 31)).toInt32) &&& (Int32.ofInt 1431655765))).toUInt32 >>> ((Int32.ofInt 2).toUInt32 &&& Int32.toUInt32 31)).toInt32) &&& (Int32.ofInt 858993459))).toUInt32 >>> ((Int32.ofInt 4).toUInt32 &&& Int32.toUInt32 31)).toInt32)) &&& (Int32.ofInt 252645135)).toUInt32 >>> ((Int32.ofInt 8).toUInt32 &&& Int32.toUInt32 31)).toInt32)).toUInt32 >>> ((Int32.ofInt 16).toUInt32 &&& Int32.toUInt32 31)).toInt32))] [.int ((((((((x1 - (((x1.toUInt32 >>> ((Int32.ofInt 1).toUInt32 &&& Int32.toUInt32 31)).toInt32) &&& (Int32.ofInt 1431655765))) &&& (Int32.ofInt 858993459)) + ((((x1 - (((x1.toUInt32 >>> ((Int32.ofInt 1).toUInt32 &&& Int32.toUInt32 31)).toInt32) &&& (Int32.ofInt 1431655765))).toUInt32 >>> ((Int32.ofInt 2).toUInt32 &&& Int32.toUInt32 31)).toInt32) &&& (Int32.ofInt 858993459))) + (((((x1 - (((x1.toUInt32 >>> ((Int32.ofInt 1).toUInt32 &&& Int32.toUInt32 31)).toInt32) &&& (Int32.ofInt 1431655765))) &&& (Int32.ofInt 858993459)) + ((((x1 - (((x1.toUInt32 >>> ((Int32.ofInt 1).toUInt32 &&& Int32.toUInt32 31)).toInt32) &&& (Int32.ofInt 1431655765))).toUInt32 >>> ((Int32.ofInt 2).toUInt32 &&& Int32.toUInt32 31)).toInt32) &&& (Int32.ofInt 858993459))).toUInt32 >>> ((Int32.ofInt 4).toUInt32 &&& Int32.toUInt32 31)).toInt32)) &&& (Int32.ofInt 252645135)) + (((((((x1 - (((x1.toUInt32 >>> ((Int32.ofInt 1).toUInt32 &&& Int32.toUInt32 31)).toInt32) &&& (Int32.ofInt 1431655765))) &&& (Int32.ofInt 858993459)) + ((((x1 - (((x1.toUInt32 >>> ((Int32.ofInt 1).toUInt32 &&& Int32.toUInt32 31)).toInt32) &&& (Int32.ofInt 1431655765))).toUInt32 >>> ((Int32.ofInt 2).toUInt32 &&& Int32.toUInt32 31)).toInt32) &&& (Int32.ofInt 858993459))) + (((((x1 - (((x1.toUInt32 >>> ((Int32.ofInt 1).toUInt32 &&& Int32.toUInt32 31)).toInt32) &&& (Int32.ofInt 1431655765))) &&& (Int32.ofInt 858993459)) + ((((x1 - (((x1.toUInt32 >>> ((Int32.ofInt 1).toUInt32 &&& Int32.toUInt32 31)).toInt32) &&& (Int32.ofInt 1431655765))).toUInt32 >>> ((Int32.ofInt 2).toUInt32 &&& Int32.toUInt32 31)).toInt32) &&& (Int32.ofInt 858993459))).toUInt32 >>> ((Int32.ofInt 4).toUInt32 &&& Int32.toUInt32 31)).toInt32)) &&& (Int32.ofInt 252645135)).toUInt32 >>> ((Int32.ofInt 8).toUInt32 &&& Int32.toUInt32 31)).toInt32)) + ((((((((x1 - (((x1.toUInt32 >>> ((Int32.ofInt 1).toUInt32 &&& Int32.toUInt32 31)).toInt32) &&& (Int32.ofInt 1431655765))) &&& (Int32.ofInt 858993459)) + ((((x1 - (((x1.toUInt32 >>> ((Int32.ofInt 1).toUInt32 &&& Int32.toUInt32 31)).toInt32) &&& (Int32.ofInt 1431655765))).toUInt32 >>> ((Int32.ofInt 2).toUInt32 &&& Int32.toUInt32 31)).toInt32) &&& (Int32.ofInt 858993459))) + (((((x1 - (((x1.toUInt32 >>> ((Int32.ofInt 1).toUInt32 &&& Int32.toUInt32 31)).toInt32) &&& (Int32.ofInt 1431655765))) &&& (Int32.ofInt 858993459)) + ((((x1 - (((x1.toUInt32 >>> ((Int32.ofInt 1).toUInt32 &&& Int32.toUInt32 31)).toInt32) &&& (Int32.ofInt 1431655765))).toUInt32 >>> ((Int32.ofInt 2).toUInt32 &&& Int32.toUInt32 31)).toInt32) &&& (Int32.ofInt 858993459))).toUInt32 >>> ((Int32.ofInt 4).toUInt32 &&& Int32.toUInt32 31)).toInt32)) &&& (Int32.ofInt 252645135)) + (((((((x1 - (((x1.toUInt32 >>> ((Int32.ofInt 1).toUInt32 &&& Int32.toUInt32 31)).toInt32) &&& (Int32.ofInt 1431655765))) &&& (Int32.ofInt 858993459)) + ((((x1 - (((x1.toUInt32 >>> ((Int32.ofInt 1).toUInt32 &&& Int32.toUInt32 31)).toInt32) &&& (Int32.ofInt 1431655765))).toUInt32 >>> ((Int32.ofInt 2).toUInt32 &&& Int32.toUInt32 31)).toInt32) &&& (Int32.ofInt 858993459))) + (((((x1 - (((x1.toUInt32 >>> ((Int32.ofInt 1).toUInt32 &&& Int32.toUInt32 31)).toInt32) &&& (Int32.ofInt 1431655765))) &&& (Int32.ofInt 858993459)) + ((((x1 - (((x1.toUInt32 >>> ((Int32.ofInt 1).toUInt32 &&& Int32.toUInt32 31)).toInt32) &&& (Int32.ofInt 1431655765))).toUInt32 >>> ((Int32.ofInt 2).toUInt32 &&& Int32.toUInt32 31)).toInt32) &&& (Int32.ofInt 858993459))).toUInt32 >>> ((Int32.ofInt 4).toUInt32 &&& Int32.toUInt32 31)).toInt32)) &&& (Int32.ofInt 252645135)).toUInt32 >>> ((Int32.ofInt 8).toUInt32 &&& Int32.toUInt32 31)).toInt32)).toUInt32 >>> ((Int32.ofInt 16).toUInt32 &&& Int32.toUInt32 31)).toInt32)) &&& (Int32.ofInt 63))] M L Q)
  exact wp_iret (by decide +kernel) rfl hQ

def f_X8_largerPart (M : Mem) (x1 : Int32) (x2 : Int32) : Int32 := if (f_J6_bitCount_0f7a4 M (x1 &&& x2)) < (f_J6_bitCount_0f7a4 M (x1 &&& (x2 ^^^ (Int32.ofInt (-1))))) then (f_J6_bitCount_0f7a4 M (x1 &&& (x2 ^^^ (Int32.ofInt (-1))))) else (f_J6_bitCount_0f7a4 M (x1 &&& x2))
theorem s_X8_largerPart {E : VE} {d : Nat} {Q : QQ} {L : LMem} (M : Mem) (x1 : Int32) (x2 : Int32) (hQ : Q (some (.int (f_X8_largerPart M x1 x2))) M L) : Wp E (d + 1) 55 0 [.int x1, .int x2] [] M L Q := by
  refine wp_seg (pc' := 3) [.iload 0, .iload 1, .iand] (by decide +kernel) (?_ : Wp E (d + 1) 55 3 [.int x1, .int x2] [.int (x1 &&& x2)] M L Q)
  refine wp_callS 165 [.int (x1 &&& x2)] (i := 45) (by decide +kernel) (by decide +kernel) (by decide +kernel) rfl rfl rfl (rest := []) rfl rfl ?_
  refine s_J6_bitCount_0f7a4 M (x1 &&& x2)  ?_
  show Wp E (d + 1) 55 6 [.int x1, .int x2] [.int (f_J6_bitCount_0f7a4 M (x1 &&& x2))] M L Q
  refine wp_seg (pc' := 11) [.iload 0, .iload 1, .iconst (-1), .ixor, .iand] (by decide +kernel) (?_ : Wp E (d + 1) 55 11 [.int x1, .int x2] [.int (x1 &&& (x2 ^^^ (Int32.ofInt (-1)))), .int (f_J6_bitCount_0f7a4 M (x1 &&& x2))] M L Q)
  refine wp_callS 165 [.int (x1 &&& (x2 ^^^ (Int32.ofInt (-1))))] (i := 45) (by decide +kernel) (by decide +kernel) (by decide +kernel) rfl rfl rfl (rest := [.int (f_J6_bitCount_0f7a4 M (x1 &&& x2))]) rfl rfl ?_
  refine s_J6_bitCount_0f7a4 M (x1 &&& (x2 ^^^ (Int32.ofInt (-1))))  ?_
  show Wp E (d + 1) 55 14 [.int x1, .int x2] [.int (f_J6_bitCount_0f7a4 M (x1 &&& (x2 ^^^ (Int32.ofInt (-1))))), .int (f_J6_bitCount_0f7a4 M (x1 &&& x2))] M L Q
  refine wp_seg (pc' := 17) [.invokestatic 0] (by decide +kernel) (?_ : Wp E (d + 1) 55 17 [.int x1, .int x2] [.int (if (f_J6_bitCount_0f7a4 M (x1 &&& x2)) < (f_J6_bitCount_0f7a4 M (x1 &&& (x2 ^^^ (Int32.ofInt (-1))))) then (f_J6_bitCount_0f7a4 M (x1 &&& (x2 ^^^ (Int32.ofInt (-1))))) else (f_J6_bitCount_0f7a4 M (x1 &&& x2)))] M L Q)
  exact wp_iret (by decide +kernel) rfl hQ

def g_X1_layTube_70 (M : Mem) (x2 : Int32) : Mem := (if (M 7 x2.toNatClampNeg) = (Int32.ofInt 120) then M else (if (M 7 x2.toNatClampNeg) = (Int32.ofInt 62) then (mput M 71 ((((Int32.ofInt 8) * (M 5 x2.toNatClampNeg)) + (M 6 x2.toNatClampNeg)).toNatClampNeg) (if (M 8 x2.toNatClampNeg) < (M 71 ((((Int32.ofInt 8) * (M 5 x2.toNatClampNeg)) + (M 6 x2.toNatClampNeg)).toNatClampNeg)) then (M 8 x2.toNatClampNeg) else (M 71 ((((Int32.ofInt 8) * (M 5 x2.toNatClampNeg)) + (M 6 x2.toNatClampNeg)).toNatClampNeg)))) else (mput (mput M 71 ((((Int32.ofInt 8) * (M 5 x2.toNatClampNeg)) + (M 6 x2.toNatClampNeg)).toNatClampNeg) (if (M 8 x2.toNatClampNeg) < (M 71 ((((Int32.ofInt 8) * (M 5 x2.toNatClampNeg)) + (M 6 x2.toNatClampNeg)).toNatClampNeg)) then (M 8 x2.toNatClampNeg) else (M 71 ((((Int32.ofInt 8) * (M 5 x2.toNatClampNeg)) + (M 6 x2.toNatClampNeg)).toNatClampNeg)))) 71 ((((Int32.ofInt 8) * (M 6 x2.toNatClampNeg)) + (M 5 x2.toNatClampNeg)).toNatClampNeg) (if (M 8 x2.toNatClampNeg) < ((mput M 71 ((((Int32.ofInt 8) * (M 5 x2.toNatClampNeg)) + (M 6 x2.toNatClampNeg)).toNatClampNeg) (if (M 8 x2.toNatClampNeg) < (M 71 ((((Int32.ofInt 8) * (M 5 x2.toNatClampNeg)) + (M 6 x2.toNatClampNeg)).toNatClampNeg)) then (M 8 x2.toNatClampNeg) else (M 71 ((((Int32.ofInt 8) * (M 5 x2.toNatClampNeg)) + (M 6 x2.toNatClampNeg)).toNatClampNeg)))) 71 ((((Int32.ofInt 8) * (M 6 x2.toNatClampNeg)) + (M 5 x2.toNatClampNeg)).toNatClampNeg)) then (M 8 x2.toNatClampNeg) else ((mput M 71 ((((Int32.ofInt 8) * (M 5 x2.toNatClampNeg)) + (M 6 x2.toNatClampNeg)).toNatClampNeg) (if (M 8 x2.toNatClampNeg) < (M 71 ((((Int32.ofInt 8) * (M 5 x2.toNatClampNeg)) + (M 6 x2.toNatClampNeg)).toNatClampNeg)) then (M 8 x2.toNatClampNeg) else (M 71 ((((Int32.ofInt 8) * (M 5 x2.toNatClampNeg)) + (M 6 x2.toNatClampNeg)).toNatClampNeg)))) 71 ((((Int32.ofInt 8) * (M 6 x2.toNatClampNeg)) + (M 5 x2.toNatClampNeg)).toNatClampNeg))))))
theorem s_X1_layTube_70 {E : VE} {d : Nat} {Q : QQ} {L : LMem} (M : Mem) (x2 : Int32) (o_1 : vp_in x2 12) (o_2 : ¬ ((M 7 x2.toNatClampNeg) = (Int32.ofInt 120)) → vp_in (((Int32.ofInt 8) * (M 5 x2.toNatClampNeg)) + (M 6 x2.toNatClampNeg)) 64) (o_3 : ¬ ((M 7 x2.toNatClampNeg) = (Int32.ofInt 120)) → ¬ ((M 7 x2.toNatClampNeg) = (Int32.ofInt 62)) → vp_in (((Int32.ofInt 8) * (M 6 x2.toNatClampNeg)) + (M 5 x2.toNatClampNeg)) 64) (hQ : Q none (g_X1_layTube_70 M x2) L) : Wp E d 6 0 [.ref 70, .ref 4, .int x2, .null, .null] [] M L Q := by
  refine wp_seg (pc' := 8) [.iconst 8, .aload 1, .getfield 128, .iload 2, .iaload] (by decide +kernel) (show aok 5 0 x2 ∧ Wp E d 6 8 [.ref 70, .ref 4, .int x2, .null, .null] [.int (M 5 x2.toNatClampNeg), .int (Int32.ofInt 8)] M L Q from ⟨⟨rfl, (o_1)⟩, ?_⟩)
  refine wp_seg (pc' := 15) [.imul, .aload 1, .getfield 129, .iload 2, .iaload] (by decide +kernel) (show aok 6 0 x2 ∧ Wp E d 6 15 [.ref 70, .ref 4, .int x2, .null, .null] [.int (M 6 x2.toNatClampNeg), .int ((Int32.ofInt 8) * (M 5 x2.toNatClampNeg))] M L Q from ⟨⟨rfl, (o_1)⟩, ?_⟩)
  refine wp_seg (pc' := 25) [.iadd, .istore 3, .iconst 8, .aload 1, .getfield 129, .iload 2, .iaload] (by decide +kernel) (show aok 6 0 x2 ∧ Wp E d 6 25 [.ref 70, .ref 4, .int x2, .int (((Int32.ofInt 8) * (M 5 x2.toNatClampNeg)) + (M 6 x2.toNatClampNeg)), .null] [.int (M 6 x2.toNatClampNeg), .int (Int32.ofInt 8)] M L Q from ⟨⟨rfl, (o_1)⟩, ?_⟩)
  refine wp_seg (pc' := 32) [.imul, .aload 1, .getfield 128, .iload 2, .iaload] (by decide +kernel) (show aok 5 0 x2 ∧ Wp E d 6 32 [.ref 70, .ref 4, .int x2, .int (((Int32.ofInt 8) * (M 5 x2.toNatClampNeg)) + (M 6 x2.toNatClampNeg)), .null] [.int (M 5 x2.toNatClampNeg), .int ((Int32.ofInt 8) * (M 6 x2.toNatClampNeg))] M L Q from ⟨⟨rfl, (o_1)⟩, ?_⟩)
  refine wp_seg (pc' := 41) [.iadd, .istore 4, .aload 1, .getfield 130, .iload 2, .iaload] (by decide +kernel) (show aok 7 0 x2 ∧ Wp E d 6 41 [.ref 70, .ref 4, .int x2, .int (((Int32.ofInt 8) * (M 5 x2.toNatClampNeg)) + (M 6 x2.toNatClampNeg)), .int (((Int32.ofInt 8) * (M 6 x2.toNatClampNeg)) + (M 5 x2.toNatClampNeg))] [.int (M 7 x2.toNatClampNeg)] M L Q from ⟨⟨rfl, (o_1)⟩, ?_⟩)
  refine wp_seg (pc' := 43) [.iconst 120] (by decide +kernel) (?_ : Wp E d 6 43 [.ref 70, .ref 4, .int x2, .int (((Int32.ofInt 8) * (M 5 x2.toNatClampNeg)) + (M 6 x2.toNatClampNeg)), .int (((Int32.ofInt 8) * (M 6 x2.toNatClampNeg)) + (M 5 x2.toNatClampNeg))] [.int (Int32.ofInt 120), .int (M 7 x2.toNatClampNeg)] M L Q)
  refine wp_icmpeq (off := 58) 101 (by decide +kernel) (by decide) (fun c_1 => ?_) (fun c_1 => ?_)
  · exact wp_vret (by decide +kernel) rfl (by rw [g_X1_layTube_70, if_pos c_1] at hQ; exact hQ)
  · refine wp_seg (pc' := 57) [.aload 0, .getfield 64, .iload 3, .aload 0, .getfield 64, .iload 3, .iaload] (by decide +kernel) (show aok 71 0 (((Int32.ofInt 8) * (M 5 x2.toNatClampNeg)) + (M 6 x2.toNatClampNeg)) ∧ Wp E d 6 57 [.ref 70, .ref 4, .int x2, .int (((Int32.ofInt 8) * (M 5 x2.toNatClampNeg)) + (M 6 x2.toNatClampNeg)), .int (((Int32.ofInt 8) * (M 6 x2.toNatClampNeg)) + (M 5 x2.toNatClampNeg))] [.int (M 71 ((((Int32.ofInt 8) * (M 5 x2.toNatClampNeg)) + (M 6 x2.toNatClampNeg)).toNatClampNeg)), .int (((Int32.ofInt 8) * (M 5 x2.toNatClampNeg)) + (M 6 x2.toNatClampNeg)), .ref 71] M L Q from ⟨⟨rfl, (o_2 c_1)⟩, ?_⟩)
    refine wp_seg (pc' := 63) [.aload 1, .getfield 131, .iload 2, .iaload] (by decide +kernel) (show aok 8 0 x2 ∧ Wp E d 6 63 [.ref 70, .ref 4, .int x2, .int (((Int32.ofInt 8) * (M 5 x2.toNatClampNeg)) + (M 6 x2.toNatClampNeg)), .int (((Int32.ofInt 8) * (M 6 x2.toNatClampNeg)) + (M 5 x2.toNatClampNeg))] [.int (M 8 x2.toNatClampNeg), .int (M 71 ((((Int32.ofInt 8) * (M 5 x2.toNatClampNeg)) + (M 6 x2.toNatClampNeg)).toNatClampNeg)), .int (((Int32.ofInt 8) * (M 5 x2.toNatClampNeg)) + (M 6 x2.toNatClampNeg)), .ref 71] M L Q from ⟨⟨rfl, (o_1)⟩, ?_⟩)
    refine wp_seg (pc' := 67) [.invokestatic 1, .iastore] (by decide +kernel) (show aok 71 0 (((Int32.ofInt 8) * (M 5 x2.toNatClampNeg)) + (M 6 x2.toNatClampNeg)) ∧ Wp E d 6 67 [.ref 70, .ref 4, .int x2, .int (((Int32.ofInt 8) * (M 5 x2.toNatClampNeg)) + (M 6 x2.toNatClampNeg)), .int (((Int32.ofInt 8) * (M 6 x2.toNatClampNeg)) + (M 5 x2.toNatClampNeg))] [] (mput M 71 ((((Int32.ofInt 8) * (M 5 x2.toNatClampNeg)) + (M 6 x2.toNatClampNeg)).toNatClampNeg) (if (M 8 x2.toNatClampNeg) < (M 71 ((((Int32.ofInt 8) * (M 5 x2.toNatClampNeg)) + (M 6 x2.toNatClampNeg)).toNatClampNeg)) then (M 8 x2.toNatClampNeg) else (M 71 ((((Int32.ofInt 8) * (M 5 x2.toNatClampNeg)) + (M 6 x2.toNatClampNeg)).toNatClampNeg)))) L Q from ⟨⟨rfl, (o_2 c_1)⟩, ?_⟩)
    refine wp_seg (pc' := 73) [.aload 1, .getfield 130, .iload 2, .iaload] (by decide +kernel) (show aok 7 0 x2 ∧ Wp E d 6 73 [.ref 70, .ref 4, .int x2, .int (((Int32.ofInt 8) * (M 5 x2.toNatClampNeg)) + (M 6 x2.toNatClampNeg)), .int (((Int32.ofInt 8) * (M 6 x2.toNatClampNeg)) + (M 5 x2.toNatClampNeg))] [.int (M 7 x2.toNatClampNeg)] (mput M 71 ((((Int32.ofInt 8) * (M 5 x2.toNatClampNeg)) + (M 6 x2.toNatClampNeg)).toNatClampNeg) (if (M 8 x2.toNatClampNeg) < (M 71 ((((Int32.ofInt 8) * (M 5 x2.toNatClampNeg)) + (M 6 x2.toNatClampNeg)).toNatClampNeg)) then (M 8 x2.toNatClampNeg) else (M 71 ((((Int32.ofInt 8) * (M 5 x2.toNatClampNeg)) + (M 6 x2.toNatClampNeg)).toNatClampNeg)))) L Q from ⟨⟨rfl, (o_1)⟩, ?_⟩)
    refine wp_seg (pc' := 75) [.iconst 62] (by decide +kernel) (?_ : Wp E d 6 75 [.ref 70, .ref 4, .int x2, .int (((Int32.ofInt 8) * (M 5 x2.toNatClampNeg)) + (M 6 x2.toNatClampNeg)), .int (((Int32.ofInt 8) * (M 6 x2.toNatClampNeg)) + (M 5 x2.toNatClampNeg))] [.int (Int32.ofInt 62), .int (M 7 x2.toNatClampNeg)] (mput M 71 ((((Int32.ofInt 8) * (M 5 x2.toNatClampNeg)) + (M 6 x2.toNatClampNeg)).toNatClampNeg) (if (M 8 x2.toNatClampNeg) < (M 71 ((((Int32.ofInt 8) * (M 5 x2.toNatClampNeg)) + (M 6 x2.toNatClampNeg)).toNatClampNeg)) then (M 8 x2.toNatClampNeg) else (M 71 ((((Int32.ofInt 8) * (M 5 x2.toNatClampNeg)) + (M 6 x2.toNatClampNeg)).toNatClampNeg)))) L Q)
    refine wp_icmpeq (off := 26) 101 (by decide +kernel) (by decide) (fun c_2 => ?_) (fun c_2 => ?_)
    · exact wp_vret (by decide +kernel) rfl (by rw [g_X1_layTube_70, if_neg c_1, if_pos c_2] at hQ; exact hQ)
    · refine wp_seg (pc' := 91) [.aload 0, .getfield 64, .iload 4, .aload 0, .getfield 64, .iload 4, .iaload] (by decide +kernel) (show aok 71 0 (((Int32.ofInt 8) * (M 6 x2.toNatClampNeg)) + (M 5 x2.toNatClampNeg)) ∧ Wp E d 6 91 [.ref 70, .ref 4, .int x2, .int (((Int32.ofInt 8) * (M 5 x2.toNatClampNeg)) + (M 6 x2.toNatClampNeg)), .int (((Int32.ofInt 8) * (M 6 x2.toNatClampNeg)) + (M 5 x2.toNatClampNeg))] [.int ((mput M 71 ((((Int32.ofInt 8) * (M 5 x2.toNatClampNeg)) + (M 6 x2.toNatClampNeg)).toNatClampNeg) (if (M 8 x2.toNatClampNeg) < (M 71 ((((Int32.ofInt 8) * (M 5 x2.toNatClampNeg)) + (M 6 x2.toNatClampNeg)).toNatClampNeg)) then (M 8 x2.toNatClampNeg) else (M 71 ((((Int32.ofInt 8) * (M 5 x2.toNatClampNeg)) + (M 6 x2.toNatClampNeg)).toNatClampNeg)))) 71 ((((Int32.ofInt 8) * (M 6 x2.toNatClampNeg)) + (M 5 x2.toNatClampNeg)).toNatClampNeg)), .int (((Int32.ofInt 8) * (M 6 x2.toNatClampNeg)) + (M 5 x2.toNatClampNeg)), .ref 71] (mput M 71 ((((Int32.ofInt 8) * (M 5 x2.toNatClampNeg)) + (M 6 x2.toNatClampNeg)).toNatClampNeg) (if (M 8 x2.toNatClampNeg) < (M 71 ((((Int32.ofInt 8) * (M 5 x2.toNatClampNeg)) + (M 6 x2.toNatClampNeg)).toNatClampNeg)) then (M 8 x2.toNatClampNeg) else (M 71 ((((Int32.ofInt 8) * (M 5 x2.toNatClampNeg)) + (M 6 x2.toNatClampNeg)).toNatClampNeg)))) L Q from ⟨⟨rfl, (o_3 c_1 c_2)⟩, ?_⟩)
      refine wp_seg (pc' := 97) [.aload 1, .getfield 131, .iload 2, .iaload] (by decide +kernel) (show aok 8 0 x2 ∧ Wp E d 6 97 [.ref 70, .ref 4, .int x2, .int (((Int32.ofInt 8) * (M 5 x2.toNatClampNeg)) + (M 6 x2.toNatClampNeg)), .int (((Int32.ofInt 8) * (M 6 x2.toNatClampNeg)) + (M 5 x2.toNatClampNeg))] [.int (M 8 x2.toNatClampNeg), .int ((mput M 71 ((((Int32.ofInt 8) * (M 5 x2.toNatClampNeg)) + (M 6 x2.toNatClampNeg)).toNatClampNeg) (if (M 8 x2.toNatClampNeg) < (M 71 ((((Int32.ofInt 8) * (M 5 x2.toNatClampNeg)) + (M 6 x2.toNatClampNeg)).toNatClampNeg)) then (M 8 x2.toNatClampNeg) else (M 71 ((((Int32.ofInt 8) * (M 5 x2.toNatClampNeg)) + (M 6 x2.toNatClampNeg)).toNatClampNeg)))) 71 ((((Int32.ofInt 8) * (M 6 x2.toNatClampNeg)) + (M 5 x2.toNatClampNeg)).toNatClampNeg)), .int (((Int32.ofInt 8) * (M 6 x2.toNatClampNeg)) + (M 5 x2.toNatClampNeg)), .ref 71] (mput M 71 ((((Int32.ofInt 8) * (M 5 x2.toNatClampNeg)) + (M 6 x2.toNatClampNeg)).toNatClampNeg) (if (M 8 x2.toNatClampNeg) < (M 71 ((((Int32.ofInt 8) * (M 5 x2.toNatClampNeg)) + (M 6 x2.toNatClampNeg)).toNatClampNeg)) then (M 8 x2.toNatClampNeg) else (M 71 ((((Int32.ofInt 8) * (M 5 x2.toNatClampNeg)) + (M 6 x2.toNatClampNeg)).toNatClampNeg)))) L Q from ⟨⟨rfl, (o_1)⟩, ?_⟩)
      refine wp_seg (pc' := 101) [.invokestatic 1, .iastore] (by decide +kernel) (show aok 71 0 (((Int32.ofInt 8) * (M 6 x2.toNatClampNeg)) + (M 5 x2.toNatClampNeg)) ∧ Wp E d 6 101 [.ref 70, .ref 4, .int x2, .int (((Int32.ofInt 8) * (M 5 x2.toNatClampNeg)) + (M 6 x2.toNatClampNeg)), .int (((Int32.ofInt 8) * (M 6 x2.toNatClampNeg)) + (M 5 x2.toNatClampNeg))] [] (mput (mput M 71 ((((Int32.ofInt 8) * (M 5 x2.toNatClampNeg)) + (M 6 x2.toNatClampNeg)).toNatClampNeg) (if (M 8 x2.toNatClampNeg) < (M 71 ((((Int32.ofInt 8) * (M 5 x2.toNatClampNeg)) + (M 6 x2.toNatClampNeg)).toNatClampNeg)) then (M 8 x2.toNatClampNeg) else (M 71 ((((Int32.ofInt 8) * (M 5 x2.toNatClampNeg)) + (M 6 x2.toNatClampNeg)).toNatClampNeg)))) 71 ((((Int32.ofInt 8) * (M 6 x2.toNatClampNeg)) + (M 5 x2.toNatClampNeg)).toNatClampNeg) (if (M 8 x2.toNatClampNeg) < ((mput M 71 ((((Int32.ofInt 8) * (M 5 x2.toNatClampNeg)) + (M 6 x2.toNatClampNeg)).toNatClampNeg) (if (M 8 x2.toNatClampNeg) < (M 71 ((((Int32.ofInt 8) * (M 5 x2.toNatClampNeg)) + (M 6 x2.toNatClampNeg)).toNatClampNeg)) then (M 8 x2.toNatClampNeg) else (M 71 ((((Int32.ofInt 8) * (M 5 x2.toNatClampNeg)) + (M 6 x2.toNatClampNeg)).toNatClampNeg)))) 71 ((((Int32.ofInt 8) * (M 6 x2.toNatClampNeg)) + (M 5 x2.toNatClampNeg)).toNatClampNeg)) then (M 8 x2.toNatClampNeg) else ((mput M 71 ((((Int32.ofInt 8) * (M 5 x2.toNatClampNeg)) + (M 6 x2.toNatClampNeg)).toNatClampNeg) (if (M 8 x2.toNatClampNeg) < (M 71 ((((Int32.ofInt 8) * (M 5 x2.toNatClampNeg)) + (M 6 x2.toNatClampNeg)).toNatClampNeg)) then (M 8 x2.toNatClampNeg) else (M 71 ((((Int32.ofInt 8) * (M 5 x2.toNatClampNeg)) + (M 6 x2.toNatClampNeg)).toNatClampNeg)))) 71 ((((Int32.ofInt 8) * (M 6 x2.toNatClampNeg)) + (M 5 x2.toNatClampNeg)).toNatClampNeg)))) L Q from ⟨⟨rfl, (o_3 c_1 c_2)⟩, ?_⟩)
      exact wp_vret (by decide +kernel) rfl (by rw [g_X1_layTube_70, if_neg c_1, if_neg c_2] at hQ; exact hQ)

def g_X1_layTube_72 (M : Mem) (x2 : Int32) : Mem := (if (M 7 x2.toNatClampNeg) = (Int32.ofInt 120) then M else (if (M 7 x2.toNatClampNeg) = (Int32.ofInt 62) then (mput M 73 ((((Int32.ofInt 8) * (M 5 x2.toNatClampNeg)) + (M 6 x2.toNatClampNeg)).toNatClampNeg) (if (M 8 x2.toNatClampNeg) < (M 73 ((((Int32.ofInt 8) * (M 5 x2.toNatClampNeg)) + (M 6 x2.toNatClampNeg)).toNatClampNeg)) then (M 8 x2.toNatClampNeg) else (M 73 ((((Int32.ofInt 8) * (M 5 x2.toNatClampNeg)) + (M 6 x2.toNatClampNeg)).toNatClampNeg)))) else (mput (mput M 73 ((((Int32.ofInt 8) * (M 5 x2.toNatClampNeg)) + (M 6 x2.toNatClampNeg)).toNatClampNeg) (if (M 8 x2.toNatClampNeg) < (M 73 ((((Int32.ofInt 8) * (M 5 x2.toNatClampNeg)) + (M 6 x2.toNatClampNeg)).toNatClampNeg)) then (M 8 x2.toNatClampNeg) else (M 73 ((((Int32.ofInt 8) * (M 5 x2.toNatClampNeg)) + (M 6 x2.toNatClampNeg)).toNatClampNeg)))) 73 ((((Int32.ofInt 8) * (M 6 x2.toNatClampNeg)) + (M 5 x2.toNatClampNeg)).toNatClampNeg) (if (M 8 x2.toNatClampNeg) < ((mput M 73 ((((Int32.ofInt 8) * (M 5 x2.toNatClampNeg)) + (M 6 x2.toNatClampNeg)).toNatClampNeg) (if (M 8 x2.toNatClampNeg) < (M 73 ((((Int32.ofInt 8) * (M 5 x2.toNatClampNeg)) + (M 6 x2.toNatClampNeg)).toNatClampNeg)) then (M 8 x2.toNatClampNeg) else (M 73 ((((Int32.ofInt 8) * (M 5 x2.toNatClampNeg)) + (M 6 x2.toNatClampNeg)).toNatClampNeg)))) 73 ((((Int32.ofInt 8) * (M 6 x2.toNatClampNeg)) + (M 5 x2.toNatClampNeg)).toNatClampNeg)) then (M 8 x2.toNatClampNeg) else ((mput M 73 ((((Int32.ofInt 8) * (M 5 x2.toNatClampNeg)) + (M 6 x2.toNatClampNeg)).toNatClampNeg) (if (M 8 x2.toNatClampNeg) < (M 73 ((((Int32.ofInt 8) * (M 5 x2.toNatClampNeg)) + (M 6 x2.toNatClampNeg)).toNatClampNeg)) then (M 8 x2.toNatClampNeg) else (M 73 ((((Int32.ofInt 8) * (M 5 x2.toNatClampNeg)) + (M 6 x2.toNatClampNeg)).toNatClampNeg)))) 73 ((((Int32.ofInt 8) * (M 6 x2.toNatClampNeg)) + (M 5 x2.toNatClampNeg)).toNatClampNeg))))))
theorem s_X1_layTube_72 {E : VE} {d : Nat} {Q : QQ} {L : LMem} (M : Mem) (x2 : Int32) (o_1 : vp_in x2 12) (o_2 : ¬ ((M 7 x2.toNatClampNeg) = (Int32.ofInt 120)) → vp_in (((Int32.ofInt 8) * (M 5 x2.toNatClampNeg)) + (M 6 x2.toNatClampNeg)) 64) (o_3 : ¬ ((M 7 x2.toNatClampNeg) = (Int32.ofInt 120)) → ¬ ((M 7 x2.toNatClampNeg) = (Int32.ofInt 62)) → vp_in (((Int32.ofInt 8) * (M 6 x2.toNatClampNeg)) + (M 5 x2.toNatClampNeg)) 64) (hQ : Q none (g_X1_layTube_72 M x2) L) : Wp E d 6 0 [.ref 72, .ref 4, .int x2, .null, .null] [] M L Q := by
  refine wp_seg (pc' := 8) [.iconst 8, .aload 1, .getfield 128, .iload 2, .iaload] (by decide +kernel) (show aok 5 0 x2 ∧ Wp E d 6 8 [.ref 72, .ref 4, .int x2, .null, .null] [.int (M 5 x2.toNatClampNeg), .int (Int32.ofInt 8)] M L Q from ⟨⟨rfl, (o_1)⟩, ?_⟩)
  refine wp_seg (pc' := 15) [.imul, .aload 1, .getfield 129, .iload 2, .iaload] (by decide +kernel) (show aok 6 0 x2 ∧ Wp E d 6 15 [.ref 72, .ref 4, .int x2, .null, .null] [.int (M 6 x2.toNatClampNeg), .int ((Int32.ofInt 8) * (M 5 x2.toNatClampNeg))] M L Q from ⟨⟨rfl, (o_1)⟩, ?_⟩)
  refine wp_seg (pc' := 25) [.iadd, .istore 3, .iconst 8, .aload 1, .getfield 129, .iload 2, .iaload] (by decide +kernel) (show aok 6 0 x2 ∧ Wp E d 6 25 [.ref 72, .ref 4, .int x2, .int (((Int32.ofInt 8) * (M 5 x2.toNatClampNeg)) + (M 6 x2.toNatClampNeg)), .null] [.int (M 6 x2.toNatClampNeg), .int (Int32.ofInt 8)] M L Q from ⟨⟨rfl, (o_1)⟩, ?_⟩)
  refine wp_seg (pc' := 32) [.imul, .aload 1, .getfield 128, .iload 2, .iaload] (by decide +kernel) (show aok 5 0 x2 ∧ Wp E d 6 32 [.ref 72, .ref 4, .int x2, .int (((Int32.ofInt 8) * (M 5 x2.toNatClampNeg)) + (M 6 x2.toNatClampNeg)), .null] [.int (M 5 x2.toNatClampNeg), .int ((Int32.ofInt 8) * (M 6 x2.toNatClampNeg))] M L Q from ⟨⟨rfl, (o_1)⟩, ?_⟩)
  refine wp_seg (pc' := 41) [.iadd, .istore 4, .aload 1, .getfield 130, .iload 2, .iaload] (by decide +kernel) (show aok 7 0 x2 ∧ Wp E d 6 41 [.ref 72, .ref 4, .int x2, .int (((Int32.ofInt 8) * (M 5 x2.toNatClampNeg)) + (M 6 x2.toNatClampNeg)), .int (((Int32.ofInt 8) * (M 6 x2.toNatClampNeg)) + (M 5 x2.toNatClampNeg))] [.int (M 7 x2.toNatClampNeg)] M L Q from ⟨⟨rfl, (o_1)⟩, ?_⟩)
  refine wp_seg (pc' := 43) [.iconst 120] (by decide +kernel) (?_ : Wp E d 6 43 [.ref 72, .ref 4, .int x2, .int (((Int32.ofInt 8) * (M 5 x2.toNatClampNeg)) + (M 6 x2.toNatClampNeg)), .int (((Int32.ofInt 8) * (M 6 x2.toNatClampNeg)) + (M 5 x2.toNatClampNeg))] [.int (Int32.ofInt 120), .int (M 7 x2.toNatClampNeg)] M L Q)
  refine wp_icmpeq (off := 58) 101 (by decide +kernel) (by decide) (fun c_1 => ?_) (fun c_1 => ?_)
  · exact wp_vret (by decide +kernel) rfl (by rw [g_X1_layTube_72, if_pos c_1] at hQ; exact hQ)
  · refine wp_seg (pc' := 57) [.aload 0, .getfield 64, .iload 3, .aload 0, .getfield 64, .iload 3, .iaload] (by decide +kernel) (show aok 73 0 (((Int32.ofInt 8) * (M 5 x2.toNatClampNeg)) + (M 6 x2.toNatClampNeg)) ∧ Wp E d 6 57 [.ref 72, .ref 4, .int x2, .int (((Int32.ofInt 8) * (M 5 x2.toNatClampNeg)) + (M 6 x2.toNatClampNeg)), .int (((Int32.ofInt 8) * (M 6 x2.toNatClampNeg)) + (M 5 x2.toNatClampNeg))] [.int (M 73 ((((Int32.ofInt 8) * (M 5 x2.toNatClampNeg)) + (M 6 x2.toNatClampNeg)).toNatClampNeg)), .int (((Int32.ofInt 8) * (M 5 x2.toNatClampNeg)) + (M 6 x2.toNatClampNeg)), .ref 73] M L Q from ⟨⟨rfl, (o_2 c_1)⟩, ?_⟩)
    refine wp_seg (pc' := 63) [.aload 1, .getfield 131, .iload 2, .iaload] (by decide +kernel) (show aok 8 0 x2 ∧ Wp E d 6 63 [.ref 72, .ref 4, .int x2, .int (((Int32.ofInt 8) * (M 5 x2.toNatClampNeg)) + (M 6 x2.toNatClampNeg)), .int (((Int32.ofInt 8) * (M 6 x2.toNatClampNeg)) + (M 5 x2.toNatClampNeg))] [.int (M 8 x2.toNatClampNeg), .int (M 73 ((((Int32.ofInt 8) * (M 5 x2.toNatClampNeg)) + (M 6 x2.toNatClampNeg)).toNatClampNeg)), .int (((Int32.ofInt 8) * (M 5 x2.toNatClampNeg)) + (M 6 x2.toNatClampNeg)), .ref 73] M L Q from ⟨⟨rfl, (o_1)⟩, ?_⟩)
    refine wp_seg (pc' := 67) [.invokestatic 1, .iastore] (by decide +kernel) (show aok 73 0 (((Int32.ofInt 8) * (M 5 x2.toNatClampNeg)) + (M 6 x2.toNatClampNeg)) ∧ Wp E d 6 67 [.ref 72, .ref 4, .int x2, .int (((Int32.ofInt 8) * (M 5 x2.toNatClampNeg)) + (M 6 x2.toNatClampNeg)), .int (((Int32.ofInt 8) * (M 6 x2.toNatClampNeg)) + (M 5 x2.toNatClampNeg))] [] (mput M 73 ((((Int32.ofInt 8) * (M 5 x2.toNatClampNeg)) + (M 6 x2.toNatClampNeg)).toNatClampNeg) (if (M 8 x2.toNatClampNeg) < (M 73 ((((Int32.ofInt 8) * (M 5 x2.toNatClampNeg)) + (M 6 x2.toNatClampNeg)).toNatClampNeg)) then (M 8 x2.toNatClampNeg) else (M 73 ((((Int32.ofInt 8) * (M 5 x2.toNatClampNeg)) + (M 6 x2.toNatClampNeg)).toNatClampNeg)))) L Q from ⟨⟨rfl, (o_2 c_1)⟩, ?_⟩)
    refine wp_seg (pc' := 73) [.aload 1, .getfield 130, .iload 2, .iaload] (by decide +kernel) (show aok 7 0 x2 ∧ Wp E d 6 73 [.ref 72, .ref 4, .int x2, .int (((Int32.ofInt 8) * (M 5 x2.toNatClampNeg)) + (M 6 x2.toNatClampNeg)), .int (((Int32.ofInt 8) * (M 6 x2.toNatClampNeg)) + (M 5 x2.toNatClampNeg))] [.int (M 7 x2.toNatClampNeg)] (mput M 73 ((((Int32.ofInt 8) * (M 5 x2.toNatClampNeg)) + (M 6 x2.toNatClampNeg)).toNatClampNeg) (if (M 8 x2.toNatClampNeg) < (M 73 ((((Int32.ofInt 8) * (M 5 x2.toNatClampNeg)) + (M 6 x2.toNatClampNeg)).toNatClampNeg)) then (M 8 x2.toNatClampNeg) else (M 73 ((((Int32.ofInt 8) * (M 5 x2.toNatClampNeg)) + (M 6 x2.toNatClampNeg)).toNatClampNeg)))) L Q from ⟨⟨rfl, (o_1)⟩, ?_⟩)
    refine wp_seg (pc' := 75) [.iconst 62] (by decide +kernel) (?_ : Wp E d 6 75 [.ref 72, .ref 4, .int x2, .int (((Int32.ofInt 8) * (M 5 x2.toNatClampNeg)) + (M 6 x2.toNatClampNeg)), .int (((Int32.ofInt 8) * (M 6 x2.toNatClampNeg)) + (M 5 x2.toNatClampNeg))] [.int (Int32.ofInt 62), .int (M 7 x2.toNatClampNeg)] (mput M 73 ((((Int32.ofInt 8) * (M 5 x2.toNatClampNeg)) + (M 6 x2.toNatClampNeg)).toNatClampNeg) (if (M 8 x2.toNatClampNeg) < (M 73 ((((Int32.ofInt 8) * (M 5 x2.toNatClampNeg)) + (M 6 x2.toNatClampNeg)).toNatClampNeg)) then (M 8 x2.toNatClampNeg) else (M 73 ((((Int32.ofInt 8) * (M 5 x2.toNatClampNeg)) + (M 6 x2.toNatClampNeg)).toNatClampNeg)))) L Q)
    refine wp_icmpeq (off := 26) 101 (by decide +kernel) (by decide) (fun c_2 => ?_) (fun c_2 => ?_)
    · exact wp_vret (by decide +kernel) rfl (by rw [g_X1_layTube_72, if_neg c_1, if_pos c_2] at hQ; exact hQ)
    · refine wp_seg (pc' := 91) [.aload 0, .getfield 64, .iload 4, .aload 0, .getfield 64, .iload 4, .iaload] (by decide +kernel) (show aok 73 0 (((Int32.ofInt 8) * (M 6 x2.toNatClampNeg)) + (M 5 x2.toNatClampNeg)) ∧ Wp E d 6 91 [.ref 72, .ref 4, .int x2, .int (((Int32.ofInt 8) * (M 5 x2.toNatClampNeg)) + (M 6 x2.toNatClampNeg)), .int (((Int32.ofInt 8) * (M 6 x2.toNatClampNeg)) + (M 5 x2.toNatClampNeg))] [.int ((mput M 73 ((((Int32.ofInt 8) * (M 5 x2.toNatClampNeg)) + (M 6 x2.toNatClampNeg)).toNatClampNeg) (if (M 8 x2.toNatClampNeg) < (M 73 ((((Int32.ofInt 8) * (M 5 x2.toNatClampNeg)) + (M 6 x2.toNatClampNeg)).toNatClampNeg)) then (M 8 x2.toNatClampNeg) else (M 73 ((((Int32.ofInt 8) * (M 5 x2.toNatClampNeg)) + (M 6 x2.toNatClampNeg)).toNatClampNeg)))) 73 ((((Int32.ofInt 8) * (M 6 x2.toNatClampNeg)) + (M 5 x2.toNatClampNeg)).toNatClampNeg)), .int (((Int32.ofInt 8) * (M 6 x2.toNatClampNeg)) + (M 5 x2.toNatClampNeg)), .ref 73] (mput M 73 ((((Int32.ofInt 8) * (M 5 x2.toNatClampNeg)) + (M 6 x2.toNatClampNeg)).toNatClampNeg) (if (M 8 x2.toNatClampNeg) < (M 73 ((((Int32.ofInt 8) * (M 5 x2.toNatClampNeg)) + (M 6 x2.toNatClampNeg)).toNatClampNeg)) then (M 8 x2.toNatClampNeg) else (M 73 ((((Int32.ofInt 8) * (M 5 x2.toNatClampNeg)) + (M 6 x2.toNatClampNeg)).toNatClampNeg)))) L Q from ⟨⟨rfl, (o_3 c_1 c_2)⟩, ?_⟩)
      refine wp_seg (pc' := 97) [.aload 1, .getfield 131, .iload 2, .iaload] (by decide +kernel) (show aok 8 0 x2 ∧ Wp E d 6 97 [.ref 72, .ref 4, .int x2, .int (((Int32.ofInt 8) * (M 5 x2.toNatClampNeg)) + (M 6 x2.toNatClampNeg)), .int (((Int32.ofInt 8) * (M 6 x2.toNatClampNeg)) + (M 5 x2.toNatClampNeg))] [.int (M 8 x2.toNatClampNeg), .int ((mput M 73 ((((Int32.ofInt 8) * (M 5 x2.toNatClampNeg)) + (M 6 x2.toNatClampNeg)).toNatClampNeg) (if (M 8 x2.toNatClampNeg) < (M 73 ((((Int32.ofInt 8) * (M 5 x2.toNatClampNeg)) + (M 6 x2.toNatClampNeg)).toNatClampNeg)) then (M 8 x2.toNatClampNeg) else (M 73 ((((Int32.ofInt 8) * (M 5 x2.toNatClampNeg)) + (M 6 x2.toNatClampNeg)).toNatClampNeg)))) 73 ((((Int32.ofInt 8) * (M 6 x2.toNatClampNeg)) + (M 5 x2.toNatClampNeg)).toNatClampNeg)), .int (((Int32.ofInt 8) * (M 6 x2.toNatClampNeg)) + (M 5 x2.toNatClampNeg)), .ref 73] (mput M 73 ((((Int32.ofInt 8) * (M 5 x2.toNatClampNeg)) + (M 6 x2.toNatClampNeg)).toNatClampNeg) (if (M 8 x2.toNatClampNeg) < (M 73 ((((Int32.ofInt 8) * (M 5 x2.toNatClampNeg)) + (M 6 x2.toNatClampNeg)).toNatClampNeg)) then (M 8 x2.toNatClampNeg) else (M 73 ((((Int32.ofInt 8) * (M 5 x2.toNatClampNeg)) + (M 6 x2.toNatClampNeg)).toNatClampNeg)))) L Q from ⟨⟨rfl, (o_1)⟩, ?_⟩)
      refine wp_seg (pc' := 101) [.invokestatic 1, .iastore] (by decide +kernel) (show aok 73 0 (((Int32.ofInt 8) * (M 6 x2.toNatClampNeg)) + (M 5 x2.toNatClampNeg)) ∧ Wp E d 6 101 [.ref 72, .ref 4, .int x2, .int (((Int32.ofInt 8) * (M 5 x2.toNatClampNeg)) + (M 6 x2.toNatClampNeg)), .int (((Int32.ofInt 8) * (M 6 x2.toNatClampNeg)) + (M 5 x2.toNatClampNeg))] [] (mput (mput M 73 ((((Int32.ofInt 8) * (M 5 x2.toNatClampNeg)) + (M 6 x2.toNatClampNeg)).toNatClampNeg) (if (M 8 x2.toNatClampNeg) < (M 73 ((((Int32.ofInt 8) * (M 5 x2.toNatClampNeg)) + (M 6 x2.toNatClampNeg)).toNatClampNeg)) then (M 8 x2.toNatClampNeg) else (M 73 ((((Int32.ofInt 8) * (M 5 x2.toNatClampNeg)) + (M 6 x2.toNatClampNeg)).toNatClampNeg)))) 73 ((((Int32.ofInt 8) * (M 6 x2.toNatClampNeg)) + (M 5 x2.toNatClampNeg)).toNatClampNeg) (if (M 8 x2.toNatClampNeg) < ((mput M 73 ((((Int32.ofInt 8) * (M 5 x2.toNatClampNeg)) + (M 6 x2.toNatClampNeg)).toNatClampNeg) (if (M 8 x2.toNatClampNeg) < (M 73 ((((Int32.ofInt 8) * (M 5 x2.toNatClampNeg)) + (M 6 x2.toNatClampNeg)).toNatClampNeg)) then (M 8 x2.toNatClampNeg) else (M 73 ((((Int32.ofInt 8) * (M 5 x2.toNatClampNeg)) + (M 6 x2.toNatClampNeg)).toNatClampNeg)))) 73 ((((Int32.ofInt 8) * (M 6 x2.toNatClampNeg)) + (M 5 x2.toNatClampNeg)).toNatClampNeg)) then (M 8 x2.toNatClampNeg) else ((mput M 73 ((((Int32.ofInt 8) * (M 5 x2.toNatClampNeg)) + (M 6 x2.toNatClampNeg)).toNatClampNeg) (if (M 8 x2.toNatClampNeg) < (M 73 ((((Int32.ofInt 8) * (M 5 x2.toNatClampNeg)) + (M 6 x2.toNatClampNeg)).toNatClampNeg)) then (M 8 x2.toNatClampNeg) else (M 73 ((((Int32.ofInt 8) * (M 5 x2.toNatClampNeg)) + (M 6 x2.toNatClampNeg)).toNatClampNeg)))) 73 ((((Int32.ofInt 8) * (M 6 x2.toNatClampNeg)) + (M 5 x2.toNatClampNeg)).toNatClampNeg)))) L Q from ⟨⟨rfl, (o_3 c_1 c_2)⟩, ?_⟩)
      exact wp_vret (by decide +kernel) rfl (by rw [g_X1_layTube_72, if_neg c_1, if_neg c_2] at hQ; exact hQ)

def f_X3_addWaiting (M : Mem) (x1 : Int32) (x2 : Int32) (x3 : Int32) (x4 : Int32) : Int32 := (if (M 3 8) < (Int32.ofInt 5) then Int32.ofInt 1 else Int32.ofInt 0)
def g_X3_addWaiting (M : Mem) (x1 : Int32) (x2 : Int32) (x3 : Int32) (x4 : Int32) : Mem := (if (M 3 8) < (Int32.ofInt 5) then (mput (mput (mput (mput (mput M 10 ((M 3 8).toNatClampNeg) x1) 11 ((M 3 8).toNatClampNeg) x2) 12 ((M 3 8).toNatClampNeg) x3) 13 ((M 3 8).toNatClampNeg) x4) 3 8 ((M 3 8) + (Int32.ofInt 1))) else M)
theorem z_X3_addWaiting (M : Mem) (x1 : Int32) (x2 : Int32) (x3 : Int32) (x4 : Int32) : f_X3_addWaiting M x1 x2 x3 x4 = 0 ∨ f_X3_addWaiting M x1 x2 x3 x4 = 1 := by
  unfold f_X3_addWaiting
  repeat' split
  all_goals first | exact Or.inl rfl | exact Or.inr rfl
theorem s_X3_addWaiting {E : VE} {d : Nat} {Q : QQ} {L : LMem} (M : Mem) (x1 : Int32) (x2 : Int32) (x3 : Int32) (x4 : Int32) (o_1 : (M 3 8) < (Int32.ofInt 5) → vp_in (M 3 8) 5) (hQ : Q (some (.int (f_X3_addWaiting M x1 x2 x3 x4))) (g_X3_addWaiting M x1 x2 x3 x4) L) : Wp E d 18 0 [.ref 3, .int x1, .int x2, .int x3, .int x4] [] M L Q := by
  refine wp_seg (pc' := 5) [.aload 0, .getfield 200, .iconst 5] (by decide +kernel) (?_ : Wp E d 18 5 [.ref 3, .int x1, .int x2, .int x3, .int x4] [.int (Int32.ofInt 5), .int (M 3 8)] M L Q)
  refine wp_icmplt (off := 5) 10 (by decide +kernel) (by decide) (fun c_1 => ?_) (fun c_1 => ?_)
  · refine wp_seg (pc' := 20) [.aload 0, .getfield 196, .aload 0, .getfield 200, .iload 1, .iastore] (by decide +kernel) (show aok 10 0 (M 3 8) ∧ Wp E d 18 20 [.ref 3, .int x1, .int x2, .int x3, .int x4] [] (mput M 10 ((M 3 8).toNatClampNeg) x1) L Q from ⟨⟨rfl, (o_1 c_1)⟩, ?_⟩)
    refine wp_seg (pc' := 30) [.aload 0, .getfield 197, .aload 0, .getfield 200, .iload 2, .iastore] (by decide +kernel) (show aok 11 0 (M 3 8) ∧ Wp E d 18 30 [.ref 3, .int x1, .int x2, .int x3, .int x4] [] (mput (mput M 10 ((M 3 8).toNatClampNeg) x1) 11 ((M 3 8).toNatClampNeg) x2) L Q from ⟨⟨rfl, (o_1 c_1)⟩, ?_⟩)
    refine wp_seg (pc' := 40) [.aload 0, .getfield 198, .aload 0, .getfield 200, .iload 3, .iastore] (by decide +kernel) (show aok 12 0 (M 3 8) ∧ Wp E d 18 40 [.ref 3, .int x1, .int x2, .int x3, .int x4] [] (mput (mput (mput M 10 ((M 3 8).toNatClampNeg) x1) 11 ((M 3 8).toNatClampNeg) x2) 12 ((M 3 8).toNatClampNeg) x3) L Q from ⟨⟨rfl, (o_1 c_1)⟩, ?_⟩)
    refine wp_seg (pc' := 51) [.aload 0, .getfield 199, .aload 0, .getfield 200, .iload 4, .iastore] (by decide +kernel) (show aok 13 0 (M 3 8) ∧ Wp E d 18 51 [.ref 3, .int x1, .int x2, .int x3, .int x4] [] (mput (mput (mput (mput M 10 ((M 3 8).toNatClampNeg) x1) 11 ((M 3 8).toNatClampNeg) x2) 12 ((M 3 8).toNatClampNeg) x3) 13 ((M 3 8).toNatClampNeg) x4) L Q from ⟨⟨rfl, (o_1 c_1)⟩, ?_⟩)
    refine wp_seg (pc' := 62) [.aload 0, .dup, .getfield 200, .iconst 1, .iadd, .putfield 200, .iconst 1] (by decide +kernel) (?_ : Wp E d 18 62 [.ref 3, .int x1, .int x2, .int x3, .int x4] [.int (Int32.ofInt 1)] (mput (mput (mput (mput (mput M 10 ((M 3 8).toNatClampNeg) x1) 11 ((M 3 8).toNatClampNeg) x2) 12 ((M 3 8).toNatClampNeg) x3) 13 ((M 3 8).toNatClampNeg) x4) 3 8 ((M 3 8) + (Int32.ofInt 1))) L Q)
    exact wp_zret (by decide +kernel) rfl (by decide) (by rw [f_X3_addWaiting, if_pos c_1, g_X3_addWaiting, if_pos c_1] at hQ; exact hQ)
  · refine wp_seg (pc' := 9) [.iconst 0] (by decide +kernel) (?_ : Wp E d 18 9 [.ref 3, .int x1, .int x2, .int x3, .int x4] [.int (Int32.ofInt 0)] M L Q)
    exact wp_zret (by decide +kernel) rfl (by decide) (by rw [f_X3_addWaiting, if_neg c_1, g_X3_addWaiting, if_neg c_1] at hQ; exact hQ)

def f_X10_in (M : Mem) (x1 : Int64) (x2 : Int64) (x3 : Int64) : Int32 := (if (lg_cmp x1 x2) < 0 then Int32.ofInt 0 else (if 0 < (lg_cmp x1 x3) then Int32.ofInt 0 else Int32.ofInt 1))
theorem z_X10_in (M : Mem) (x1 : Int64) (x2 : Int64) (x3 : Int64) : f_X10_in M x1 x2 x3 = 0 ∨ f_X10_in M x1 x2 x3 = 1 := by
  unfold f_X10_in
  repeat' split
  all_goals first | exact Or.inl rfl | exact Or.inr rfl
theorem s_X10_in {E : VE} {d : Nat} {Q : QQ} {L : LMem} (M : Mem) (x1 : Int64) (x2 : Int64) (x3 : Int64) (hQ : Q (some (.int (f_X10_in M x1 x2 x3))) M L) : Wp E d 94 0 [.long x1, .null, .long x2, .null, .long x3, .null] [] M L Q := by
  refine wp_seg (pc' := 3) [.lload 0, .lload 2, .lcmp] (by decide +kernel) (?_ : Wp E d 94 3 [.long x1, .null, .long x2, .null, .long x3, .null] [.int (lg_cmp x1 x2)] M L Q)
  refine wp_iflt (off := 14) 17 (by decide +kernel) (by decide) (fun c_1 => ?_) (fun c_1 => ?_)
  · refine wp_seg (pc' := 18) [.iconst 0] (by decide +kernel) (?_ : Wp E d 94 18 [.long x1, .null, .long x2, .null, .long x3, .null] [.int (Int32.ofInt 0)] M L Q)
    exact wp_zret (by decide +kernel) rfl (by decide) (by rw [f_X10_in, if_pos c_1] at hQ; exact hQ)
  · refine wp_seg (pc' := 10) [.lload 0, .lload 4, .lcmp] (by decide +kernel) (?_ : Wp E d 94 10 [.long x1, .null, .long x2, .null, .long x3, .null] [.int (lg_cmp x1 x3)] M L Q)
    refine wp_ifgt (off := 7) 17 (by decide +kernel) (by decide) (fun c_2 => ?_) (fun c_2 => ?_)
    · refine wp_seg (pc' := 18) [.iconst 0] (by decide +kernel) (?_ : Wp E d 94 18 [.long x1, .null, .long x2, .null, .long x3, .null] [.int (Int32.ofInt 0)] M L Q)
      exact wp_zret (by decide +kernel) rfl (by decide) (by rw [f_X10_in, if_neg c_1, if_pos c_2] at hQ; exact hQ)
    · refine wp_seg (pc' := 18) [.iconst 1, .goto 0] (by decide +kernel) (?_ : Wp E d 94 18 [.long x1, .null, .long x2, .null, .long x3, .null] [.int (Int32.ofInt 1)] M L Q)
      exact wp_zret (by decide +kernel) rfl (by decide) (by rw [f_X10_in, if_neg c_1, if_neg c_2] at hQ; exact hQ)

def f_X10_isRoom (M : Mem) (x1 : Int32) : Int32 := f_X10_in M x1.toInt64 (Int64.ofNat 0) (Int64.ofNat 7)
theorem z_X10_isRoom (M : Mem) (x1 : Int32) : f_X10_isRoom M x1 = 0 ∨ f_X10_isRoom M x1 = 1 := by
  unfold f_X10_isRoom
  repeat' split
  all_goals first | exact Or.inl rfl | exact Or.inr rfl | exact z_X10_in ..
theorem s_X10_isRoom {E : VE} {d : Nat} {Q : QQ} {L : LMem} (M : Mem) (x1 : Int32) (hQ : Q (some (.int (f_X10_isRoom M x1))) M L) : Wp E (d + 1) 95 0 [.int x1] [] M L Q := by
  refine wp_seg (pc' := 6) [.iload 0, .i2l, .ldc2_w 0, .ldc2_w 7] (by decide +kernel) (?_ : Wp E (d + 1) 95 6 [.int x1] [.long (Int64.ofNat 7), .long (Int64.ofNat 0), .long x1.toInt64] M L Q)
  refine wp_callS 94 [.long x1.toInt64, .long (Int64.ofNat 0), .long (Int64.ofNat 7)] (i := 129) (by decide +kernel) (by decide +kernel) (by decide +kernel) rfl rfl rfl (rest := []) rfl rfl ?_
  refine s_X10_in M x1.toInt64 (Int64.ofNat 0) (Int64.ofNat 7)  ?_
  show Wp E (d + 1) 95 9 [.int x1] [.int (f_X10_in M x1.toInt64 (Int64.ofNat 0) (Int64.ofNat 7))] M L Q
  exact wp_zret (by decide +kernel) rfl (z_X10_in ..) hQ

def f_X10_areTwo (M : Mem) (x1 : Int32) (x2 : Int32) : Int32 := (if (f_X10_isRoom M x1) = 0 then Int32.ofInt 0 else (if (f_X10_isRoom M x2) = 0 then Int32.ofInt 0 else (if x1 = x2 then Int32.ofInt 0 else Int32.ofInt 1)))
theorem z_X10_areTwo (M : Mem) (x1 : Int32) (x2 : Int32) : f_X10_areTwo M x1 x2 = 0 ∨ f_X10_areTwo M x1 x2 = 1 := by
  unfold f_X10_areTwo
  repeat' split
  all_goals first | exact Or.inl rfl | exact Or.inr rfl
theorem s_X10_areTwo {E : VE} {d : Nat} {Q : QQ} {L : LMem} (M : Mem) (x1 : Int32) (x2 : Int32) (hQ : Q (some (.int (f_X10_areTwo M x1 x2))) M L) : Wp E (d + 2) 96 0 [.int x1, .int x2] [] M L Q := by
  refine wp_seg (pc' := 1) [.iload 0] (by decide +kernel) (?_ : Wp E (d + 2) 96 1 [.int x1, .int x2] [.int x1] M L Q)
  refine wp_callS 95 [.int x1] (i := 133) (by decide +kernel) (by decide +kernel) (by decide +kernel) rfl rfl rfl (rest := []) rfl rfl ?_
  refine s_X10_isRoom M x1  ?_
  show Wp E (d + 2) 96 4 [.int x1, .int x2] [.int (f_X10_isRoom M x1)] M L Q
  refine wp_ifeq (off := 19) 23 (by decide +kernel) (by decide) (fun c_1 => ?_) (fun c_1 => ?_)
  · refine wp_seg (pc' := 24) [.iconst 0] (by decide +kernel) (?_ : Wp E (d + 2) 96 24 [.int x1, .int x2] [.int (Int32.ofInt 0)] M L Q)
    exact wp_zret (by decide +kernel) rfl (by decide) (by rw [f_X10_areTwo, if_pos c_1] at hQ; exact hQ)
  · refine wp_seg (pc' := 8) [.iload 1] (by decide +kernel) (?_ : Wp E (d + 2) 96 8 [.int x1, .int x2] [.int x2] M L Q)
    refine wp_callS 95 [.int x2] (i := 133) (by decide +kernel) (by decide +kernel) (by decide +kernel) rfl rfl rfl (rest := []) rfl rfl ?_
    refine s_X10_isRoom M x2  ?_
    show Wp E (d + 2) 96 11 [.int x1, .int x2] [.int (f_X10_isRoom M x2)] M L Q
    refine wp_ifeq (off := 12) 23 (by decide +kernel) (by decide) (fun c_2 => ?_) (fun c_2 => ?_)
    · refine wp_seg (pc' := 24) [.iconst 0] (by decide +kernel) (?_ : Wp E (d + 2) 96 24 [.int x1, .int x2] [.int (Int32.ofInt 0)] M L Q)
      exact wp_zret (by decide +kernel) rfl (by decide) (by rw [f_X10_areTwo, if_neg c_1, if_pos c_2] at hQ; exact hQ)
    · refine wp_seg (pc' := 16) [.iload 0, .iload 1] (by decide +kernel) (?_ : Wp E (d + 2) 96 16 [.int x1, .int x2] [.int x2, .int x1] M L Q)
      refine wp_icmpeq (off := 7) 23 (by decide +kernel) (by decide) (fun c_3 => ?_) (fun c_3 => ?_)
      · refine wp_seg (pc' := 24) [.iconst 0] (by decide +kernel) (?_ : Wp E (d + 2) 96 24 [.int x1, .int x2] [.int (Int32.ofInt 0)] M L Q)
        exact wp_zret (by decide +kernel) rfl (by decide) (by rw [f_X10_areTwo, if_neg c_1, if_neg c_2, if_pos c_3] at hQ; exact hQ)
      · refine wp_seg (pc' := 24) [.iconst 1, .goto 0] (by decide +kernel) (?_ : Wp E (d + 2) 96 24 [.int x1, .int x2] [.int (Int32.ofInt 1)] M L Q)
        exact wp_zret (by decide +kernel) rfl (by decide) (by rw [f_X10_areTwo, if_neg c_1, if_neg c_2, if_neg c_3] at hQ; exact hQ)

def f_X10_isLetter (M : Mem) (x1 : Int32) : Int32 := f_X10_in M x1.toInt64 (Int64.ofNat 65) (Int64.ofNat 72)
theorem z_X10_isLetter (M : Mem) (x1 : Int32) : f_X10_isLetter M x1 = 0 ∨ f_X10_isLetter M x1 = 1 := by
  unfold f_X10_isLetter
  repeat' split
  all_goals first | exact Or.inl rfl | exact Or.inr rfl | exact z_X10_in ..
theorem s_X10_isLetter {E : VE} {d : Nat} {Q : QQ} {L : LMem} (M : Mem) (x1 : Int32) (hQ : Q (some (.int (f_X10_isLetter M x1))) M L) : Wp E (d + 1) 100 0 [.int x1] [] M L Q := by
  refine wp_seg (pc' := 8) [.iload 0, .i2l, .ldc2_w 65, .ldc2_w 72] (by decide +kernel) (?_ : Wp E (d + 1) 100 8 [.int x1] [.long (Int64.ofNat 72), .long (Int64.ofNat 65), .long x1.toInt64] M L Q)
  refine wp_callS 94 [.long x1.toInt64, .long (Int64.ofNat 65), .long (Int64.ofNat 72)] (i := 129) (by decide +kernel) (by decide +kernel) (by decide +kernel) rfl rfl rfl (rest := []) rfl rfl ?_
  refine s_X10_in M x1.toInt64 (Int64.ofNat 65) (Int64.ofNat 72)  ?_
  show Wp E (d + 1) 100 11 [.int x1] [.int (f_X10_in M x1.toInt64 (Int64.ofNat 65) (Int64.ofNat 72))] M L Q
  exact wp_zret (by decide +kernel) rfl (z_X10_in ..) hQ

def f_X10_isKind (M : Mem) (x1 : Int32) : Int32 := (if x1 = (Int32.ofInt 45) then Int32.ofInt 1 else (if x1 = (Int32.ofInt 62) then Int32.ofInt 1 else (if x1 = (Int32.ofInt 126) then Int32.ofInt 1 else (if x1 = (Int32.ofInt 61) then Int32.ofInt 1 else (if x1 = (Int32.ofInt 120) then Int32.ofInt 1 else Int32.ofInt 0)))))
theorem z_X10_isKind (M : Mem) (x1 : Int32) : f_X10_isKind M x1 = 0 ∨ f_X10_isKind M x1 = 1 := by
  unfold f_X10_isKind
  repeat' split
  all_goals first | exact Or.inl rfl | exact Or.inr rfl
theorem s_X10_isKind {E : VE} {d : Nat} {Q : QQ} {L : LMem} (M : Mem) (x1 : Int32) (hQ : Q (some (.int (f_X10_isKind M x1))) M L) : Wp E d 101 0 [.int x1] [] M L Q := by
  refine wp_seg (pc' := 3) [.iload 0, .iconst 45] (by decide +kernel) (?_ : Wp E d 101 3 [.int x1] [.int (Int32.ofInt 45), .int x1] M L Q)
  refine wp_icmpeq (off := 27) 30 (by decide +kernel) (by decide) (fun c_1 => ?_) (fun c_1 => ?_)
  · refine wp_seg (pc' := 35) [.iconst 1, .goto 0] (by decide +kernel) (?_ : Wp E d 101 35 [.int x1] [.int (Int32.ofInt 1)] M L Q)
    exact wp_zret (by decide +kernel) rfl (by decide) (by rw [f_X10_isKind, if_pos c_1] at hQ; exact hQ)
  · refine wp_seg (pc' := 9) [.iload 0, .iconst 62] (by decide +kernel) (?_ : Wp E d 101 9 [.int x1] [.int (Int32.ofInt 62), .int x1] M L Q)
    refine wp_icmpeq (off := 21) 30 (by decide +kernel) (by decide) (fun c_2 => ?_) (fun c_2 => ?_)
    · refine wp_seg (pc' := 35) [.iconst 1, .goto 0] (by decide +kernel) (?_ : Wp E d 101 35 [.int x1] [.int (Int32.ofInt 1)] M L Q)
      exact wp_zret (by decide +kernel) rfl (by decide) (by rw [f_X10_isKind, if_neg c_1, if_pos c_2] at hQ; exact hQ)
    · refine wp_seg (pc' := 15) [.iload 0, .iconst 126] (by decide +kernel) (?_ : Wp E d 101 15 [.int x1] [.int (Int32.ofInt 126), .int x1] M L Q)
      refine wp_icmpeq (off := 15) 30 (by decide +kernel) (by decide) (fun c_3 => ?_) (fun c_3 => ?_)
      · refine wp_seg (pc' := 35) [.iconst 1, .goto 0] (by decide +kernel) (?_ : Wp E d 101 35 [.int x1] [.int (Int32.ofInt 1)] M L Q)
        exact wp_zret (by decide +kernel) rfl (by decide) (by rw [f_X10_isKind, if_neg c_1, if_neg c_2, if_pos c_3] at hQ; exact hQ)
      · refine wp_seg (pc' := 21) [.iload 0, .iconst 61] (by decide +kernel) (?_ : Wp E d 101 21 [.int x1] [.int (Int32.ofInt 61), .int x1] M L Q)
        refine wp_icmpeq (off := 9) 30 (by decide +kernel) (by decide) (fun c_4 => ?_) (fun c_4 => ?_)
        · refine wp_seg (pc' := 35) [.iconst 1, .goto 0] (by decide +kernel) (?_ : Wp E d 101 35 [.int x1] [.int (Int32.ofInt 1)] M L Q)
          exact wp_zret (by decide +kernel) rfl (by decide) (by rw [f_X10_isKind, if_neg c_1, if_neg c_2, if_neg c_3, if_pos c_4] at hQ; exact hQ)
        · refine wp_seg (pc' := 27) [.iload 0, .iconst 120] (by decide +kernel) (?_ : Wp E d 101 27 [.int x1] [.int (Int32.ofInt 120), .int x1] M L Q)
          refine wp_icmpne (off := 7) 34 (by decide +kernel) (by decide) (fun c_5 => ?_) (fun c_5 => ?_)
          · refine wp_seg (pc' := 35) [.iconst 0] (by decide +kernel) (?_ : Wp E d 101 35 [.int x1] [.int (Int32.ofInt 0)] M L Q)
            exact wp_zret (by decide +kernel) rfl (by decide) (by rw [f_X10_isKind, if_neg c_1, if_neg c_2, if_neg c_3, if_neg c_4, if_neg c_5] at hQ; exact hQ)
          · refine wp_seg (pc' := 35) [.iconst 1, .goto 0] (by decide +kernel) (?_ : Wp E d 101 35 [.int x1] [.int (Int32.ofInt 1)] M L Q)
            exact wp_zret (by decide +kernel) rfl (by decide) (by rw [f_X10_isKind, if_neg c_1, if_neg c_2, if_neg c_3, if_neg c_4, if_pos c_5] at hQ; exact hQ)

def f_X10_powerOf (M : Mem) (x1 : Int32) : Int32 := (Int32.ofInt 1) <<< (((Int32.ofInt 3) * x1) &&& 31)
theorem s_X10_powerOf {E : VE} {d : Nat} {Q : QQ} {L : LMem} (M : Mem) (x1 : Int32) (hQ : Q (some (.int (f_X10_powerOf M x1))) M L) : Wp E d 141 0 [.int x1] [] M L Q := by
  refine wp_seg (pc' := 5) [.iconst 1, .iconst 3, .iload 0, .imul, .ishl] (by decide +kernel) (?_ : Wp E d 141 5 [.int x1] [.int ((Int32.ofInt 1) <<< (((Int32.ofInt 3) * x1) &&& 31))] M L Q)
  exact wp_iret (by decide +kernel) rfl hQ

def f_X10_leads (M : Mem) (x1 : Int32) (x2 : Int32) : Int32 := (if (M 77 x1.toNatClampNeg) = (Int32.ofInt 120) then Int32.ofInt (-6) else (if (M 75 x1.toNatClampNeg) = x2 then M 76 x1.toNatClampNeg else (if (M 76 x1.toNatClampNeg) = x2 then (if (M 77 x1.toNatClampNeg) = (Int32.ofInt 62) then Int32.ofInt (-6) else M 75 x1.toNatClampNeg) else Int32.ofInt (-6))))
theorem s_X10_leads {E : VE} {d : Nat} {Q : QQ} {L : LMem} (M : Mem) (x1 : Int32) (x2 : Int32) (o_1 : vp_in x1 13) (hQ : Q (some (.int (f_X10_leads M x1 x2))) M L) : Wp E d 109 0 [.ref 74, .int x1, .int x2] [] M L Q := by
  refine wp_seg (pc' := 6) [.aload 0, .getfield 642, .iload 1, .iaload] (by decide +kernel) (show aok 77 0 x1 ∧ Wp E d 109 6 [.ref 74, .int x1, .int x2] [.int (M 77 x1.toNatClampNeg)] M L Q from ⟨⟨rfl, (o_1)⟩, ?_⟩)
  refine wp_seg (pc' := 8) [.iconst 120] (by decide +kernel) (?_ : Wp E d 109 8 [.ref 74, .int x1, .int x2] [.int (Int32.ofInt 120), .int (M 77 x1.toNatClampNeg)] M L Q)
  refine wp_icmpne (off := 6) 14 (by decide +kernel) (by decide) (fun c_1 => ?_) (fun c_1 => ?_)
  · refine wp_seg (pc' := 20) [.aload 0, .getfield 640, .iload 1, .iaload] (by decide +kernel) (show aok 75 0 x1 ∧ Wp E d 109 20 [.ref 74, .int x1, .int x2] [.int (M 75 x1.toNatClampNeg)] M L Q from ⟨⟨rfl, (o_1)⟩, ?_⟩)
    refine wp_seg (pc' := 21) [.iload 2] (by decide +kernel) (?_ : Wp E d 109 21 [.ref 74, .int x1, .int x2] [.int x2, .int (M 75 x1.toNatClampNeg)] M L Q)
    refine wp_icmpne (off := 12) 33 (by decide +kernel) (by decide) (fun c_2 => ?_) (fun c_2 => ?_)
    · refine wp_seg (pc' := 39) [.aload 0, .getfield 641, .iload 1, .iaload] (by decide +kernel) (show aok 76 0 x1 ∧ Wp E d 109 39 [.ref 74, .int x1, .int x2] [.int (M 76 x1.toNatClampNeg)] M L Q from ⟨⟨rfl, (o_1)⟩, ?_⟩)
      refine wp_seg (pc' := 40) [.iload 2] (by decide +kernel) (?_ : Wp E d 109 40 [.ref 74, .int x1, .int x2] [.int x2, .int (M 76 x1.toNatClampNeg)] M L Q)
      refine wp_icmpne (off := 23) 63 (by decide +kernel) (by decide) (fun c_3 => ?_) (fun c_3 => ?_)
      · refine wp_seg (pc' := 65) [.iconst (-6)] (by decide +kernel) (?_ : Wp E d 109 65 [.ref 74, .int x1, .int x2] [.int (Int32.ofInt (-6))] M L Q)
        exact wp_iret (by decide +kernel) rfl (by rw [f_X10_leads, if_neg c_1, if_neg c_2, if_neg c_3] at hQ; exact hQ)
      · refine wp_seg (pc' := 49) [.aload 0, .getfield 642, .iload 1, .iaload] (by decide +kernel) (show aok 77 0 x1 ∧ Wp E d 109 49 [.ref 74, .int x1, .int x2] [.int (M 77 x1.toNatClampNeg)] M L Q from ⟨⟨rfl, (o_1)⟩, ?_⟩)
        refine wp_seg (pc' := 51) [.iconst 62] (by decide +kernel) (?_ : Wp E d 109 51 [.ref 74, .int x1, .int x2] [.int (Int32.ofInt 62), .int (M 77 x1.toNatClampNeg)] M L Q)
        refine wp_icmpeq (off := 12) 63 (by decide +kernel) (by decide) (fun c_4 => ?_) (fun c_4 => ?_)
        · refine wp_seg (pc' := 65) [.iconst (-6)] (by decide +kernel) (?_ : Wp E d 109 65 [.ref 74, .int x1, .int x2] [.int (Int32.ofInt (-6))] M L Q)
          exact wp_iret (by decide +kernel) rfl (by rw [f_X10_leads, if_neg c_1, if_neg c_2, if_pos c_3, if_pos c_4] at hQ; exact hQ)
        · refine wp_seg (pc' := 60) [.aload 0, .getfield 640, .iload 1, .iaload] (by decide +kernel) (show aok 75 0 x1 ∧ Wp E d 109 60 [.ref 74, .int x1, .int x2] [.int (M 75 x1.toNatClampNeg)] M L Q from ⟨⟨rfl, (o_1)⟩, ?_⟩)
          refine wp_seg (pc' := 65) [.goto 0] (by decide +kernel) (?_ : Wp E d 109 65 [.ref 74, .int x1, .int x2] [.int (M 75 x1.toNatClampNeg)] M L Q)
          exact wp_iret (by decide +kernel) rfl (by rw [f_X10_leads, if_neg c_1, if_neg c_2, if_pos c_3, if_neg c_4] at hQ; exact hQ)
    · refine wp_seg (pc' := 30) [.aload 0, .getfield 641, .iload 1, .iaload] (by decide +kernel) (show aok 76 0 x1 ∧ Wp E d 109 30 [.ref 74, .int x1, .int x2] [.int (M 76 x1.toNatClampNeg)] M L Q from ⟨⟨rfl, (o_1)⟩, ?_⟩)
      refine wp_seg (pc' := 65) [.goto 0] (by decide +kernel) (?_ : Wp E d 109 65 [.ref 74, .int x1, .int x2] [.int (M 76 x1.toNatClampNeg)] M L Q)
      exact wp_iret (by decide +kernel) rfl (by rw [f_X10_leads, if_neg c_1, if_pos c_2] at hQ; exact hQ)
  · refine wp_seg (pc' := 13) [.iconst (-6)] (by decide +kernel) (?_ : Wp E d 109 13 [.ref 74, .int x1, .int x2] [.int (Int32.ofInt (-6))] M L Q)
    exact wp_iret (by decide +kernel) rfl (by rw [f_X10_leads, if_pos c_1] at hQ; exact hQ)

def g_X10_nearer (M : Mem) (x1 : Int32) (x2 : Int32) : Mem := (if (f_X10_leads M x1 x2) < 0 then M else (if (M 85 x2.toNatClampNeg) ≤ (((M 85 ((f_X10_leads M x1 x2).toNatClampNeg)) + ((Int32.ofInt 10) * (M 78 x1.toNatClampNeg))) + (Int32.ofInt 1)) then M else (mput M 85 x2.toNatClampNeg (((M 85 ((f_X10_leads M x1 x2).toNatClampNeg)) + ((Int32.ofInt 10) * (M 78 x1.toNatClampNeg))) + (Int32.ofInt 1)))))
theorem s_X10_nearer {E : VE} {d : Nat} {Q : QQ} {L : LMem} (M : Mem) (x1 : Int32) (x2 : Int32) (o_1 : (vp_in x1 13)) (o_2 : ¬ ((f_X10_leads M x1 x2) < 0) → vp_in (f_X10_leads M x1 x2) 8) (o_3 : vp_in x1 13) (o_4 : vp_in x2 8) (hQ : Q none (g_X10_nearer M x1 x2) L) : Wp E (d + 1) 111 0 [.ref 74, .int x1, .int x2, .null] [] M L Q := by
  refine wp_seg (pc' := 3) [.aload 0, .iload 1, .iload 2] (by decide +kernel) (?_ : Wp E (d + 1) 111 3 [.ref 74, .int x1, .int x2, .null] [.int x2, .int x1, .ref 74] M L Q)
  refine wp_callV 109 74 [.int x1, .int x2] (i := 188) (by decide +kernel) (by decide +kernel) (by decide +kernel) (by decide +kernel) rfl rfl rfl (rest := []) rfl rfl ?_
  refine s_X10_leads M x1 x2 (o_1) ?_
  show Wp E (d + 1) 111 6 [.ref 74, .int x1, .int x2, .null] [.int (f_X10_leads M x1 x2)] M L Q
  refine wp_seg (pc' := 8) [.istore 3, .iload 3] (by decide +kernel) (?_ : Wp E (d + 1) 111 8 [.ref 74, .int x1, .int x2, .int (f_X10_leads M x1 x2)] [.int (f_X10_leads M x1 x2)] M L Q)
  refine wp_iflt (off := 54) 62 (by decide +kernel) (by decide) (fun c_1 => ?_) (fun c_1 => ?_)
  · exact wp_vret (by decide +kernel) rfl (by rw [g_X10_nearer, if_pos c_1] at hQ; exact hQ)
  · refine wp_seg (pc' := 17) [.aload 0, .getfield 657, .iload 3, .iaload] (by decide +kernel) (show aok 85 0 (f_X10_leads M x1 x2) ∧ Wp E (d + 1) 111 17 [.ref 74, .int x1, .int x2, .int (f_X10_leads M x1 x2)] [.int (M 85 ((f_X10_leads M x1 x2).toNatClampNeg))] M L Q from ⟨⟨rfl, (o_2 c_1)⟩, ?_⟩)
    refine wp_seg (pc' := 25) [.iconst 10, .aload 0, .getfield 643, .iload 1, .iaload] (by decide +kernel) (show aok 78 0 x1 ∧ Wp E (d + 1) 111 25 [.ref 74, .int x1, .int x2, .int (f_X10_leads M x1 x2)] [.int (M 78 x1.toNatClampNeg), .int (Int32.ofInt 10), .int (M 85 ((f_X10_leads M x1 x2).toNatClampNeg))] M L Q from ⟨⟨rfl, (o_3)⟩, ?_⟩)
    refine wp_seg (pc' := 35) [.imul, .iadd, .iconst 1, .iadd, .aload 0, .getfield 657, .iload 2, .iaload] (by decide +kernel) (show aok 85 0 x2 ∧ Wp E (d + 1) 111 35 [.ref 74, .int x1, .int x2, .int (f_X10_leads M x1 x2)] [.int (M 85 x2.toNatClampNeg), .int (((M 85 ((f_X10_leads M x1 x2).toNatClampNeg)) + ((Int32.ofInt 10) * (M 78 x1.toNatClampNeg))) + (Int32.ofInt 1))] M L Q from ⟨⟨rfl, (o_4)⟩, ?_⟩)
    refine wp_icmpge (off := 27) 62 (by decide +kernel) (by decide) (fun c_2 => ?_) (fun c_2 => ?_)
    · exact wp_vret (by decide +kernel) rfl (by rw [g_X10_nearer, if_neg c_1, if_pos c_2] at hQ; exact hQ)
    · refine wp_seg (pc' := 49) [.aload 0, .getfield 657, .iload 2, .aload 0, .getfield 657, .iload 3, .iaload] (by decide +kernel) (show aok 85 0 (f_X10_leads M x1 x2) ∧ Wp E (d + 1) 111 49 [.ref 74, .int x1, .int x2, .int (f_X10_leads M x1 x2)] [.int (M 85 ((f_X10_leads M x1 x2).toNatClampNeg)), .int x2, .ref 85] M L Q from ⟨⟨rfl, (o_2 c_1)⟩, ?_⟩)
      refine wp_seg (pc' := 57) [.iconst 10, .aload 0, .getfield 643, .iload 1, .iaload] (by decide +kernel) (show aok 78 0 x1 ∧ Wp E (d + 1) 111 57 [.ref 74, .int x1, .int x2, .int (f_X10_leads M x1 x2)] [.int (M 78 x1.toNatClampNeg), .int (Int32.ofInt 10), .int (M 85 ((f_X10_leads M x1 x2).toNatClampNeg)), .int x2, .ref 85] M L Q from ⟨⟨rfl, (o_3)⟩, ?_⟩)
      refine wp_seg (pc' := 62) [.imul, .iadd, .iconst 1, .iadd, .iastore] (by decide +kernel) (show aok 85 0 x2 ∧ Wp E (d + 1) 111 62 [.ref 74, .int x1, .int x2, .int (f_X10_leads M x1 x2)] [] (mput M 85 x2.toNatClampNeg (((M 85 ((f_X10_leads M x1 x2).toNatClampNeg)) + ((Int32.ofInt 10) * (M 78 x1.toNatClampNeg))) + (Int32.ofInt 1))) L Q from ⟨⟨rfl, (o_4)⟩, ?_⟩)
      exact wp_vret (by decide +kernel) rfl (by rw [g_X10_nearer, if_neg c_1, if_neg c_2] at hQ; exact hQ)

def f_X10_hasDone (M : Mem) (x1 : Int32) : Int32 := (if (M 105 x1.toNatClampNeg) = (M 101 x1.toNatClampNeg) then Int32.ofInt 1 else Int32.ofInt 0)
theorem z_X10_hasDone (M : Mem) (x1 : Int32) : f_X10_hasDone M x1 = 0 ∨ f_X10_hasDone M x1 = 1 := by
  unfold f_X10_hasDone
  repeat' split
  all_goals first | exact Or.inl rfl | exact Or.inr rfl
theorem s_X10_hasDone {E : VE} {d : Nat} {Q : QQ} {L : LMem} (M : Mem) (x1 : Int32) (o_1 : vp_in x1 5) (hQ : Q (some (.int (f_X10_hasDone M x1))) M L) : Wp E d 143 0 [.ref 74, .int x1] [] M L Q := by
  refine wp_seg (pc' := 6) [.aload 0, .getfield 683, .iload 1, .iaload] (by decide +kernel) (show aok 105 0 x1 ∧ Wp E d 143 6 [.ref 74, .int x1] [.int (M 105 x1.toNatClampNeg)] M L Q from ⟨⟨rfl, (o_1)⟩, ?_⟩)
  refine wp_seg (pc' := 12) [.aload 0, .getfield 679, .iload 1, .iaload] (by decide +kernel) (show aok 101 0 x1 ∧ Wp E d 143 12 [.ref 74, .int x1] [.int (M 101 x1.toNatClampNeg), .int (M 105 x1.toNatClampNeg)] M L Q from ⟨⟨rfl, (o_1)⟩, ?_⟩)
  refine wp_icmpne (off := 7) 19 (by decide +kernel) (by decide) (fun c_1 => ?_) (fun c_1 => ?_)
  · refine wp_seg (pc' := 20) [.iconst 0] (by decide +kernel) (?_ : Wp E d 143 20 [.ref 74, .int x1] [.int (Int32.ofInt 0)] M L Q)
    exact wp_zret (by decide +kernel) rfl (by decide) (by rw [f_X10_hasDone, if_neg c_1] at hQ; exact hQ)
  · refine wp_seg (pc' := 20) [.iconst 1, .goto 0] (by decide +kernel) (?_ : Wp E d 143 20 [.ref 74, .int x1] [.int (Int32.ofInt 1)] M L Q)
    exact wp_zret (by decide +kernel) rfl (by decide) (by rw [f_X10_hasDone, if_pos c_1] at hQ; exact hQ)

def f_X10_farOf (M : Mem) (x1 : Int32) : Int32 := (if ((M 85 x1.toNatClampNeg) / (Int32.ofInt 10)) ≤ (M 74 5) then (M 85 x1.toNatClampNeg) / (Int32.ofInt 10) else Int32.ofInt 99)
theorem s_X10_farOf {E : VE} {d : Nat} {Q : QQ} {L : LMem} (M : Mem) (x1 : Int32) (o_1 : vp_in x1 8) (hQ : Q (some (.int (f_X10_farOf M x1))) M L) : Wp E d 154 0 [.ref 74, .int x1] [] M L Q := by
  refine wp_seg (pc' := 6) [.aload 0, .getfield 657, .iload 1, .iaload] (by decide +kernel) (show aok 85 0 x1 ∧ Wp E d 154 6 [.ref 74, .int x1] [.int (M 85 x1.toNatClampNeg)] M L Q from ⟨⟨rfl, (o_1)⟩, ?_⟩)
  refine wp_seg (pc' := 9) [.iconst 10, .idiv] (by decide +kernel) (show ¬ (Int32.ofInt 10) = 0 ∧ Wp E d 154 9 [.ref 74, .int x1] [.int ((M 85 x1.toNatClampNeg) / (Int32.ofInt 10))] M L Q from ⟨(by decide), ?_⟩)
  refine wp_seg (pc' := 13) [.aload 0, .getfield 645] (by decide +kernel) (?_ : Wp E d 154 13 [.ref 74, .int x1] [.int (M 74 5), .int ((M 85 x1.toNatClampNeg) / (Int32.ofInt 10))] M L Q)
  refine wp_icmple (off := 8) 21 (by decide +kernel) (by decide) (fun c_1 => ?_) (fun c_1 => ?_)
  · refine wp_seg (pc' := 27) [.aload 0, .getfield 657, .iload 1, .iaload] (by decide +kernel) (show aok 85 0 x1 ∧ Wp E d 154 27 [.ref 74, .int x1] [.int (M 85 x1.toNatClampNeg)] M L Q from ⟨⟨rfl, (o_1)⟩, ?_⟩)
    refine wp_seg (pc' := 30) [.iconst 10, .idiv] (by decide +kernel) (show ¬ (Int32.ofInt 10) = 0 ∧ Wp E d 154 30 [.ref 74, .int x1] [.int ((M 85 x1.toNatClampNeg) / (Int32.ofInt 10))] M L Q from ⟨(by decide), ?_⟩)
    exact wp_iret (by decide +kernel) rfl (by rw [f_X10_farOf, if_pos c_1] at hQ; exact hQ)
  · refine wp_seg (pc' := 30) [.iconst 99, .goto 0] (by decide +kernel) (?_ : Wp E d 154 30 [.ref 74, .int x1] [.int (Int32.ofInt 99)] M L Q)
    exact wp_iret (by decide +kernel) rfl (by rw [f_X10_farOf, if_neg c_1] at hQ; exact hQ)

def f_X10_wipe (M : Mem) : Int32 := M 74 16
def g_X10_wipe (M : Mem) : Mem := (mput M 74 16 (Int32.ofInt 0))
theorem s_X10_wipe {E : VE} {d : Nat} {Q : QQ} {L : LMem} (M : Mem) (hQ : Q (some (.int (f_X10_wipe M))) (g_X10_wipe M) L) : Wp E d 99 0 [.ref 74, .null] [] M L Q := by
  refine wp_seg (pc' := 11) [.aload 0, .getfield 656, .istore 1, .aload 0, .iconst 0, .putfield 656, .iload 1] (by decide +kernel) (?_ : Wp E d 99 11 [.ref 74, .int (M 74 16)] [.int (M 74 16)] (mput M 74 16 (Int32.ofInt 0)) L Q)
  exact wp_iret (by decide +kernel) rfl hQ

def f_X10_clear (M : Mem) : Int32 := M 74 12
def g_X10_clear (M : Mem) : Mem := (mput M 74 12 (Int32.ofInt 0))
theorem s_X10_clear {E : VE} {d : Nat} {Q : QQ} {L : LMem} (M : Mem) (hQ : Q (some (.int (f_X10_clear M))) (g_X10_clear M) L) : Wp E d 131 0 [.ref 74, .null] [] M L Q := by
  refine wp_seg (pc' := 11) [.aload 0, .getfield 652, .istore 1, .aload 0, .iconst 0, .putfield 652, .iload 1] (by decide +kernel) (?_ : Wp E d 131 11 [.ref 74, .int (M 74 12)] [.int (M 74 12)] (mput M 74 12 (Int32.ofInt 0)) L Q)
  exact wp_iret (by decide +kernel) rfl hQ

def f_X10_say (M : Mem) (x1 : Int32) : Int32 := (if (f_X10_in M x1.toInt64 (Int64.ofNat 33) (Int64.ofNat 126)) = 0 then Int32.ofInt (-2) else (if (M 74 16) = (Int32.ofInt 60) then Int32.ofInt (-4) else (M 74 16) + (Int32.ofInt 1)))
def g_X10_say (M : Mem) (x1 : Int32) : Mem := (if (f_X10_in M x1.toInt64 (Int64.ofNat 33) (Int64.ofNat 126)) = 0 then M else (if (M 74 16) = (Int32.ofInt 60) then M else (mput (mput M 84 ((M 74 16).toNatClampNeg) x1) 74 16 ((M 74 16) + (Int32.ofInt 1)))))
theorem s_X10_say {E : VE} {d : Nat} {Q : QQ} {L : LMem} (M : Mem) (x1 : Int32) (o_1 : ¬ ((f_X10_in M x1.toInt64 (Int64.ofNat 33) (Int64.ofNat 126)) = 0) → ¬ ((M 74 16) = (Int32.ofInt 60)) → vp_in (M 74 16) 60) (hQ : Q (some (.int (f_X10_say M x1))) (g_X10_say M x1) L) : Wp E (d + 1) 98 0 [.ref 74, .int x1] [] M L Q := by
  refine wp_seg (pc' := 8) [.iload 1, .i2l, .ldc2_w 33, .ldc2_w 126] (by decide +kernel) (?_ : Wp E (d + 1) 98 8 [.ref 74, .int x1] [.long (Int64.ofNat 126), .long (Int64.ofNat 33), .long x1.toInt64] M L Q)
  refine wp_callS 94 [.long x1.toInt64, .long (Int64.ofNat 33), .long (Int64.ofNat 126)] (i := 129) (by decide +kernel) (by decide +kernel) (by decide +kernel) rfl rfl rfl (rest := []) rfl rfl ?_
  refine s_X10_in M x1.toInt64 (Int64.ofNat 33) (Int64.ofNat 126)  ?_
  show Wp E (d + 1) 98 11 [.ref 74, .int x1] [.int (f_X10_in M x1.toInt64 (Int64.ofNat 33) (Int64.ofNat 126))] M L Q
  refine wp_ifne (off := 6) 17 (by decide +kernel) (by decide) (fun c_1 => ?_) (fun c_1 => ?_)
  · refine wp_seg (pc' := 23) [.aload 0, .getfield 656, .iconst 60] (by decide +kernel) (?_ : Wp E (d + 1) 98 23 [.ref 74, .int x1] [.int (Int32.ofInt 60), .int (M 74 16)] M L Q)
    refine wp_icmpne (off := 6) 29 (by decide +kernel) (by decide) (fun c_2 => ?_) (fun c_2 => ?_)
    · refine wp_seg (pc' := 39) [.aload 0, .getfield 655, .aload 0, .getfield 656, .iload 1, .iastore] (by decide +kernel) (show aok 84 0 (M 74 16) ∧ Wp E (d + 1) 98 39 [.ref 74, .int x1] [] (mput M 84 ((M 74 16).toNatClampNeg) x1) L Q from ⟨⟨rfl, (o_1 c_1 c_2)⟩, ?_⟩)
      refine wp_seg (pc' := 53) [.aload 0, .dup, .getfield 656, .iconst 1, .iadd, .putfield 656, .aload 0, .getfield 656] (by decide +kernel) (?_ : Wp E (d + 1) 98 53 [.ref 74, .int x1] [.int ((M 74 16) + (Int32.ofInt 1))] (mput (mput M 84 ((M 74 16).toNatClampNeg) x1) 74 16 ((M 74 16) + (Int32.ofInt 1))) L Q)
      exact wp_iret (by decide +kernel) rfl (by rw [f_X10_say, if_neg c_1, if_neg c_2, g_X10_say, if_neg c_1, if_neg c_2] at hQ; exact hQ)
    · refine wp_seg (pc' := 28) [.iconst (-4)] (by decide +kernel) (?_ : Wp E (d + 1) 98 28 [.ref 74, .int x1] [.int (Int32.ofInt (-4))] M L Q)
      exact wp_iret (by decide +kernel) rfl (by rw [f_X10_say, if_neg c_1, if_pos c_2, g_X10_say, if_neg c_1, if_pos c_2] at hQ; exact hQ)
  · refine wp_seg (pc' := 16) [.iconst (-2)] (by decide +kernel) (?_ : Wp E (d + 1) 98 16 [.ref 74, .int x1] [.int (Int32.ofInt (-2))] M L Q)
    exact wp_iret (by decide +kernel) rfl (by rw [f_X10_say, if_pos c_1, g_X10_say, if_pos c_1] at hQ; exact hQ)

def f_X10_tube (M : Mem) (x1 : Int32) (x2 : Int32) : Int32 := (if (f_X10_in M x1.toInt64 (Int64.ofNat 0) (((M 74 4) - (Int32.ofInt 1)).toInt64)) = 0 then Int32.ofInt (-1) else (if x2 = 0 then M 75 x1.toNatClampNeg else (if x2 = (Int32.ofInt 1) then M 76 x1.toNatClampNeg else (if x2 = (Int32.ofInt 2) then M 77 x1.toNatClampNeg else (if x2 = (Int32.ofInt 3) then M 78 x1.toNatClampNeg else Int32.ofInt (-2))))))
theorem s_X10_tube {E : VE} {d : Nat} {Q : QQ} {L : LMem} (M : Mem) (x1 : Int32) (x2 : Int32) (o_1 : ¬ ((f_X10_in M x1.toInt64 (Int64.ofNat 0) (((M 74 4) - (Int32.ofInt 1)).toInt64)) = 0) → ¬ (x2 = 0) → ¬ (x2 = (Int32.ofInt 1)) → ¬ (x2 = (Int32.ofInt 2)) → x2 = (Int32.ofInt 3) → vp_in x1 13) (o_2 : ¬ ((f_X10_in M x1.toInt64 (Int64.ofNat 0) (((M 74 4) - (Int32.ofInt 1)).toInt64)) = 0) → ¬ (x2 = 0) → ¬ (x2 = (Int32.ofInt 1)) → x2 = (Int32.ofInt 2) → vp_in x1 13) (o_3 : ¬ ((f_X10_in M x1.toInt64 (Int64.ofNat 0) (((M 74 4) - (Int32.ofInt 1)).toInt64)) = 0) → ¬ (x2 = 0) → x2 = (Int32.ofInt 1) → vp_in x1 13) (o_4 : ¬ ((f_X10_in M x1.toInt64 (Int64.ofNat 0) (((M 74 4) - (Int32.ofInt 1)).toInt64)) = 0) → x2 = 0 → vp_in x1 13) (hQ : Q (some (.int (f_X10_tube M x1 x2))) M L) : Wp E (d + 1) 107 0 [.ref 74, .int x1, .int x2] [] M L Q := by
  refine wp_seg (pc' := 10) [.iload 1, .i2l, .ldc2_w 0, .aload 0, .getfield 644, .iconst 1, .isub, .i2l] (by decide +kernel) (?_ : Wp E (d + 1) 107 10 [.ref 74, .int x1, .int x2] [.long (((M 74 4) - (Int32.ofInt 1)).toInt64), .long (Int64.ofNat 0), .long x1.toInt64] M L Q)
  refine wp_callS 94 [.long x1.toInt64, .long (Int64.ofNat 0), .long (((M 74 4) - (Int32.ofInt 1)).toInt64)] (i := 129) (by decide +kernel) (by decide +kernel) (by decide +kernel) rfl rfl rfl (rest := []) rfl rfl ?_
  refine s_X10_in M x1.toInt64 (Int64.ofNat 0) (((M 74 4) - (Int32.ofInt 1)).toInt64)  ?_
  show Wp E (d + 1) 107 13 [.ref 74, .int x1, .int x2] [.int (f_X10_in M x1.toInt64 (Int64.ofNat 0) (((M 74 4) - (Int32.ofInt 1)).toInt64))] M L Q
  refine wp_ifne (off := 5) 18 (by decide +kernel) (by decide) (fun c_1 => ?_) (fun c_1 => ?_)
  · refine wp_seg (pc' := 19) [.iload 2] (by decide +kernel) (?_ : Wp E (d + 1) 107 19 [.ref 74, .int x1, .int x2] [.int x2] M L Q)
    refine wp_ifne (off := 12) 31 (by decide +kernel) (by decide) (fun c_2 => ?_) (fun c_2 => ?_)
    · refine wp_seg (pc' := 33) [.iload 2, .iconst 1] (by decide +kernel) (?_ : Wp E (d + 1) 107 33 [.ref 74, .int x1, .int x2] [.int (Int32.ofInt 1), .int x2] M L Q)
      refine wp_icmpne (off := 12) 45 (by decide +kernel) (by decide) (fun c_3 => ?_) (fun c_3 => ?_)
      · refine wp_seg (pc' := 47) [.iload 2, .iconst 2] (by decide +kernel) (?_ : Wp E (d + 1) 107 47 [.ref 74, .int x1, .int x2] [.int (Int32.ofInt 2), .int x2] M L Q)
        refine wp_icmpne (off := 12) 59 (by decide +kernel) (by decide) (fun c_4 => ?_) (fun c_4 => ?_)
        · refine wp_seg (pc' := 61) [.iload 2, .iconst 3] (by decide +kernel) (?_ : Wp E (d + 1) 107 61 [.ref 74, .int x1, .int x2] [.int (Int32.ofInt 3), .int x2] M L Q)
          refine wp_icmpne (off := 12) 73 (by decide +kernel) (by decide) (fun c_5 => ?_) (fun c_5 => ?_)
          · refine wp_seg (pc' := 75) [.iconst (-2)] (by decide +kernel) (?_ : Wp E (d + 1) 107 75 [.ref 74, .int x1, .int x2] [.int (Int32.ofInt (-2))] M L Q)
            exact wp_iret (by decide +kernel) rfl (by rw [f_X10_tube, if_neg c_1, if_neg c_2, if_neg c_3, if_neg c_4, if_neg c_5] at hQ; exact hQ)
          · refine wp_seg (pc' := 70) [.aload 0, .getfield 643, .iload 1, .iaload] (by decide +kernel) (show aok 78 0 x1 ∧ Wp E (d + 1) 107 70 [.ref 74, .int x1, .int x2] [.int (M 78 x1.toNatClampNeg)] M L Q from ⟨⟨rfl, (o_1 c_1 c_2 c_3 c_4 c_5)⟩, ?_⟩)
            refine wp_seg (pc' := 75) [.goto 0] (by decide +kernel) (?_ : Wp E (d + 1) 107 75 [.ref 74, .int x1, .int x2] [.int (M 78 x1.toNatClampNeg)] M L Q)
            exact wp_iret (by decide +kernel) rfl (by rw [f_X10_tube, if_neg c_1, if_neg c_2, if_neg c_3, if_neg c_4, if_pos c_5] at hQ; exact hQ)
        · refine wp_seg (pc' := 56) [.aload 0, .getfield 642, .iload 1, .iaload] (by decide +kernel) (show aok 77 0 x1 ∧ Wp E (d + 1) 107 56 [.ref 74, .int x1, .int x2] [.int (M 77 x1.toNatClampNeg)] M L Q from ⟨⟨rfl, (o_2 c_1 c_2 c_3 c_4)⟩, ?_⟩)
          refine wp_seg (pc' := 75) [.goto 0] (by decide +kernel) (?_ : Wp E (d + 1) 107 75 [.ref 74, .int x1, .int x2] [.int (M 77 x1.toNatClampNeg)] M L Q)
          exact wp_iret (by decide +kernel) rfl (by rw [f_X10_tube, if_neg c_1, if_neg c_2, if_neg c_3, if_pos c_4] at hQ; exact hQ)
      · refine wp_seg (pc' := 42) [.aload 0, .getfield 641, .iload 1, .iaload] (by decide +kernel) (show aok 76 0 x1 ∧ Wp E (d + 1) 107 42 [.ref 74, .int x1, .int x2] [.int (M 76 x1.toNatClampNeg)] M L Q from ⟨⟨rfl, (o_3 c_1 c_2 c_3)⟩, ?_⟩)
        refine wp_seg (pc' := 75) [.goto 0] (by decide +kernel) (?_ : Wp E (d + 1) 107 75 [.ref 74, .int x1, .int x2] [.int (M 76 x1.toNatClampNeg)] M L Q)
        exact wp_iret (by decide +kernel) rfl (by rw [f_X10_tube, if_neg c_1, if_neg c_2, if_pos c_3] at hQ; exact hQ)
    · refine wp_seg (pc' := 28) [.aload 0, .getfield 640, .iload 1, .iaload] (by decide +kernel) (show aok 75 0 x1 ∧ Wp E (d + 1) 107 28 [.ref 74, .int x1, .int x2] [.int (M 75 x1.toNatClampNeg)] M L Q from ⟨⟨rfl, (o_4 c_1 c_2)⟩, ?_⟩)
      refine wp_seg (pc' := 75) [.goto 0] (by decide +kernel) (?_ : Wp E (d + 1) 107 75 [.ref 74, .int x1, .int x2] [.int (M 75 x1.toNatClampNeg)] M L Q)
      exact wp_iret (by decide +kernel) rfl (by rw [f_X10_tube, if_neg c_1, if_pos c_2] at hQ; exact hQ)
  · refine wp_seg (pc' := 17) [.iconst (-1)] (by decide +kernel) (?_ : Wp E (d + 1) 107 17 [.ref 74, .int x1, .int x2] [.int (Int32.ofInt (-1))] M L Q)
    exact wp_iret (by decide +kernel) rfl (by rw [f_X10_tube, if_pos c_1] at hQ; exact hQ)

def f_X10_set (M : Mem) (x1 : Int32) (x2 : Int32) : Int32 := (if (f_X10_in M x1.toInt64 (Int64.ofNat 0) (Int64.ofNat 1)) = 0 then Int32.ofInt (-2) else (if x1 = 0 then (if (f_X10_in M x2.toInt64 (Int64.ofNat 1) (Int64.ofNat 60)) = 0 then Int32.ofInt (-2) else (if x1 = (Int32.ofInt 1) then M 74 5 else M 74 5)) else (if (f_X10_in M x2.toInt64 (Int64.ofNat 0) (Int64.ofNat 255)) = 0 then Int32.ofInt (-2) else (if x1 = (Int32.ofInt 1) then M 74 6 else M 74 6))))
def g_X10_set (M : Mem) (x1 : Int32) (x2 : Int32) : Mem := (if (f_X10_in M x1.toInt64 (Int64.ofNat 0) (Int64.ofNat 1)) = 0 then M else (if x1 = 0 then (if (f_X10_in M x2.toInt64 (Int64.ofNat 1) (Int64.ofNat 60)) = 0 then M else (if x1 = (Int32.ofInt 1) then (mput (mput M 74 5 x2) 74 6 x2) else (mput (mput M 74 5 x2) 74 6 (M 74 6)))) else (if (f_X10_in M x2.toInt64 (Int64.ofNat 0) (Int64.ofNat 255)) = 0 then M else (if x1 = (Int32.ofInt 1) then (mput (mput M 74 5 (M 74 5)) 74 6 x2) else (mput (mput M 74 5 (M 74 5)) 74 6 (M 74 6))))))
theorem s_X10_set {E : VE} {d : Nat} {Q : QQ} {L : LMem} (M : Mem) (x1 : Int32) (x2 : Int32) (hQ : Q (some (.int (f_X10_set M x1 x2))) (g_X10_set M x1 x2) L) : Wp E (d + 1) 108 0 [.ref 74, .int x1, .int x2, .null] [] M L Q := by
  refine wp_seg (pc' := 4) [.iload 1, .i2l, .ldc2_w 0, .ldc2_w 1] (by decide +kernel) (?_ : Wp E (d + 1) 108 4 [.ref 74, .int x1, .int x2, .null] [.long (Int64.ofNat 1), .long (Int64.ofNat 0), .long x1.toInt64] M L Q)
  refine wp_callS 94 [.long x1.toInt64, .long (Int64.ofNat 0), .long (Int64.ofNat 1)] (i := 129) (by decide +kernel) (by decide +kernel) (by decide +kernel) rfl rfl rfl (rest := []) rfl rfl ?_
  refine s_X10_in M x1.toInt64 (Int64.ofNat 0) (Int64.ofNat 1)  ?_
  show Wp E (d + 1) 108 7 [.ref 74, .int x1, .int x2, .null] [.int (f_X10_in M x1.toInt64 (Int64.ofNat 0) (Int64.ofNat 1))] M L Q
  refine wp_ifeq (off := 33) 40 (by decide +kernel) (by decide) (fun c_1 => ?_) (fun c_1 => ?_)
  · refine wp_seg (pc' := 42) [.iconst (-2)] (by decide +kernel) (?_ : Wp E (d + 1) 108 42 [.ref 74, .int x1, .int x2, .null] [.int (Int32.ofInt (-2))] M L Q)
    exact wp_iret (by decide +kernel) rfl (by rw [f_X10_set, if_pos c_1, g_X10_set, if_pos c_1] at hQ; exact hQ)
  · refine wp_seg (pc' := 13) [.iload 2, .i2l, .iload 1] (by decide +kernel) (?_ : Wp E (d + 1) 108 13 [.ref 74, .int x1, .int x2, .null] [.int x1, .long x2.toInt64] M L Q)
    refine wp_ifne (off := 7) 20 (by decide +kernel) (by decide) (fun c_2 => ?_) (fun c_2 => ?_)
    · refine wp_seg (pc' := 22) [.ldc2_w 0, .iload 1] (by decide +kernel) (?_ : Wp E (d + 1) 108 22 [.ref 74, .int x1, .int x2, .null] [.int x1, .long (Int64.ofNat 0), .long x2.toInt64] M L Q)
      refine wp_ifne (off := 9) 31 (by decide +kernel) (by decide) (fun c_3 => ?_) (fun c_3 => ?_)
      · refine wp_seg (pc' := 34) [.ldc2_w 255] (by decide +kernel) (?_ : Wp E (d + 1) 108 34 [.ref 74, .int x1, .int x2, .null] [.long (Int64.ofNat 255), .long (Int64.ofNat 0), .long x2.toInt64] M L Q)
        refine wp_callS 94 [.long x2.toInt64, .long (Int64.ofNat 0), .long (Int64.ofNat 255)] (i := 129) (by decide +kernel) (by decide +kernel) (by decide +kernel) rfl rfl rfl (rest := []) rfl rfl ?_
        refine s_X10_in M x2.toInt64 (Int64.ofNat 0) (Int64.ofNat 255)  ?_
        show Wp E (d + 1) 108 37 [.ref 74, .int x1, .int x2, .null] [.int (f_X10_in M x2.toInt64 (Int64.ofNat 0) (Int64.ofNat 255))] M L Q
        refine wp_ifne (off := 6) 43 (by decide +kernel) (by decide) (fun c_4 => ?_) (fun c_4 => ?_)
        · refine wp_seg (pc' := 44) [.iload 1] (by decide +kernel) (?_ : Wp E (d + 1) 108 44 [.ref 74, .int x1, .int x2, .null] [.int x1] M L Q)
          refine wp_ifne (off := 10) 54 (by decide +kernel) (by decide) (fun c_5 => ?_) (fun c_5 => ?_)
          · refine wp_seg (pc' := 61) [.aload 0, .getfield 646, .istore 3, .aload 0, .iload 1] (by decide +kernel) (?_ : Wp E (d + 1) 108 61 [.ref 74, .int x1, .int x2, .int (M 74 6)] [.int x1, .ref 74] M L Q)
            refine wp_ifne (off := 7) 68 (by decide +kernel) (by decide) (fun c_6 => ?_) (fun c_6 => ?_)
            · refine wp_seg (pc' := 78) [.aload 0, .getfield 645, .putfield 645, .aload 0, .iload 1, .iconst 1] (by decide +kernel) (?_ : Wp E (d + 1) 108 78 [.ref 74, .int x1, .int x2, .int (M 74 6)] [.int (Int32.ofInt 1), .int x1, .ref 74] (mput M 74 5 (M 74 5)) L Q)
              refine wp_icmpne (off := 7) 85 (by decide +kernel) (by decide) (fun c_7 => ?_) (fun c_7 => ?_)
              · refine wp_seg (pc' := 93) [.aload 0, .getfield 646, .putfield 646, .iload 3] (by decide +kernel) (?_ : Wp E (d + 1) 108 93 [.ref 74, .int x1, .int x2, .int (M 74 6)] [.int (M 74 6)] (mput (mput M 74 5 (M 74 5)) 74 6 (M 74 6)) L Q)
                exact wp_iret (by decide +kernel) rfl (by rw [f_X10_set, if_neg c_1, if_neg c_2, if_neg c_4, if_neg c_7, g_X10_set, if_neg c_1, if_neg c_2, if_neg c_4, if_neg c_7] at hQ; exact hQ)
              · refine wp_seg (pc' := 93) [.iload 2, .goto 0, .putfield 646, .iload 3] (by decide +kernel) (?_ : Wp E (d + 1) 108 93 [.ref 74, .int x1, .int x2, .int (M 74 6)] [.int (M 74 6)] (mput (mput M 74 5 (M 74 5)) 74 6 x2) L Q)
                exact wp_iret (by decide +kernel) rfl (by rw [f_X10_set, if_neg c_1, if_neg c_2, if_neg c_4, if_pos c_7, g_X10_set, if_neg c_1, if_neg c_2, if_neg c_4, if_pos c_7] at hQ; exact hQ)
            · exact absurd c_6 c_2
          · exact absurd c_5 c_2
        · refine wp_seg (pc' := 42) [.iconst (-2)] (by decide +kernel) (?_ : Wp E (d + 1) 108 42 [.ref 74, .int x1, .int x2, .null] [.int (Int32.ofInt (-2))] M L Q)
          exact wp_iret (by decide +kernel) rfl (by rw [f_X10_set, if_neg c_1, if_neg c_2, if_pos c_4, g_X10_set, if_neg c_1, if_neg c_2, if_pos c_4] at hQ; exact hQ)
      · exact absurd c_3 c_2
    · refine wp_seg (pc' := 22) [.ldc2_w 1, .goto 0, .iload 1] (by decide +kernel) (?_ : Wp E (d + 1) 108 22 [.ref 74, .int x1, .int x2, .null] [.int x1, .long (Int64.ofNat 1), .long x2.toInt64] M L Q)
      refine wp_ifne (off := 9) 31 (by decide +kernel) (by decide) (fun c_8 => ?_) (fun c_8 => ?_)
      · exact absurd c_2 c_8
      · refine wp_seg (pc' := 34) [.ldc2_w 60, .goto 0] (by decide +kernel) (?_ : Wp E (d + 1) 108 34 [.ref 74, .int x1, .int x2, .null] [.long (Int64.ofNat 60), .long (Int64.ofNat 1), .long x2.toInt64] M L Q)
        refine wp_callS 94 [.long x2.toInt64, .long (Int64.ofNat 1), .long (Int64.ofNat 60)] (i := 129) (by decide +kernel) (by decide +kernel) (by decide +kernel) rfl rfl rfl (rest := []) rfl rfl ?_
        refine s_X10_in M x2.toInt64 (Int64.ofNat 1) (Int64.ofNat 60)  ?_
        show Wp E (d + 1) 108 37 [.ref 74, .int x1, .int x2, .null] [.int (f_X10_in M x2.toInt64 (Int64.ofNat 1) (Int64.ofNat 60))] M L Q
        refine wp_ifne (off := 6) 43 (by decide +kernel) (by decide) (fun c_9 => ?_) (fun c_9 => ?_)
        · refine wp_seg (pc' := 44) [.iload 1] (by decide +kernel) (?_ : Wp E (d + 1) 108 44 [.ref 74, .int x1, .int x2, .null] [.int x1] M L Q)
          refine wp_ifne (off := 10) 54 (by decide +kernel) (by decide) (fun c_10 => ?_) (fun c_10 => ?_)
          · exact absurd c_2 c_10
          · refine wp_seg (pc' := 61) [.aload 0, .getfield 645, .goto 0, .istore 3, .aload 0, .iload 1] (by decide +kernel) (?_ : Wp E (d + 1) 108 61 [.ref 74, .int x1, .int x2, .int (M 74 5)] [.int x1, .ref 74] M L Q)
            refine wp_ifne (off := 7) 68 (by decide +kernel) (by decide) (fun c_11 => ?_) (fun c_11 => ?_)
            · exact absurd c_2 c_11
            · refine wp_seg (pc' := 78) [.iload 2, .goto 0, .putfield 645, .aload 0, .iload 1, .iconst 1] (by decide +kernel) (?_ : Wp E (d + 1) 108 78 [.ref 74, .int x1, .int x2, .int (M 74 5)] [.int (Int32.ofInt 1), .int x1, .ref 74] (mput M 74 5 x2) L Q)
              refine wp_icmpne (off := 7) 85 (by decide +kernel) (by decide) (fun c_12 => ?_) (fun c_12 => ?_)
              · refine wp_seg (pc' := 93) [.aload 0, .getfield 646, .putfield 646, .iload 3] (by decide +kernel) (?_ : Wp E (d + 1) 108 93 [.ref 74, .int x1, .int x2, .int (M 74 5)] [.int (M 74 5)] (mput (mput M 74 5 x2) 74 6 (M 74 6)) L Q)
                exact wp_iret (by decide +kernel) rfl (by rw [f_X10_set, if_neg c_1, if_pos c_2, if_neg c_9, if_neg c_12, g_X10_set, if_neg c_1, if_pos c_2, if_neg c_9, if_neg c_12] at hQ; exact hQ)
              · refine wp_seg (pc' := 93) [.iload 2, .goto 0, .putfield 646, .iload 3] (by decide +kernel) (?_ : Wp E (d + 1) 108 93 [.ref 74, .int x1, .int x2, .int (M 74 5)] [.int (M 74 5)] (mput (mput M 74 5 x2) 74 6 x2) L Q)
                exact wp_iret (by decide +kernel) rfl (by rw [f_X10_set, if_neg c_1, if_pos c_2, if_neg c_9, if_pos c_12, g_X10_set, if_neg c_1, if_pos c_2, if_neg c_9, if_pos c_12] at hQ; exact hQ)
        · refine wp_seg (pc' := 42) [.iconst (-2)] (by decide +kernel) (?_ : Wp E (d + 1) 108 42 [.ref 74, .int x1, .int x2, .null] [.int (Int32.ofInt (-2))] M L Q)
          exact wp_iret (by decide +kernel) rfl (by rw [f_X10_set, if_neg c_1, if_pos c_2, if_pos c_9, g_X10_set, if_neg c_1, if_pos c_2, if_pos c_9] at hQ; exact hQ)

def f_X10_know (M : Mem) (x1 : Int32) (x2 : Int32) : Int32 := (if (f_X10_isRoom M x1) = 0 then Int32.ofInt (-1) else (if (f_X10_in M x2.toInt64 (Int64.ofNat 0) (Int64.ofNat 255)) = 0 then Int32.ofInt (-2) else M 79 x1.toNatClampNeg))
def g_X10_know (M : Mem) (x1 : Int32) (x2 : Int32) : Mem := (if (f_X10_isRoom M x1) = 0 then M else (if (f_X10_in M x2.toInt64 (Int64.ofNat 0) (Int64.ofNat 255)) = 0 then M else (mput M 79 x1.toNatClampNeg x2)))
theorem s_X10_know {E : VE} {d : Nat} {Q : QQ} {L : LMem} (M : Mem) (x1 : Int32) (x2 : Int32) (o_1 : ¬ ((f_X10_isRoom M x1) = 0) → ¬ ((f_X10_in M x2.toInt64 (Int64.ofNat 0) (Int64.ofNat 255)) = 0) → vp_in x1 8) (hQ : Q (some (.int (f_X10_know M x1 x2))) (g_X10_know M x1 x2) L) : Wp E (d + 2) 128 0 [.ref 74, .int x1, .int x2, .null] [] M L Q := by
  refine wp_seg (pc' := 1) [.iload 1] (by decide +kernel) (?_ : Wp E (d + 2) 128 1 [.ref 74, .int x1, .int x2, .null] [.int x1] M L Q)
  refine wp_callS 95 [.int x1] (i := 133) (by decide +kernel) (by decide +kernel) (by decide +kernel) rfl rfl rfl (rest := []) rfl rfl ?_
  refine s_X10_isRoom M x1  ?_
  show Wp E (d + 2) 128 4 [.ref 74, .int x1, .int x2, .null] [.int (f_X10_isRoom M x1)] M L Q
  refine wp_ifne (off := 5) 9 (by decide +kernel) (by decide) (fun c_1 => ?_) (fun c_1 => ?_)
  · refine wp_seg (pc' := 15) [.iload 2, .i2l, .ldc2_w 0, .ldc2_w 255] (by decide +kernel) (?_ : Wp E (d + 2) 128 15 [.ref 74, .int x1, .int x2, .null] [.long (Int64.ofNat 255), .long (Int64.ofNat 0), .long x2.toInt64] M L Q)
    refine wp_callS 94 [.long x2.toInt64, .long (Int64.ofNat 0), .long (Int64.ofNat 255)] (i := 129) (by decide +kernel) (by decide +kernel) (by decide +kernel) rfl rfl rfl (rest := []) rfl rfl ?_
    refine s_X10_in M x2.toInt64 (Int64.ofNat 0) (Int64.ofNat 255)  ?_
    show Wp E (d + 2) 128 18 [.ref 74, .int x1, .int x2, .null] [.int (f_X10_in M x2.toInt64 (Int64.ofNat 0) (Int64.ofNat 255))] M L Q
    refine wp_ifne (off := 6) 24 (by decide +kernel) (by decide) (fun c_2 => ?_) (fun c_2 => ?_)
    · refine wp_seg (pc' := 30) [.aload 0, .getfield 647, .iload 1, .iaload] (by decide +kernel) (show aok 79 0 x1 ∧ Wp E (d + 2) 128 30 [.ref 74, .int x1, .int x2, .null] [.int (M 79 x1.toNatClampNeg)] M L Q from ⟨⟨rfl, (o_1 c_1 c_2)⟩, ?_⟩)
      refine wp_seg (pc' := 38) [.istore 3, .aload 0, .getfield 647, .iload 1, .iload 2, .iastore] (by decide +kernel) (show aok 79 0 x1 ∧ Wp E (d + 2) 128 38 [.ref 74, .int x1, .int x2, .int (M 79 x1.toNatClampNeg)] [] (mput M 79 x1.toNatClampNeg x2) L Q from ⟨⟨rfl, (o_1 c_1 c_2)⟩, ?_⟩)
      refine wp_seg (pc' := 39) [.iload 3] (by decide +kernel) (?_ : Wp E (d + 2) 128 39 [.ref 74, .int x1, .int x2, .int (M 79 x1.toNatClampNeg)] [.int (M 79 x1.toNatClampNeg)] (mput M 79 x1.toNatClampNeg x2) L Q)
      exact wp_iret (by decide +kernel) rfl (by rw [f_X10_know, if_neg c_1, if_neg c_2, g_X10_know, if_neg c_1, if_neg c_2] at hQ; exact hQ)
    · refine wp_seg (pc' := 23) [.iconst (-2)] (by decide +kernel) (?_ : Wp E (d + 2) 128 23 [.ref 74, .int x1, .int x2, .null] [.int (Int32.ofInt (-2))] M L Q)
      exact wp_iret (by decide +kernel) rfl (by rw [f_X10_know, if_neg c_1, if_pos c_2, g_X10_know, if_neg c_1, if_pos c_2] at hQ; exact hQ)
  · refine wp_seg (pc' := 8) [.iconst (-1)] (by decide +kernel) (?_ : Wp E (d + 2) 128 8 [.ref 74, .int x1, .int x2, .null] [.int (Int32.ofInt (-1))] M L Q)
    exact wp_iret (by decide +kernel) rfl (by rw [f_X10_know, if_pos c_1, g_X10_know, if_pos c_1] at hQ; exact hQ)

def f_X10_call (M : Mem) (x1 : Int32) (x2 : Int32) (x3 : Int32) (x4 : Int32) : Int32 := (if (f_X10_areTwo M x1 x2) = 0 then Int32.ofInt (-1) else (if (f_X10_in M x3.toInt64 (Int64.ofNat 1) (Int64.ofNat 9)) = 0 then Int32.ofInt (-2) else (if (f_X10_in M x4.toInt64 (Int64.ofNat 1) (Int64.ofNat 60)) = 0 then Int32.ofInt (-2) else (if (M 74 12) = (Int32.ofInt 5) then Int32.ofInt (-4) else ((M 74 12) + (Int32.ofInt 1)) - (Int32.ofInt 1)))))
def g_X10_call (M : Mem) (x1 : Int32) (x2 : Int32) (x3 : Int32) (x4 : Int32) : Mem := (if (f_X10_areTwo M x1 x2) = 0 then M else (if (f_X10_in M x3.toInt64 (Int64.ofNat 1) (Int64.ofNat 9)) = 0 then M else (if (f_X10_in M x4.toInt64 (Int64.ofNat 1) (Int64.ofNat 60)) = 0 then M else (if (M 74 12) = (Int32.ofInt 5) then M else (mput (mput (mput (mput (mput M 80 ((M 74 12).toNatClampNeg) x1) 81 ((M 74 12).toNatClampNeg) x2) 82 ((M 74 12).toNatClampNeg) x3) 83 ((M 74 12).toNatClampNeg) x4) 74 12 ((M 74 12) + (Int32.ofInt 1)))))))
theorem s_X10_call {E : VE} {d : Nat} {Q : QQ} {L : LMem} (M : Mem) (x1 : Int32) (x2 : Int32) (x3 : Int32) (x4 : Int32) (o_1 : ¬ ((f_X10_areTwo M x1 x2) = 0) → ¬ ((f_X10_in M x3.toInt64 (Int64.ofNat 1) (Int64.ofNat 9)) = 0) → ¬ ((f_X10_in M x4.toInt64 (Int64.ofNat 1) (Int64.ofNat 60)) = 0) → ¬ ((M 74 12) = (Int32.ofInt 5)) → vp_in (M 74 12) 5) (hQ : Q (some (.int (f_X10_call M x1 x2 x3 x4))) (g_X10_call M x1 x2 x3 x4) L) : Wp E (d + 3) 130 0 [.ref 74, .int x1, .int x2, .int x3, .int x4] [] M L Q := by
  refine wp_seg (pc' := 2) [.iload 1, .iload 2] (by decide +kernel) (?_ : Wp E (d + 3) 130 2 [.ref 74, .int x1, .int x2, .int x3, .int x4] [.int x2, .int x1] M L Q)
  refine wp_callS 96 [.int x1, .int x2] (i := 198) (by decide +kernel) (by decide +kernel) (by decide +kernel) rfl rfl rfl (rest := []) rfl rfl ?_
  refine s_X10_areTwo M x1 x2  ?_
  show Wp E (d + 3) 130 5 [.ref 74, .int x1, .int x2, .int x3, .int x4] [.int (f_X10_areTwo M x1 x2)] M L Q
  refine wp_ifne (off := 5) 10 (by decide +kernel) (by decide) (fun c_1 => ?_) (fun c_1 => ?_)
  · refine wp_seg (pc' := 16) [.iload 3, .i2l, .ldc2_w 1, .ldc2_w 9] (by decide +kernel) (?_ : Wp E (d + 3) 130 16 [.ref 74, .int x1, .int x2, .int x3, .int x4] [.long (Int64.ofNat 9), .long (Int64.ofNat 1), .long x3.toInt64] M L Q)
    refine wp_callS 94 [.long x3.toInt64, .long (Int64.ofNat 1), .long (Int64.ofNat 9)] (i := 129) (by decide +kernel) (by decide +kernel) (by decide +kernel) rfl rfl rfl (rest := []) rfl rfl ?_
    refine s_X10_in M x3.toInt64 (Int64.ofNat 1) (Int64.ofNat 9)  ?_
    show Wp E (d + 3) 130 19 [.ref 74, .int x1, .int x2, .int x3, .int x4] [.int (f_X10_in M x3.toInt64 (Int64.ofNat 1) (Int64.ofNat 9))] M L Q
    refine wp_ifeq (off := 16) 35 (by decide +kernel) (by decide) (fun c_2 => ?_) (fun c_2 => ?_)
    · refine wp_seg (pc' := 37) [.iconst (-2)] (by decide +kernel) (?_ : Wp E (d + 3) 130 37 [.ref 74, .int x1, .int x2, .int x3, .int x4] [.int (Int32.ofInt (-2))] M L Q)
      exact wp_iret (by decide +kernel) rfl (by rw [f_X10_call, if_neg c_1, if_pos c_2, g_X10_call, if_neg c_1, if_pos c_2] at hQ; exact hQ)
    · refine wp_seg (pc' := 29) [.iload 4, .i2l, .ldc2_w 1, .ldc2_w 60] (by decide +kernel) (?_ : Wp E (d + 3) 130 29 [.ref 74, .int x1, .int x2, .int x3, .int x4] [.long (Int64.ofNat 60), .long (Int64.ofNat 1), .long x4.toInt64] M L Q)
      refine wp_callS 94 [.long x4.toInt64, .long (Int64.ofNat 1), .long (Int64.ofNat 60)] (i := 129) (by decide +kernel) (by decide +kernel) (by decide +kernel) rfl rfl rfl (rest := []) rfl rfl ?_
      refine s_X10_in M x4.toInt64 (Int64.ofNat 1) (Int64.ofNat 60)  ?_
      show Wp E (d + 3) 130 32 [.ref 74, .int x1, .int x2, .int x3, .int x4] [.int (f_X10_in M x4.toInt64 (Int64.ofNat 1) (Int64.ofNat 60))] M L Q
      refine wp_ifne (off := 6) 38 (by decide +kernel) (by decide) (fun c_3 => ?_) (fun c_3 => ?_)
      · refine wp_seg (pc' := 43) [.aload 0, .getfield 652, .iconst 5] (by decide +kernel) (?_ : Wp E (d + 3) 130 43 [.ref 74, .int x1, .int x2, .int x3, .int x4] [.int (Int32.ofInt 5), .int (M 74 12)] M L Q)
        refine wp_icmpne (off := 6) 49 (by decide +kernel) (by decide) (fun c_4 => ?_) (fun c_4 => ?_)
        · refine wp_seg (pc' := 59) [.aload 0, .getfield 648, .aload 0, .getfield 652, .iload 1, .iastore] (by decide +kernel) (show aok 80 0 (M 74 12) ∧ Wp E (d + 3) 130 59 [.ref 74, .int x1, .int x2, .int x3, .int x4] [] (mput M 80 ((M 74 12).toNatClampNeg) x1) L Q from ⟨⟨rfl, (o_1 c_1 c_2 c_3 c_4)⟩, ?_⟩)
          refine wp_seg (pc' := 69) [.aload 0, .getfield 649, .aload 0, .getfield 652, .iload 2, .iastore] (by decide +kernel) (show aok 81 0 (M 74 12) ∧ Wp E (d + 3) 130 69 [.ref 74, .int x1, .int x2, .int x3, .int x4] [] (mput (mput M 80 ((M 74 12).toNatClampNeg) x1) 81 ((M 74 12).toNatClampNeg) x2) L Q from ⟨⟨rfl, (o_1 c_1 c_2 c_3 c_4)⟩, ?_⟩)
          refine wp_seg (pc' := 79) [.aload 0, .getfield 650, .aload 0, .getfield 652, .iload 3, .iastore] (by decide +kernel) (show aok 82 0 (M 74 12) ∧ Wp E (d + 3) 130 79 [.ref 74, .int x1, .int x2, .int x3, .int x4] [] (mput (mput (mput M 80 ((M 74 12).toNatClampNeg) x1) 81 ((M 74 12).toNatClampNeg) x2) 82 ((M 74 12).toNatClampNeg) x3) L Q from ⟨⟨rfl, (o_1 c_1 c_2 c_3 c_4)⟩, ?_⟩)
          refine wp_seg (pc' := 90) [.aload 0, .getfield 651, .aload 0, .getfield 652, .iload 4, .iastore] (by decide +kernel) (show aok 83 0 (M 74 12) ∧ Wp E (d + 3) 130 90 [.ref 74, .int x1, .int x2, .int x3, .int x4] [] (mput (mput (mput (mput M 80 ((M 74 12).toNatClampNeg) x1) 81 ((M 74 12).toNatClampNeg) x2) 82 ((M 74 12).toNatClampNeg) x3) 83 ((M 74 12).toNatClampNeg) x4) L Q from ⟨⟨rfl, (o_1 c_1 c_2 c_3 c_4)⟩, ?_⟩)
          refine wp_seg (pc' := 106) [.aload 0, .dup, .getfield 652, .iconst 1, .iadd, .putfield 652, .aload 0, .getfield 652, .iconst 1, .isub] (by decide +kernel) (?_ : Wp E (d + 3) 130 106 [.ref 74, .int x1, .int x2, .int x3, .int x4] [.int (((M 74 12) + (Int32.ofInt 1)) - (Int32.ofInt 1))] (mput (mput (mput (mput (mput M 80 ((M 74 12).toNatClampNeg) x1) 81 ((M 74 12).toNatClampNeg) x2) 82 ((M 74 12).toNatClampNeg) x3) 83 ((M 74 12).toNatClampNeg) x4) 74 12 ((M 74 12) + (Int32.ofInt 1))) L Q)
          exact wp_iret (by decide +kernel) rfl (by rw [f_X10_call, if_neg c_1, if_neg c_2, if_neg c_3, if_neg c_4, g_X10_call, if_neg c_1, if_neg c_2, if_neg c_3, if_neg c_4] at hQ; exact hQ)
        · refine wp_seg (pc' := 48) [.iconst (-4)] (by decide +kernel) (?_ : Wp E (d + 3) 130 48 [.ref 74, .int x1, .int x2, .int x3, .int x4] [.int (Int32.ofInt (-4))] M L Q)
          exact wp_iret (by decide +kernel) rfl (by rw [f_X10_call, if_neg c_1, if_neg c_2, if_neg c_3, if_pos c_4, g_X10_call, if_neg c_1, if_neg c_2, if_neg c_3, if_pos c_4] at hQ; exact hQ)
      · refine wp_seg (pc' := 37) [.iconst (-2)] (by decide +kernel) (?_ : Wp E (d + 3) 130 37 [.ref 74, .int x1, .int x2, .int x3, .int x4] [.int (Int32.ofInt (-2))] M L Q)
        exact wp_iret (by decide +kernel) rfl (by rw [f_X10_call, if_neg c_1, if_neg c_2, if_pos c_3, g_X10_call, if_neg c_1, if_neg c_2, if_pos c_3] at hQ; exact hQ)
  · refine wp_seg (pc' := 9) [.iconst (-1)] (by decide +kernel) (?_ : Wp E (d + 3) 130 9 [.ref 74, .int x1, .int x2, .int x3, .int x4] [.int (Int32.ofInt (-1))] M L Q)
    exact wp_iret (by decide +kernel) rfl (by rw [f_X10_call, if_pos c_1, g_X10_call, if_pos c_1] at hQ; exact hQ)

def f_X9_say (M : Mem) (x1 : Int32) : Int32 := (if x1 < (Int32.ofInt 33) then Int32.ofInt (-2) else (if x1 ≤ (Int32.ofInt 126) then (if (f_X5_add M x1) = 0 then Int32.ofInt (-4) else (g_X5_add M x1) 1 1) else Int32.ofInt (-2)))
def g_X9_say (M : Mem) (x1 : Int32) : Mem := (if x1 < (Int32.ofInt 33) then M else (if x1 ≤ (Int32.ofInt 126) then (if (f_X5_add M x1) = 0 then (g_X5_add M x1) else (g_X5_add M x1)) else M))
theorem s_X9_say {E : VE} {d : Nat} {Q : QQ} {L : LMem} (M : Mem) (x1 : Int32) (o_1 : ¬ (x1 < (Int32.ofInt 33)) → x1 ≤ (Int32.ofInt 126) → ((M 1 1) < (Int32.ofInt 60) → vp_in (M 1 1) 60)) (hQ : Q (some (.int (f_X9_say M x1))) (g_X9_say M x1) L) : Wp E (d + 1) 62 0 [.ref 0, .int x1] [] M L Q := by
  refine wp_seg (pc' := 3) [.iload 1, .iconst 33] (by decide +kernel) (?_ : Wp E (d + 1) 62 3 [.ref 0, .int x1] [.int (Int32.ofInt 33), .int x1] M L Q)
  refine wp_icmplt (off := 9) 12 (by decide +kernel) (by decide) (fun c_1 => ?_) (fun c_1 => ?_)
  · refine wp_seg (pc' := 14) [.iconst (-2)] (by decide +kernel) (?_ : Wp E (d + 1) 62 14 [.ref 0, .int x1] [.int (Int32.ofInt (-2))] M L Q)
    exact wp_iret (by decide +kernel) rfl (by rw [f_X9_say, if_pos c_1, g_X9_say, if_pos c_1] at hQ; exact hQ)
  · refine wp_seg (pc' := 9) [.iload 1, .iconst 126] (by decide +kernel) (?_ : Wp E (d + 1) 62 9 [.ref 0, .int x1] [.int (Int32.ofInt 126), .int x1] M L Q)
    refine wp_icmple (off := 6) 15 (by decide +kernel) (by decide) (fun c_2 => ?_) (fun c_2 => ?_)
    · refine wp_seg (pc' := 20) [.aload 0, .getfield 576, .iload 1] (by decide +kernel) (?_ : Wp E (d + 1) 62 20 [.ref 0, .int x1] [.int x1, .ref 1] M L Q)
      refine wp_callV 29 1 [.int x1] (i := 78) (by decide +kernel) (by decide +kernel) (by decide +kernel) (by decide +kernel) rfl rfl rfl (rest := []) rfl rfl ?_
      refine s_X5_add M x1 (o_1 c_1 c_2) ?_
      show Wp E (d + 1) 62 23 [.ref 0, .int x1] [.int (f_X5_add M x1)] (g_X5_add M x1) L Q
      refine wp_ifeq (off := 13) 36 (by decide +kernel) (by decide) (fun c_3 => ?_) (fun c_3 => ?_)
      · refine wp_seg (pc' := 38) [.iconst (-4)] (by decide +kernel) (?_ : Wp E (d + 1) 62 38 [.ref 0, .int x1] [.int (Int32.ofInt (-4))] (g_X5_add M x1) L Q)
        exact wp_iret (by decide +kernel) rfl (by rw [f_X9_say, if_neg c_1, if_pos c_2, if_pos c_3, g_X9_say, if_neg c_1, if_pos c_2, if_pos c_3] at hQ; exact hQ)
      · refine wp_seg (pc' := 38) [.aload 0, .getfield 576, .getfield 321, .goto 0] (by decide +kernel) (?_ : Wp E (d + 1) 62 38 [.ref 0, .int x1] [.int ((g_X5_add M x1) 1 1)] (g_X5_add M x1) L Q)
        exact wp_iret (by decide +kernel) rfl (by rw [f_X9_say, if_neg c_1, if_pos c_2, if_neg c_3, g_X9_say, if_neg c_1, if_pos c_2, if_neg c_3] at hQ; exact hQ)
    · refine wp_seg (pc' := 14) [.iconst (-2)] (by decide +kernel) (?_ : Wp E (d + 1) 62 14 [.ref 0, .int x1] [.int (Int32.ofInt (-2))] M L Q)
      exact wp_iret (by decide +kernel) rfl (by rw [f_X9_say, if_neg c_1, if_neg c_2, g_X9_say, if_neg c_1, if_neg c_2] at hQ; exact hQ)

def f_X9_wipe (M : Mem) : Int32 := f_X5_empty M
def g_X9_wipe (M : Mem) : Mem := (g_X5_empty M)
theorem s_X9_wipe {E : VE} {d : Nat} {Q : QQ} {L : LMem} (M : Mem) (hQ : Q (some (.int (f_X9_wipe M))) (g_X9_wipe M) L) : Wp E (d + 1) 63 0 [.ref 0] [] M L Q := by
  refine wp_seg (pc' := 4) [.aload 0, .getfield 576] (by decide +kernel) (?_ : Wp E (d + 1) 63 4 [.ref 0] [.ref 1] M L Q)
  refine wp_callV 30 1 [] (i := 86) (by decide +kernel) (by decide +kernel) (by decide +kernel) (by decide +kernel) rfl rfl rfl (rest := []) rfl rfl ?_
  refine s_X5_empty M  ?_
  show Wp E (d + 1) 63 7 [.ref 0] [.int (f_X5_empty M)] (g_X5_empty M) L Q
  exact wp_iret (by decide +kernel) rfl hQ

def f_X9_set (M : Mem) (x1 : Int32) (x2 : Int32) : Int32 := (if x1 = 0 then (if (f_X9_within M x2 (Int32.ofInt 1) (Int32.ofInt 60)) = 0 then (if x1 = (Int32.ofInt 1) then (if (f_X9_within M x2 (Int32.ofInt 0) (Int32.ofInt 255)) = 0 then Int32.ofInt (-2) else M 3 2) else Int32.ofInt (-2)) else M 3 1) else (if x1 = (Int32.ofInt 1) then (if (f_X9_within M x2 (Int32.ofInt 0) (Int32.ofInt 255)) = 0 then Int32.ofInt (-2) else M 3 2) else Int32.ofInt (-2)))
def g_X9_set (M : Mem) (x1 : Int32) (x2 : Int32) : Mem := (if x1 = 0 then (if (f_X9_within M x2 (Int32.ofInt 1) (Int32.ofInt 60)) = 0 then (if x1 = (Int32.ofInt 1) then (if (f_X9_within M x2 (Int32.ofInt 0) (Int32.ofInt 255)) = 0 then M else (mput M 3 2 x2)) else M) else (mput M 3 1 x2)) else (if x1 = (Int32.ofInt 1) then (if (f_X9_within M x2 (Int32.ofInt 0) (Int32.ofInt 255)) = 0 then M else (mput M 3 2 x2)) else M))
theorem s_X9_set {E : VE} {d : Nat} {Q : QQ} {L : LMem} (M : Mem) (x1 : Int32) (x2 : Int32) (hQ : Q (some (.int (f_X9_set M x1 x2))) (g_X9_set M x1 x2) L) : Wp E (d + 1) 67 0 [.ref 0, .int x1, .int x2, .null] [] M L Q := by
  refine wp_seg (pc' := 1) [.iload 1] (by decide +kernel) (?_ : Wp E (d + 1) 67 1 [.ref 0, .int x1, .int x2, .null] [.int x1] M L Q)
  refine wp_ifne (off := 31) 32 (by decide +kernel) (by decide) (fun c_1 => ?_) (fun c_1 => ?_)
  · refine wp_seg (pc' := 34) [.iload 1, .iconst 1] (by decide +kernel) (?_ : Wp E (d + 1) 67 34 [.ref 0, .int x1, .int x2, .null] [.int (Int32.ofInt 1), .int x1] M L Q)
    refine wp_icmpne (off := 32) 66 (by decide +kernel) (by decide) (fun c_2 => ?_) (fun c_2 => ?_)
    · refine wp_seg (pc' := 68) [.iconst (-2)] (by decide +kernel) (?_ : Wp E (d + 1) 67 68 [.ref 0, .int x1, .int x2, .null] [.int (Int32.ofInt (-2))] M L Q)
      exact wp_iret (by decide +kernel) rfl (by rw [f_X9_set, if_neg c_1, if_neg c_2, g_X9_set, if_neg c_1, if_neg c_2] at hQ; exact hQ)
    · refine wp_seg (pc' := 42) [.iload 2, .iconst 0, .iconst 255] (by decide +kernel) (?_ : Wp E (d + 1) 67 42 [.ref 0, .int x1, .int x2, .null] [.int (Int32.ofInt 255), .int (Int32.ofInt 0), .int x2] M L Q)
      refine wp_callS 90 [.int x2, .int (Int32.ofInt 0), .int (Int32.ofInt 255)] (i := 126) (by decide +kernel) (by decide +kernel) (by decide +kernel) rfl rfl rfl (rest := []) rfl rfl ?_
      refine s_X9_within M x2 (Int32.ofInt 0) (Int32.ofInt 255)  ?_
      show Wp E (d + 1) 67 45 [.ref 0, .int x1, .int x2, .null] [.int (f_X9_within M x2 (Int32.ofInt 0) (Int32.ofInt 255))] M L Q
      refine wp_ifeq (off := 21) 66 (by decide +kernel) (by decide) (fun c_3 => ?_) (fun c_3 => ?_)
      · refine wp_seg (pc' := 68) [.iconst (-2)] (by decide +kernel) (?_ : Wp E (d + 1) 67 68 [.ref 0, .int x1, .int x2, .null] [.int (Int32.ofInt (-2))] M L Q)
        exact wp_iret (by decide +kernel) rfl (by rw [f_X9_set, if_neg c_1, if_pos c_2, if_pos c_3, g_X9_set, if_neg c_1, if_pos c_2, if_pos c_3] at hQ; exact hQ)
      · refine wp_seg (pc' := 65) [.aload 0, .getfield 577, .getfield 194, .istore 3, .aload 0, .getfield 577, .iload 2, .putfield 194, .iload 3] (by decide +kernel) (?_ : Wp E (d + 1) 67 65 [.ref 0, .int x1, .int x2, .int (M 3 2)] [.int (M 3 2)] (mput M 3 2 x2) L Q)
        exact wp_iret (by decide +kernel) rfl (by rw [f_X9_set, if_neg c_1, if_pos c_2, if_neg c_3, g_X9_set, if_neg c_1, if_pos c_2, if_neg c_3] at hQ; exact hQ)
  · refine wp_seg (pc' := 8) [.iload 2, .iconst 1, .iconst 60] (by decide +kernel) (?_ : Wp E (d + 1) 67 8 [.ref 0, .int x1, .int x2, .null] [.int (Int32.ofInt 60), .int (Int32.ofInt 1), .int x2] M L Q)
    refine wp_callS 90 [.int x2, .int (Int32.ofInt 1), .int (Int32.ofInt 60)] (i := 126) (by decide +kernel) (by decide +kernel) (by decide +kernel) rfl rfl rfl (rest := []) rfl rfl ?_
    refine s_X9_within M x2 (Int32.ofInt 1) (Int32.ofInt 60)  ?_
    show Wp E (d + 1) 67 11 [.ref 0, .int x1, .int x2, .null] [.int (f_X9_within M x2 (Int32.ofInt 1) (Int32.ofInt 60))] M L Q
    refine wp_ifeq (off := 21) 32 (by decide +kernel) (by decide) (fun c_4 => ?_) (fun c_4 => ?_)
    · refine wp_seg (pc' := 34) [.iload 1, .iconst 1] (by decide +kernel) (?_ : Wp E (d + 1) 67 34 [.ref 0, .int x1, .int x2, .null] [.int (Int32.ofInt 1), .int x1] M L Q)
      refine wp_icmpne (off := 32) 66 (by decide +kernel) (by decide) (fun c_5 => ?_) (fun c_5 => ?_)
      · refine wp_seg (pc' := 68) [.iconst (-2)] (by decide +kernel) (?_ : Wp E (d + 1) 67 68 [.ref 0, .int x1, .int x2, .null] [.int (Int32.ofInt (-2))] M L Q)
        exact wp_iret (by decide +kernel) rfl (by rw [f_X9_set, if_pos c_1, if_pos c_4, if_neg c_5, g_X9_set, if_pos c_1, if_pos c_4, if_neg c_5] at hQ; exact hQ)
      · refine wp_seg (pc' := 42) [.iload 2, .iconst 0, .iconst 255] (by decide +kernel) (?_ : Wp E (d + 1) 67 42 [.ref 0, .int x1, .int x2, .null] [.int (Int32.ofInt 255), .int (Int32.ofInt 0), .int x2] M L Q)
        refine wp_callS 90 [.int x2, .int (Int32.ofInt 0), .int (Int32.ofInt 255)] (i := 126) (by decide +kernel) (by decide +kernel) (by decide +kernel) rfl rfl rfl (rest := []) rfl rfl ?_
        refine s_X9_within M x2 (Int32.ofInt 0) (Int32.ofInt 255)  ?_
        show Wp E (d + 1) 67 45 [.ref 0, .int x1, .int x2, .null] [.int (f_X9_within M x2 (Int32.ofInt 0) (Int32.ofInt 255))] M L Q
        refine wp_ifeq (off := 21) 66 (by decide +kernel) (by decide) (fun c_6 => ?_) (fun c_6 => ?_)
        · refine wp_seg (pc' := 68) [.iconst (-2)] (by decide +kernel) (?_ : Wp E (d + 1) 67 68 [.ref 0, .int x1, .int x2, .null] [.int (Int32.ofInt (-2))] M L Q)
          exact wp_iret (by decide +kernel) rfl (by rw [f_X9_set, if_pos c_1, if_pos c_4, if_pos c_5, if_pos c_6, g_X9_set, if_pos c_1, if_pos c_4, if_pos c_5, if_pos c_6] at hQ; exact hQ)
        · refine wp_seg (pc' := 65) [.aload 0, .getfield 577, .getfield 194, .istore 3, .aload 0, .getfield 577, .iload 2, .putfield 194, .iload 3] (by decide +kernel) (?_ : Wp E (d + 1) 67 65 [.ref 0, .int x1, .int x2, .int (M 3 2)] [.int (M 3 2)] (mput M 3 2 x2) L Q)
          exact wp_iret (by decide +kernel) rfl (by rw [f_X9_set, if_pos c_1, if_pos c_4, if_pos c_5, if_neg c_6, g_X9_set, if_pos c_1, if_pos c_4, if_pos c_5, if_neg c_6] at hQ; exact hQ)
    · refine wp_seg (pc' := 31) [.aload 0, .getfield 577, .getfield 193, .istore 3, .aload 0, .getfield 577, .iload 2, .putfield 193, .iload 3] (by decide +kernel) (?_ : Wp E (d + 1) 67 31 [.ref 0, .int x1, .int x2, .int (M 3 1)] [.int (M 3 1)] (mput M 3 1 x2) L Q)
      exact wp_iret (by decide +kernel) rfl (by rw [f_X9_set, if_pos c_1, if_neg c_4, g_X9_set, if_pos c_1, if_neg c_4] at hQ; exact hQ)

def f_X9_know (M : Mem) (x1 : Int32) (x2 : Int32) : Int32 := (if (f_X9_isRoom M x1) = 0 then Int32.ofInt (-1) else (if (f_X9_within M x2 (Int32.ofInt 0) (Int32.ofInt 255)) = 0 then Int32.ofInt (-2) else M 9 x1.toNatClampNeg))
def g_X9_know (M : Mem) (x1 : Int32) (x2 : Int32) : Mem := (if (f_X9_isRoom M x1) = 0 then M else (if (f_X9_within M x2 (Int32.ofInt 0) (Int32.ofInt 255)) = 0 then M else (mput M 9 x1.toNatClampNeg x2)))
theorem s_X9_know {E : VE} {d : Nat} {Q : QQ} {L : LMem} (M : Mem) (x1 : Int32) (x2 : Int32) (o_1 : ¬ ((f_X9_isRoom M x1) = 0) → ¬ ((f_X9_within M x2 (Int32.ofInt 0) (Int32.ofInt 255)) = 0) → vp_in x1 8) (hQ : Q (some (.int (f_X9_know M x1 x2))) (g_X9_know M x1 x2) L) : Wp E (d + 2) 73 0 [.ref 0, .int x1, .int x2, .null] [] M L Q := by
  refine wp_seg (pc' := 1) [.iload 1] (by decide +kernel) (?_ : Wp E (d + 2) 73 1 [.ref 0, .int x1, .int x2, .null] [.int x1] M L Q)
  refine wp_callS 91 [.int x1] (i := 150) (by decide +kernel) (by decide +kernel) (by decide +kernel) rfl rfl rfl (rest := []) rfl rfl ?_
  refine s_X9_isRoom M x1  ?_
  show Wp E (d + 2) 73 4 [.ref 0, .int x1, .int x2, .null] [.int (f_X9_isRoom M x1)] M L Q
  refine wp_ifne (off := 5) 9 (by decide +kernel) (by decide) (fun c_1 => ?_) (fun c_1 => ?_)
  · refine wp_seg (pc' := 14) [.iload 2, .iconst 0, .iconst 255] (by decide +kernel) (?_ : Wp E (d + 2) 73 14 [.ref 0, .int x1, .int x2, .null] [.int (Int32.ofInt 255), .int (Int32.ofInt 0), .int x2] M L Q)
    refine wp_callS 90 [.int x2, .int (Int32.ofInt 0), .int (Int32.ofInt 255)] (i := 126) (by decide +kernel) (by decide +kernel) (by decide +kernel) rfl rfl rfl (rest := []) rfl rfl ?_
    refine s_X9_within M x2 (Int32.ofInt 0) (Int32.ofInt 255)  ?_
    show Wp E (d + 2) 73 17 [.ref 0, .int x1, .int x2, .null] [.int (f_X9_within M x2 (Int32.ofInt 0) (Int32.ofInt 255))] M L Q
    refine wp_ifne (off := 6) 23 (by decide +kernel) (by decide) (fun c_2 => ?_) (fun c_2 => ?_)
    · refine wp_seg (pc' := 32) [.aload 0, .getfield 577, .getfield 195, .iload 1, .iaload] (by decide +kernel) (show aok 9 0 x1 ∧ Wp E (d + 2) 73 32 [.ref 0, .int x1, .int x2, .null] [.int (M 9 x1.toNatClampNeg)] M L Q from ⟨⟨rfl, (o_1 c_1 c_2)⟩, ?_⟩)
      refine wp_seg (pc' := 43) [.istore 3, .aload 0, .getfield 577, .getfield 195, .iload 1, .iload 2, .iastore] (by decide +kernel) (show aok 9 0 x1 ∧ Wp E (d + 2) 73 43 [.ref 0, .int x1, .int x2, .int (M 9 x1.toNatClampNeg)] [] (mput M 9 x1.toNatClampNeg x2) L Q from ⟨⟨rfl, (o_1 c_1 c_2)⟩, ?_⟩)
      refine wp_seg (pc' := 44) [.iload 3] (by decide +kernel) (?_ : Wp E (d + 2) 73 44 [.ref 0, .int x1, .int x2, .int (M 9 x1.toNatClampNeg)] [.int (M 9 x1.toNatClampNeg)] (mput M 9 x1.toNatClampNeg x2) L Q)
      exact wp_iret (by decide +kernel) rfl (by rw [f_X9_know, if_neg c_1, if_neg c_2, g_X9_know, if_neg c_1, if_neg c_2] at hQ; exact hQ)
    · refine wp_seg (pc' := 22) [.iconst (-2)] (by decide +kernel) (?_ : Wp E (d + 2) 73 22 [.ref 0, .int x1, .int x2, .null] [.int (Int32.ofInt (-2))] M L Q)
      exact wp_iret (by decide +kernel) rfl (by rw [f_X9_know, if_neg c_1, if_pos c_2, g_X9_know, if_neg c_1, if_pos c_2] at hQ; exact hQ)
  · refine wp_seg (pc' := 8) [.iconst (-1)] (by decide +kernel) (?_ : Wp E (d + 2) 73 8 [.ref 0, .int x1, .int x2, .null] [.int (Int32.ofInt (-1))] M L Q)
    exact wp_iret (by decide +kernel) rfl (by rw [f_X9_know, if_pos c_1, g_X9_know, if_pos c_1] at hQ; exact hQ)

def f_X9_call (M : Mem) (x1 : Int32) (x2 : Int32) (x3 : Int32) (x4 : Int32) : Int32 := (if (f_X9_twoRooms M x1 x2) = 0 then Int32.ofInt (-1) else (if (f_X9_within M x3 (Int32.ofInt 1) (Int32.ofInt 9)) = 0 then Int32.ofInt (-2) else (if (f_X9_within M x4 (Int32.ofInt 1) (Int32.ofInt 60)) = 0 then Int32.ofInt (-2) else (if (f_X3_addWaiting M x1 x2 x3 x4) = 0 then Int32.ofInt (-4) else ((g_X3_addWaiting M x1 x2 x3 x4) 3 8) - (Int32.ofInt 1)))))
def g_X9_call (M : Mem) (x1 : Int32) (x2 : Int32) (x3 : Int32) (x4 : Int32) : Mem := (if (f_X9_twoRooms M x1 x2) = 0 then M else (if (f_X9_within M x3 (Int32.ofInt 1) (Int32.ofInt 9)) = 0 then M else (if (f_X9_within M x4 (Int32.ofInt 1) (Int32.ofInt 60)) = 0 then M else (if (f_X3_addWaiting M x1 x2 x3 x4) = 0 then (g_X3_addWaiting M x1 x2 x3 x4) else (g_X3_addWaiting M x1 x2 x3 x4)))))
theorem s_X9_call {E : VE} {d : Nat} {Q : QQ} {L : LMem} (M : Mem) (x1 : Int32) (x2 : Int32) (x3 : Int32) (x4 : Int32) (o_1 : ¬ ((f_X9_twoRooms M x1 x2) = 0) → ¬ ((f_X9_within M x3 (Int32.ofInt 1) (Int32.ofInt 9)) = 0) → ¬ ((f_X9_within M x4 (Int32.ofInt 1) (Int32.ofInt 60)) = 0) → ((M 3 8) < (Int32.ofInt 5) → vp_in (M 3 8) 5)) (hQ : Q (some (.int (f_X9_call M x1 x2 x3 x4))) (g_X9_call M x1 x2 x3 x4) L) : Wp E (d + 3) 75 0 [.ref 0, .int x1, .int x2, .int x3, .int x4] [] M L Q := by
  refine wp_seg (pc' := 2) [.iload 1, .iload 2] (by decide +kernel) (?_ : Wp E (d + 3) 75 2 [.ref 0, .int x1, .int x2, .int x3, .int x4] [.int x2, .int x1] M L Q)
  refine wp_callS 92 [.int x1, .int x2] (i := 136) (by decide +kernel) (by decide +kernel) (by decide +kernel) rfl rfl rfl (rest := []) rfl rfl ?_
  refine s_X9_twoRooms M x1 x2  ?_
  show Wp E (d + 3) 75 5 [.ref 0, .int x1, .int x2, .int x3, .int x4] [.int (f_X9_twoRooms M x1 x2)] M L Q
  refine wp_ifne (off := 5) 10 (by decide +kernel) (by decide) (fun c_1 => ?_) (fun c_1 => ?_)
  · refine wp_seg (pc' := 14) [.iload 3, .iconst 1, .iconst 9] (by decide +kernel) (?_ : Wp E (d + 3) 75 14 [.ref 0, .int x1, .int x2, .int x3, .int x4] [.int (Int32.ofInt 9), .int (Int32.ofInt 1), .int x3] M L Q)
    refine wp_callS 90 [.int x3, .int (Int32.ofInt 1), .int (Int32.ofInt 9)] (i := 126) (by decide +kernel) (by decide +kernel) (by decide +kernel) rfl rfl rfl (rest := []) rfl rfl ?_
    refine s_X9_within M x3 (Int32.ofInt 1) (Int32.ofInt 9)  ?_
    show Wp E (d + 3) 75 17 [.ref 0, .int x1, .int x2, .int x3, .int x4] [.int (f_X9_within M x3 (Int32.ofInt 1) (Int32.ofInt 9))] M L Q
    refine wp_ifeq (off := 14) 31 (by decide +kernel) (by decide) (fun c_2 => ?_) (fun c_2 => ?_)
    · refine wp_seg (pc' := 33) [.iconst (-2)] (by decide +kernel) (?_ : Wp E (d + 3) 75 33 [.ref 0, .int x1, .int x2, .int x3, .int x4] [.int (Int32.ofInt (-2))] M L Q)
      exact wp_iret (by decide +kernel) rfl (by rw [f_X9_call, if_neg c_1, if_pos c_2, g_X9_call, if_neg c_1, if_pos c_2] at hQ; exact hQ)
    · refine wp_seg (pc' := 25) [.iload 4, .iconst 1, .iconst 60] (by decide +kernel) (?_ : Wp E (d + 3) 75 25 [.ref 0, .int x1, .int x2, .int x3, .int x4] [.int (Int32.ofInt 60), .int (Int32.ofInt 1), .int x4] M L Q)
      refine wp_callS 90 [.int x4, .int (Int32.ofInt 1), .int (Int32.ofInt 60)] (i := 126) (by decide +kernel) (by decide +kernel) (by decide +kernel) rfl rfl rfl (rest := []) rfl rfl ?_
      refine s_X9_within M x4 (Int32.ofInt 1) (Int32.ofInt 60)  ?_
      show Wp E (d + 3) 75 28 [.ref 0, .int x1, .int x2, .int x3, .int x4] [.int (f_X9_within M x4 (Int32.ofInt 1) (Int32.ofInt 60))] M L Q
      refine wp_ifne (off := 6) 34 (by decide +kernel) (by decide) (fun c_3 => ?_) (fun c_3 => ?_)
      · refine wp_seg (pc' := 43) [.aload 0, .getfield 577, .iload 1, .iload 2, .iload 3, .iload 4] (by decide +kernel) (?_ : Wp E (d + 3) 75 43 [.ref 0, .int x1, .int x2, .int x3, .int x4] [.int x4, .int x3, .int x2, .int x1, .ref 3] M L Q)
        refine wp_callV 18 3 [.int x1, .int x2, .int x3, .int x4] (i := 186) (by decide +kernel) (by decide +kernel) (by decide +kernel) (by decide +kernel) rfl rfl rfl (rest := []) rfl rfl ?_
        refine s_X3_addWaiting M x1 x2 x3 x4 (o_1 c_1 c_2 c_3) ?_
        show Wp E (d + 3) 75 46 [.ref 0, .int x1, .int x2, .int x3, .int x4] [.int (f_X3_addWaiting M x1 x2 x3 x4)] (g_X3_addWaiting M x1 x2 x3 x4) L Q
        refine wp_ifeq (off := 15) 61 (by decide +kernel) (by decide) (fun c_4 => ?_) (fun c_4 => ?_)
        · refine wp_seg (pc' := 63) [.iconst (-4)] (by decide +kernel) (?_ : Wp E (d + 3) 75 63 [.ref 0, .int x1, .int x2, .int x3, .int x4] [.int (Int32.ofInt (-4))] (g_X3_addWaiting M x1 x2 x3 x4) L Q)
          exact wp_iret (by decide +kernel) rfl (by rw [f_X9_call, if_neg c_1, if_neg c_2, if_neg c_3, if_pos c_4, g_X9_call, if_neg c_1, if_neg c_2, if_neg c_3, if_pos c_4] at hQ; exact hQ)
        · refine wp_seg (pc' := 63) [.aload 0, .getfield 577, .getfield 200, .iconst 1, .isub, .goto 0] (by decide +kernel) (?_ : Wp E (d + 3) 75 63 [.ref 0, .int x1, .int x2, .int x3, .int x4] [.int (((g_X3_addWaiting M x1 x2 x3 x4) 3 8) - (Int32.ofInt 1))] (g_X3_addWaiting M x1 x2 x3 x4) L Q)
          exact wp_iret (by decide +kernel) rfl (by rw [f_X9_call, if_neg c_1, if_neg c_2, if_neg c_3, if_neg c_4, g_X9_call, if_neg c_1, if_neg c_2, if_neg c_3, if_neg c_4] at hQ; exact hQ)
      · refine wp_seg (pc' := 33) [.iconst (-2)] (by decide +kernel) (?_ : Wp E (d + 3) 75 33 [.ref 0, .int x1, .int x2, .int x3, .int x4] [.int (Int32.ofInt (-2))] M L Q)
        exact wp_iret (by decide +kernel) rfl (by rw [f_X9_call, if_neg c_1, if_neg c_2, if_pos c_3, g_X9_call, if_neg c_1, if_neg c_2, if_pos c_3] at hQ; exact hQ)
  · refine wp_seg (pc' := 9) [.iconst (-1)] (by decide +kernel) (?_ : Wp E (d + 3) 75 9 [.ref 0, .int x1, .int x2, .int x3, .int x4] [.int (Int32.ofInt (-1))] M L Q)
    exact wp_iret (by decide +kernel) rfl (by rw [f_X9_call, if_pos c_1, g_X9_call, if_pos c_1] at hQ; exact hQ)

def f_X9_clear (M : Mem) : Int32 := M 3 8
def g_X9_clear (M : Mem) : Mem := (mput M 3 8 (Int32.ofInt 0))
theorem s_X9_clear {E : VE} {d : Nat} {Q : QQ} {L : LMem} (M : Mem) (hQ : Q (some (.int (f_X9_clear M))) (g_X9_clear M) L) : Wp E d 76 0 [.ref 0, .null] [] M L Q := by
  refine wp_seg (pc' := 17) [.aload 0, .getfield 577, .getfield 200, .istore 1, .aload 0, .getfield 577, .iconst 0, .putfield 200, .iload 1] (by decide +kernel) (?_ : Wp E d 76 17 [.ref 0, .int (M 3 8)] [.int (M 3 8)] (mput M 3 8 (Int32.ofInt 0)) L Q)
  exact wp_iret (by decide +kernel) rfl hQ
