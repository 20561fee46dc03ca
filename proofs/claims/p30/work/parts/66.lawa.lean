/-! ===== the law's body, from its end on: bridges, tries, servants, tubes of two ===== -/
abbrev KL : Int32 → Mem → LMem → Prop := fun v _ _ => v = 1
theorem shr_n {v n : Nat} (hv : v < 2 ^ 31) (hn : n < 32) : nI v >>> (nI n &&& 31) = nI (v / 2 ^ n) := pk_shrN hv _ n (s_l n hn)
theorem sdf_z {a b : Nat} (ha : a < 8192) (h : ∀ i, a.testBit i = true → b.testBit i = true) : nI a &&& (nI b ^^^ Int32.ofInt (-1)) = 0 := by
  rw [sdf_i, (sub_bits ha).mpr h]; rfl
section LAWA
variable {sc : SCT} {L : LMem} {np : Nat} {pd : Nat → Nat}
theorem l1205 {M : Mem} {s : Stt} {n f : Nat} (hI : INVs M s np pd) (hn : qn (sH s) = n) : PL_L_law_1205 sc KL (f + 1) (nI n) M L := by
  have h12 := hI.1.2.1
  unfold PL_L_law_1205
  dsimp only
  refine u_bri hI (fun M1 B hB _ => br_t ?_ rfl)
  have hp : 2 ^ qn (sH s) ≤ 2 ^ 12 := Nat.pow_le_pow_right (by decide) h12
  rw [shr_n (by omega) (by omega), ← hn, Nat.div_eq_of_lt hB]; rfl
theorem l1071 {n : Nat} : ∀ (f r : Nat) (s : Stt) (M : Mem), r ≤ 6 → 6 < f + r → INVs M s np pd → qn (sH s) = n → sG s 4 ≤ r → PL_L_law_1071 sc KL f (nI n) (nI (sG s 3)) (nI r) M L := by
  intro f
  induction f with
  | zero => intro r s M h1 h2; omega
  | succ f ih =>
    intro r s M h1 h2 hI hn hr
    have hS := hI.1
    have hc := hS.2.2.2.2.2.1
    unfold PL_L_law_1071
    refine pk_le 6 r (fun _ => l1205 (f := 99999) hI hn) (fun c6 => ?_)
    refine u_stop1 hI (fun M1 hF1 => ?_)
    have hI1 := hI.scr hF1
    -- what stopped(2) says before the try
    have md : ∀ {Q : Int32 → Mem → LMem → Prop}, (∀ v M2, (v = Int32.ofInt (-6) ∨ (v = nI (tS s (sG s 3)) ∧ sG s 3 ≠ 0 ∧ tS s (sG s 3) < 9999)) → INVs M2 s np pd → Q v M2 L) → P_X9_stopped (Int32.ofInt 2) M1 L Q := fun h =>
      u_stop2 hI1 (fun _ M2 hF2 => h _ M2 (Or.inl rfl) (hI1.scr hF2)) (fun a b M2 hF2 => h _ M2 (Or.inr ⟨rfl, a, b⟩) (hI1.scr hF2))
    refine md (fun v81 M2 h81 hI2 => ?_)
    rcases ntf_spec (s := s) hc 80 with e | ⟨j, j1, e, j2, j3⟩
    · rw [e]
      exact br_f (by decide) (l1205 (f := 99999) hI2 hn)
    · rw [e]
      obtain ⟨v1, v2, v3⟩ := j2
      have hcell : nI r + Int32.ofInt 160 = nI (r + 160) := nI_add r 160
      rw [hcell]
      refine br_t (nI_pos' (by omega)) ⟨cell_ok (by omega) (by decide) (by decide), ?_⟩
      rw [o10, pk_rem (by omega) (by decide) (by decide), pk_div (by omega) (by decide) (by decide)]
      have tail : ∀ y : Int32, P_X9_tried (nI (j / 10)) (nI (j % 10)) y M2 L (fun v_106 M_104 L_105 => PL_L_law_1135 sc KL (PL_L_law_1071 sc KL f) 100000 (nI n) (nI (sG s 3)) (nI r) v81 v_106 M_104 L_105) := by
        intro y
        refine u_tried hI2 (by omega) v1 v2 v3 (by omega) (fun M3 c' hc' _ hI3 => ?_)
        obtain ⟨q1, q2, q3, q4, q5⟩ := part_spec hc j3 (show c' = sG s 3 &&& wk s j ∨ c' = sdf (sG s 3) (wk s j) from hc')
        have g3 : sG (sGu (sGu s 4 (sG s 4 + 1)) 3 c') 3 = c' := by
          show fup (fup s.2.1 4 (sG s 4 + 1)) 3 c' 3 = c'
          rw [fup_s]
        have g4 : sG (sGu (sGu s 4 (sG s 4 + 1)) 3 c') 4 = sG s 4 + 1 := by
          show fup (fup s.2.1 4 (sG s 4 + 1)) 3 c' 4 = sG s 4 + 1
          rw [fup_n (by decide), fup_s]
        have gT : ∀ S, tS (sGu (sGu s 4 (sG s 4 + 1)) 3 c') S = tS s S := fun S => (tS_g (by decide) S).trans (tS_g (by decide) S)
        have loop : ∀ M4, INVs M4 (sGu (sGu s 4 (sG s 4 + 1)) 3 c') np pd → PL_L_law_1195 sc KL (PL_L_law_1071 sc KL f) 100000 (nI n) (nI r) (nI c') M4 L := fun M4 hI4 => by
          have h := ih (r + 1) _ M4 (by omega) (by omega) hI4 hn (by rw [g4]; omega)
          rw [g3] at h
          show PL_L_law_1071 sc KL f (nI n) (nI c') (nI r + Int32.ofInt 1) M4 L
          rw [nI_s]
          exact h
        show PL_L_law_1135 sc KL (PL_L_law_1071 sc KL f) (99999 + 1) (nI n) (nI (sG s 3)) (nI r) v81 (nI (popN c')) M3 L
        unfold PL_L_law_1135
        dsimp only
        refine u_stop0 hI3 ?_
        rw [g3]
        have p13 := popN_le c'
        refine br_t (sdf_z q5 q1) (br_f (fun e => q2 ((nI_eq (by omega) (by omega)).mp e)) (br_f (nI_ne0 (by omega) (by omega)) (br_f (nI_nlt (b := 1) q4 (by omega)) ?_)))
        rcases h81 with rfl | ⟨rfl, t1, t2⟩
        · exact br_t (by decide) (loop M3 hI3)
        · have hm := tS_mono s (popN (sG s 3) + 1) (sG s 3) c' (by omega) hc q5 q1
          have md3 : ∀ {Q : Int32 → Mem → LMem → Prop} {M4 : Mem}, INVs M4 (sGu (sGu s 4 (sG s 4 + 1)) 3 c') np pd → (∀ M5, INVs M5 (sGu (sGu s 4 (sG s 4 + 1)) 3 c') np pd → Q (nI (tS s c')) M5 L) → P_X9_stopped (Int32.ofInt 2) M4 L Q := fun hI4 h => by
            refine u_stop2 hI4 (fun e => ?_) (fun _ _ M5 hF5 => ?_)
            · rw [g3, gT] at e
              omega
            · rw [g3, gT]
              exact h M5 (hI4.scr hF5)
          refine br_f (nI_pos (by omega)) (md3 hI3 (fun M4 hI4 => br_f (nI_pos (by omega)) (md3 hI4 (fun M5 hI5 => br_t (nI_le hm (by omega)) (loop M5 hI5)))))
      exact br_c (fun _ => tail _) (fun _ => tail _)
theorem l1061 {M : Mem} {s : Stt} {n f : Nat} (hI : INVs M s np pd) (hn : qn (sH s) = n) (h4 : sG s 4 = 0) : PL_L_law_1061 sc KL (f + 1) (nI n) M L := by
  unfold PL_L_law_1061
  dsimp only
  exact u_stop0 hI (l1071 100000 0 s M (by omega) (by omega) hI hn (by omega))
theorem one_bit {st : Nat} (h : st < 32) (h1 : nI st &&& (nI st - Int32.ofInt 1) = 0) : ∀ i i', st.testBit i = true → st.testBit i' = true → i = i' := by
  by_cases e : st = 0
  · subst e
    intro i i' hi
    rw [Nat.zero_testBit] at hi
    exact absurd hi (by decide)
  · rw [show Int32.ofInt 1 = nI 1 from rfl, pk_sub (by omega), fa_and] at h1
    have hz : st &&& (st - 1) = 0 := (nI_eq (b := 0) (Nat.lt_of_le_of_lt Nat.and_le_left (by omega)) (by decide)).mp h1
    have kb : (List.range 32).all (fun st => !(Nat.beq (st &&& (st - 1)) 0) || (List.range 5).all fun i => (List.range 5).all fun i' => !(st.testBit i) || (!(st.testBit i') || Nat.beq i i')) = true := by decide +kernel
    have key : ∀ i, i < 5 → ∀ i', i' < 5 → st.testBit i = true → st.testBit i' = true → i = i' := fun i hi i' hi' t1 t2 => by
      have q1 := List.all_eq_true.mp kb st (List.mem_range.mpr h)
      rw [hz] at q1
      have q2 := List.all_eq_true.mp (List.all_eq_true.mp (show (List.range 5).all (fun i => (List.range 5).all fun i' => !(st.testBit i) || (!(st.testBit i') || Nat.beq i i')) = true from q1) i (List.mem_range.mpr hi)) i' (List.mem_range.mpr hi')
      rw [t1, t2] at q2
      exact Nat.eq_of_beq_eq_true q2
    have b5 : ∀ i, st.testBit i = true → i < 5 := fun i hi => Nat.lt_of_not_le (fun e => by
      rw [Nat.testBit_lt_two_pow (Nat.lt_of_lt_of_le (show st < 2 ^ 5 by omega) (Nat.pow_le_pow_right (by decide) e))] at hi
      exact Bool.false_ne_true hi)
    exact fun i i' hi hi' => key i (b5 i hi) i' (b5 i' hi') hi hi'
theorem l988 {s : Stt} {n : Nat} {v14 : Int32} (hn : qn (sH s) = n) (h4 : sG s 4 = 0) (hh : ∀ c, c < sG s 2 → hw s c) : ∀ (f st : Nat) (M : Mem), st ≤ 2 ^ sG s 2 → 2 ^ sG s 2 < f + st → INVs M s np pd → PL_L_law_988 sc KL f (nI n) (nI (sG s 2)) v14 (nI st) M L := by
  intro f
  induction f with
  | zero => intro st M h1 h2; omega
  | succ f ih =>
    intro st M h1 h2 hI
    have h5 := hI.1.2.2.2.2.1
    have hp : 2 ^ sG s 2 ≤ 2 ^ 5 := Nat.pow_le_pow_right (by decide) h5
    unfold PL_L_law_988
    rw [show Int32.ofInt 1 <<< (nI (sG s 2) &&& 31) = nI (2 ^ sG s 2) by rw [show Int32.ofInt 1 = nI 1 from rfl, sh1 (by omega)]]
    refine pk_le (2 ^ sG s 2) st (fun c => l1061 (f := 99999) hI hn h4) (fun c => ?_)
    have loop : ∀ M1, INVs M1 s np pd → PL_L_law_1055 sc KL (PL_L_law_988 sc KL f) 100000 (nI n) (nI (sG s 2)) v14 (nI st) M1 L := fun M1 hI1 => by
      show PL_L_law_988 sc KL f (nI n) (nI (sG s 2)) v14 (nI st + Int32.ofInt 1) M1 L
      rw [nI_s]
      exact ih (st + 1) M1 (by omega) (by omega) hI1
    have lk1 : ∀ {Q : Int32 → Mem → LMem → Prop} {M1 : Mem}, INVs M1 s np pd → (∀ M2, INVs M2 s np pd → Q (Int32.ofInt (-6)) M2 L) → P_X9_locked (nI st) (Int32.ofInt 1) M1 L Q := fun hI1 h => u_locked (ru := 1) hI1 c (by omega) hh (Or.inl rfl) (fun M2 hF2 => h M2 (hI1.scr hF2))
    have t36 : ∀ (v16 : Int32) (M1 : Mem), INVs M1 s np pd → (¬ v16 = 0 → ∀ i i', st.testBit i = true → st.testBit i' = true → i = i') → PL_L_law_1036 sc KL (PL_L_law_988 sc KL f) (99999 + 1) (nI n) (nI (sG s 2)) v14 (nI st) v16 M1 L := by
      intro v16 M1 hI1 hone
      unfold PL_L_law_1036
      dsimp only
      refine br_c (fun _ => loop M1 hI1) (fun c16 => ?_)
      exact u_locked (ru := 0) hI1 c (by omega) hh (Or.inr (hone c16)) (fun M2 hF2 => br_t rfl (loop M2 (hI1.scr hF2)))
    have t14 : ∀ (v16 : Int32), (¬ v16 = 0 → ∀ i i', st.testBit i = true → st.testBit i' = true → i = i') → PL_L_law_1014 sc KL (PL_L_law_988 sc KL f) (99999 + 1) (nI n) (nI (sG s 2)) v14 (nI st) v16 M L := by
      intro v16 hone
      unfold PL_L_law_1014
      dsimp only
      exact br_c (fun _ => br_c (fun _ => lk1 hI (fun M1 hI1 => br_t rfl (t36 v16 M1 hI1 hone))) (fun _ => t36 v16 M hI hone)) (fun _ => lk1 hI (fun M1 hI1 => br_t rfl (t36 v16 M1 hI1 hone)))
    refine br_c (fun c1 => t14 _ (fun _ => one_bit (by omega) c1)) (fun _ => t14 _ (fun e => absurd rfl e))
theorem l951 {s : Stt} {n : Nat} (hn : qn (sH s) = n) (h4 : sG s 4 = 0) (hh : ∀ c, c < sG s 2 → hw s c) {M : Mem} (hI : INVs M s np pd) : ∀ (f k : Nat) (v14 : Int32), k ≤ n → n < f + k → PL_L_law_951 sc KL f (nI n) (nI (sG s 2)) v14 (nI k) M L := by
  intro f
  have h12 := hI.1.2.1
  induction f with
  | zero => intro k v14 h1 h2; omega
  | succ f ih =>
    intro k v14 h1 h2
    unfold PL_L_law_951
    refine pk_le n k (fun c => ?_) (fun c => ?_)
    · show PL_L_law_988 sc KL 100000 (nI n) (nI (sG s 2)) v14 (nI 0) M L
      have hp : 2 ^ sG s 2 ≤ 2 ^ 5 := Nat.pow_le_pow_right (by decide) hI.1.2.2.2.2.1
      exact l988 hn h4 hh 100000 0 M (Nat.zero_le _) (by omega) hI
    · rw [show Int32.ofInt 4 * nI k + Int32.ofInt 2 = nI (4 * k + 2) from e4 k 2]
      have loop : ∀ v, PL_L_law_979 sc KL (PL_L_law_951 sc KL f) 100000 (nI n) (nI (sG s 2)) v (nI k) M L := fun v => by
        show PL_L_law_951 sc KL f (nI n) (nI (sG s 2)) v (nI k + Int32.ofInt 1) M L
        rw [nI_s]
        exact ih (k + 1) v (by omega) (by omega)
      exact ⟨v48 (by omega) (by decide), br_c (fun _ => loop _) (fun _ => loop _)⟩
theorem l945 {s : Stt} {n f : Nat} (hn : qn (sH s) = n) (h4 : sG s 4 = 0) (hh : ∀ c, c < sG s 2 → hw s c) {M : Mem} (hI : INVs M s np pd) : PL_L_law_945 sc KL (f + 1) (nI n) (nI (sG s 2)) M L := by
  have h12 := hI.1.2.1
  exact l951 hn h4 hh hI 100000 0 (Int32.ofInt 0) (by omega) (by omega)
end LAWA
