/-! ===== the law's body: further tubes; what is heard, far, loud ===== -/
section LAWD
variable {sc : SCT} {L : LMem}
theorem l527 {s : Stt} {pd : Nat → Nat} {n r0 f : Nat} {M : Mem} (hn : qn (sH s) = n) (h4 : sG s 4 = 0) (hN : ∀ r, r < 8 → sN s r = 0) (h2 : sG s 2 = 0) (hr0 : r0 < 8) (h0 : M 74 0 = nI r0) (hI : INVs M s 0 pd) (hT : HT M (sH s)) : PL_L_law_527 sc KL (f + 1) (nI n) M L := by
  unfold PL_L_law_527
  dsimp only
  rw [tn0, h0]
  refine u_know (v := 3) hI hr0 (by decide) (fun M1 hF1 hI1 => ?_)
  rw [hN r0 hr0]
  refine br_t rfl (u_clear hI1 (fun M2 hF2 hI2 => ?_))
  have e2 : sG (sNu s r0 3) 2 = 0 := h2
  rw [e2]
  refine br_t rfl ?_
  have g2 : sG (sGu (sNu s r0 3) 2 0) 2 = 0 := fup_s (sNu s r0 3).2.1 2 0
  have gN : ∀ r, sN (sGu (sNu s r0 3) 2 0) r = fup s.2.2.1 r0 3 r := fun _ => rfl
  have hC : CLS (sGu (sNu s r0 3) 2 0) pd n r0 0 := by
    refine ⟨hn, (fup_n (f := s.2.1) (x := 2) (v := 0) (y := 4) (by decide)).trans h4, fun r b hr hb => ?_, fun c hc => ?_, fun c hc => ?_, fun c hc => ?_, ?_, fun E _ => Nat.zero_le _⟩
    · rw [gN] at hb
      by_cases e : r = r0
      · rw [e, fup_s] at hb
        exact Nat.lt_of_not_le (fun e2 => by rw [bit_hi (n := 2) (by decide) e2] at hb; exact Bool.false_ne_true hb)
      · rw [fup_n e] at hb
        have hz : s.2.2.1 r = 0 := hN r hr
        rw [hz, Nat.zero_testBit] at hb
        exact absurd hb (by decide)
    · rw [g2] at hc; omega
    · rw [g2] at hc; omega
    · rw [g2] at hc; omega
    · rw [gN, fup_s]
  have hT2 : HT M2 (sH (sGu (sNu s r0 3) 2 0)) := (hT.kp hF1).kp hF2
  have h := l573 (sc := sc) (L := L) hr0 100000 0 (sGu (sNu s r0 3) 2 0) pd M2 0 (by omega) (by omega) (by rw [g2]; omega) hC (by rw [g2]; exact hI2) hT2
  rw [g2] at h
  exact h
/-- between the calls of the law -/
def GD (s : Stt) (pd : Nat → Nat) (r0 : Nat) (M : Mem) : Prop := INVs M s 0 pd ∧ HT M (sH s) ∧ M 74 0 = nI r0
theorem GD.scr {s : Stt} {pd : Nat → Nat} {r0 : Nat} {M M1 : Mem} (h : GD s pd r0 M) (hF : Fr cScr M M1) : GD s pd r0 M1 := ⟨h.1.scr hF, h.2.1.scr hF, (hF 74 0 (cScr_hi (by decide))).trans h.2.2⟩
theorem l475 {s : Stt} {pd : Nat → Nat} {n r0 f : Nat} {M : Mem} (hn : qn (sH s) = n) (h4 : sG s 4 = 0) (hN : ∀ r, r < 8 → sN s r = 0) (h2 : sG s 2 = 0) (hr0 : r0 < 8) (hG : GD s pd r0 M) : PL_L_law_475 sc KL (f + 1) (nI n) (nI (SS (dc (sH s) (Int32.ofInt 0) (sG s 0)))) M L := by
  have hS := hG.1.1
  have hc60 := hS.2.2.1.2
  have hb : SS (dc (sH s) (Int32.ofInt 0) (sG s 0)) ≤ 6336 := SS_le (fun x y hx _ => dc_99 hS.1 hc60 y hx)
  have f1 := fB_dc (car := sG s 0) hS.1 1
  have f9 := fB_dc (car := sG s 0) hS.1 9
  have f19 := fB_mono (l := 1) (l' := 9) hS.1 hc60 (by decide)
  unfold PL_L_law_475
  dsimp only
  refine u_fur2 hG.1 (fun M1 hF1 => br_t rfl ?_)
  have G1 := hG.scr hF1
  refine u_fur1 (l := 1) G1.1 (by decide) (by decide) (fun M2 hF2 => br_f (nI_nlt f1 (by omega)) ?_)
  have G2 := G1.scr hF2
  refine u_fur1 (l := 1) G2.1 (by decide) (by decide) (fun M3 hF3 => ?_)
  have G3 := G2.scr hF3
  refine u_fur1 (l := 9) G3.1 (by decide) (by decide) (fun M4 hF4 => br_f (nI_nlt f19 (by omega)) ?_)
  have G4 := G3.scr hF4
  refine u_fur1 (l := 9) G4.1 (by decide) (by decide) (fun M5 hF5 => br_t (nI_le f9 (by omega)) ?_)
  have G5 := G4.scr hF5
  exact l527 (f := 99999) hn h4 hN h2 hr0 G5.2.2 G5.1 G5.2.1
theorem sGu_back {s : Stt} {x : Nat} : sGu (sGu s 1 x) 1 (sG s 1) = s := by
  have e : fup (fup s.2.1 1 x) 1 (sG s 1) = s.2.1 := by
    funext i
    by_cases c : i = 1
    · rw [c, fup_s]; rfl
    · rw [fup_n c, fup_n c]
  show (s.1, fup (fup s.2.1 1 x) 1 (sG s 1), s.2.2.1, s.2.2.2) = s
  rw [e]
/-- the way's length as the law has it -/
def V8 (s : Stt) (a b : Nat) (v : Int32) : Prop := (lab (sH s) (Int32.ofInt 0) b a / 16 ≤ sG s 0 ∧ v = nI (lab (sH s) (Int32.ofInt 0) b a / 16)) ∨ (¬ lab (sH s) (Int32.ofInt 0) b a / 16 ≤ sG s 0 ∧ v = Int32.ofInt (-6))
variable {s : Stt} {pd : Nat → Nat} {n r0 a b S : Nat} {C66 : Int32 → Int32 → Int32 → Int32 → Mem → LMem → Prop} {C76 : Int32 → Int32 → Int32 → Int32 → Int32 → Mem → LMem → Prop}
theorem l395 {f c : Nat} {v8 : Int32} {M : Mem} (ha : a < 8) (hb : b < 8) (hab : a ≠ b) (hc : c < 8) (h8 : V8 s a b v8) (hG : GD s pd r0 M) (kk : ∀ M1, GD s pd r0 M1 → C76 (nI n) (nI (sG s 1)) (nI S) (nI a) (nI b + Int32.ofInt 1) M1 L) :
    PL_L_law_395 sc KL C66 C76 (f + 1) (nI n) (nI (sG s 1)) (nI S) (nI a) (nI b) v8 (nI c) M L := by
  have hS := hG.1.1
  have h256 := hS.2.2.2.1
  have e1 : nI (sG s 1) &&& ((Int32.ofInt 1 <<< (nI c &&& 31)) ^^^ Int32.ofInt (-1)) = nI (sdf (sG s 1) (2 ^ c)) := by
    rw [show Int32.ofInt 1 = nI 1 from rfl, sh1 (by omega), sdf_i]
  have hsd : sdf (sG s 1) (2 ^ c) < 256 := by have := sdf_le (sG s 1) (2 ^ c); omega
  unfold PL_L_law_395
  dsimp only
  rw [e1]
  -- from the fewer stoppers back
  have hback : ∀ {Q : Int32 → Mem → LMem → Prop} {M1 : Mem}, INVs M1 (sGu s 1 (sdf (sG s 1) (2 ^ c))) 0 pd → HT M1 (sH s) → M1 74 0 = nI r0 → (∀ M2, GD s pd r0 M2 → Q (nI (sdf (sG s 1) (2 ^ c))) M2 L) → P_X9_set (Int32.ofInt 1) (nI (sG s 1)) M1 L Q := by
    intro Q M1 hI1 hT1 h0 h
    refine u_set1 hI1 h256 (fun M2 hF2 hI2 => ?_)
    rw [sGu_back] at hI2
    have e : sG (sGu s 1 (sdf (sG s 1) (2 ^ c))) 1 = sdf (sG s 1) (2 ^ c) := fup_s s.2.1 1 _
    rw [e]
    exact h M2 ⟨hI2, hT1.kp hF2, (hF2 74 0 (cKp_o (by decide))).trans h0⟩
  have s10 : sG (sGu s 1 (sdf (sG s 1) (2 ^ c))) 0 = sG s 0 := fup_n (f := s.2.1) (x := 1) (v := sdf (sG s 1) (2 ^ c)) (y := 0) (by decide)
  have s11 : sG (sGu s 1 (sdf (sG s 1) (2 ^ c))) 1 = sdf (sG s 1) (2 ^ c) := fup_s s.2.1 1 _
  rcases h8 with ⟨hw, rfl⟩ | ⟨hw, rfl⟩
  · have cI := fin_of hS hw
    have hW := s_wok hS ha hb cI
    refine u_heard hG.1 ha hb hab (fun _ _ M1 hF1 => ?_) (fun e => absurd hw e)
    have G1 := hG.scr hF1
    refine u_set1 G1.1 hsd (fun M2 hF2 hI2 => br_t rfl (br_f (nI_pos (by have := hS.2.2.1.2; omega)) ?_))
    have hT2 := G1.2.1.kp hF2
    have h02 := (hF2 74 0 (cKp_o (by decide))).trans G1.2.2
    refine u_heard hI2 ha hb hab (fun _ _ M3 hF3 => ?_) (fun e => absurd (show lab (sH s) (Int32.ofInt 0) b a / 16 ≤ sG (sGu s 1 (sdf (sG s 1) (2 ^ c))) 0 by rw [s10]; exact hw) e)
    rw [s11]
    have hlt := (hvn_eq (h := sH s) (bar := Int32.ofInt 0) (D := lab (sH s) (Int32.ofInt 0) b) (x := a) (m := lab (sH s) (Int32.ofInt 0) b a % 16) h256 hW.2.2 _ (Nat.le_refl _)).2
    refine br_t (sdf_z (by omega) (hvn_mono (fun r hr => ?_) _)) (hback (hI2.scr hF3) (hT2.scr hF3) ((hF3 74 0 (cScr_hi (by decide))).trans h02) (fun M4 G4 => br_t rfl (kk M4 G4)))
    rw [sdf_bit (by omega), Bool.and_eq_true] at hr
    exact hr.1
  · refine u_heard hG.1 ha hb hab (fun e => absurd e hw) (fun _ M1 hF1 => ?_)
    have G1 := hG.scr hF1
    refine u_set1 G1.1 hsd (fun M2 hF2 hI2 => br_t rfl (br_t (by decide) ?_))
    exact hback hI2 (G1.2.1.kp hF2) ((hF2 74 0 (cKp_o (by decide))).trans G1.2.2) (fun M4 G4 => br_t rfl (kk M4 G4))
theorem l294 {f : Nat} {v8 : Int32} {M : Mem} (ha : a < 8) (hb : b < 8) (hab : a ≠ b) (h8 : V8 s a b v8) (hG : GD s pd r0 M) (kk : ∀ M1, GD s pd r0 M1 → C76 (nI n) (nI (sG s 1)) (nI (S + dc (sH s) (Int32.ofInt 0) (sG s 0) a b)) (nI a) (nI b + Int32.ofInt 1) M1 L) :
    PL_L_law_294 sc KL C66 C76 (f + 1) (nI n) (nI (sG s 1)) (nI S) (nI a) (nI b) v8 M L := by
  have hS := hG.1.1
  have hc60 := hS.2.2.1.2
  unfold PL_L_law_294
  dsimp only
  refine u_far hG.1 ha hb hab (fun M1 hF1 => ?_)
  have G1 := hG.scr hF1
  rw [nI_add, show Int32.ofInt 8 * nI a + nI b + Int32.ofInt 70 = nI (8 * a + b + 70) by rw [e8]; exact nI_add _ 70]
  obtain ⟨c, hc, ec⟩ := cell_in sc (k := 8 * a + b + 70) (n := 8) (by omega) (by decide) (by decide)
  rw [show Int32.ofInt 8 = nI 8 from rfl, ec]
  have fin : ∀ M2, GD s pd r0 M2 → PL_L_law_395 sc KL C66 C76 100000 (nI n) (nI (sG s 1)) (nI (S + dc (sH s) (Int32.ofInt 0) (sG s 0) a b)) (nI a) (nI b) v8 (nI c) M2 L := fun M2 G2 => l395 (f := 99999) ha hb hab hc h8 G2 kk
  refine ⟨cell_ok (by omega) (by decide) (by decide), pk_eq c a (fun _ => fin M1 G1) (fun ca => pk_eq c b (fun _ => fin M1 G1) (fun cb => br_c (fun _ => fin M1 G1) (fun cv => ?_)))⟩
  have d1 := dc_99 (bar := Int32.ofInt 0) hS.1 hc60 c ha
  have d2 := dc_99 (bar := Int32.ofInt 0) hS.1 hc60 b hc
  refine u_far G1.1 ha hc (fun e => ca e.symm) (fun M2 hF2 => pk_le 99 (dc (sH s) (Int32.ofInt 0) (sG s 0) a c) (fun _ => fin M2 (G1.scr hF2)) (fun l1 => ?_) rfl rfl (by decide) (by omega))
  have G2 := G1.scr hF2
  refine u_far G2.1 hc hb cb (fun M3 hF3 => pk_le 99 (dc (sH s) (Int32.ofInt 0) (sG s 0) c b) (fun _ => fin M3 (G2.scr hF3)) (fun l2 => ?_) rfl rfl (by decide) (by omega))
  have G3 := G2.scr hF3
  refine u_far G3.1 ha hc (fun e => ca e.symm) (fun M4 hF4 => ?_)
  have G4 := G3.scr hF4
  refine u_far G4.1 hc hb cb (fun M5 hF5 => ?_)
  have G5 := G4.scr hF5
  rw [nI_add]
  rcases h8 with ⟨hw, rfl⟩ | ⟨hw, rfl⟩
  · refine br_t (nI_le ?_ (by omega)) (fin M5 G5)
    have tri := dv_tri (bar := Int32.ofInt 0) (z := b) hS.1 ha hc
    rw [dv_lo (fin_of hS hw)] at tri
    have c1 : dc (sH s) (Int32.ofInt 0) (sG s 0) a c = dv (sH s) (Int32.ofInt 0) a c := by
      unfold dc cut at l1 ⊢
      split at l1
      · next h => rw [if_pos h]
      · omega
    have c2 : dc (sH s) (Int32.ofInt 0) (sG s 0) c b = dv (sH s) (Int32.ofInt 0) c b := by
      unfold dc cut at l2 ⊢
      split at l2
      · next h => rw [if_pos h]
      · omega
    omega
  · exact absurd (by decide) cv
theorem l269 {f : Nat} {v8 : Int32} {M : Mem} (ha : a < 8) (hb : b < 8) (hab : a ≠ b) (h8 : V8 s a b v8) (hG : GD s pd r0 M) (kk : ∀ M1, GD s pd r0 M1 → C76 (nI n) (nI (sG s 1)) (nI (S + dc (sH s) (Int32.ofInt 0) (sG s 0) a b)) (nI a) (nI b + Int32.ofInt 1) M1 L) :
    PL_L_law_269 sc KL C66 C76 (f + 1) (nI n) (nI (sG s 1)) (nI S) (nI a) (nI b) v8 M L := by
  have hS := hG.1.1
  have hc60 := hS.2.2.1.2
  unfold PL_L_law_269
  dsimp only
  refine u_far hG.1 ha hb hab (fun M1 hF1 => ?_)
  have fin := l294 (sc := sc) (L := L) (f := 99999) (C66 := C66) ha hb hab h8 (hG.scr hF1) kk
  rcases h8 with ⟨hw, rfl⟩ | ⟨hw, rfl⟩
  · rw [(dc_way hS).1 hw]
    exact br_t (nI_pos' (by omega)) (br_t rfl fin)
  · rw [(dc_way hS).2 hw]
    exact br_f (by decide) (br_t rfl fin)
/-- no way: nothing is walked -/
theorem l225n {f : Nat} {v10 v11 : Int32} {M : Mem} (ha : a < 8) (hb : b < 8) (hab : a ≠ b) (hw : ¬ lab (sH s) (Int32.ofInt 0) b a / 16 ≤ sG s 0) (hG : GD s pd r0 M) (kk : ∀ M1, GD s pd r0 M1 → C76 (nI n) (nI (sG s 1)) (nI (S + dc (sH s) (Int32.ofInt 0) (sG s 0) a b)) (nI a) (nI b + Int32.ofInt 1) M1 L) :
    PL_L_law_225 sc KL C66 C76 (f + 1) (nI n) (nI (sG s 1)) (nI S) (nI a) (nI b) (Int32.ofInt (-6)) v10 v11 M L := by
  unfold PL_L_law_225
  dsimp only
  exact br_t (by decide) (l269 (f := 99999) ha hb hab (Or.inr ⟨hw, rfl⟩) hG kk)
theorem hvn_end {h : Hse} {bar : Int32} {D : Nat → Nat} {x m sto : Nat} : ∀ i, (hvn h bar D x m sto i).testBit (rm h bar D x m) = true := by
  intro i
  induction i with
  | zero => rw [hvn, Nat.testBit_two_pow_self]
  | succ i ih =>
    rw [hvn, Nat.testBit_or, Bool.or_eq_true]
    refine Or.inl ?_
    split
    · rw [Nat.testBit_or, ih]; rfl
    · exact ih
theorem l225w {f : Nat} {M : Mem} (ha : a < 8) (hb : b < 8) (hab : a ≠ b) (h20 : sG s 0 = 20) (hw : lab (sH s) (Int32.ofInt 0) b a / 16 ≤ sG s 0) (hG : GD s pd r0 M) (kk : ∀ M1, GD s pd r0 M1 → C76 (nI n) (nI (sG s 1)) (nI (S + dc (sH s) (Int32.ofInt 0) (sG s 0) a b)) (nI a) (nI b + Int32.ofInt 1) M1 L) :
    PL_L_law_225 sc KL C66 C76 (f + 1) (nI n) (nI (sG s 1)) (nI S) (nI a) (nI b) (nI (lab (sH s) (Int32.ofInt 0) b a / 16)) (nI b) (nI (20 - lab (sH s) (Int32.ofInt 0) b a / 16)) M L := by
  have hS := hG.1.1
  have cI := fin_of hS hw
  have hW := s_wok hS ha hb cI
  rw [h20] at hw
  unfold PL_L_law_225
  dsimp only
  refine br_f (nI_pos (by omega)) (br_t rfl (br_t ?_ (br_f (nI_pos (by omega)) ?_)))
  · rw [show Int32.ofInt 20 = nI 20 from rfl, pk_sub (by omega), show 20 - (20 - lab (sH s) (Int32.ofInt 0) b a / 16) = lab (sH s) (Int32.ofInt 0) b a / 16 by omega]
  · refine u_heard hG.1 ha hb hab (fun _ _ M1 hF1 => br_t ?_ (l269 (f := 99999) ha hb hab (Or.inl ⟨by rw [h20]; exact hw, rfl⟩) (hG.scr hF1) kk)) (fun e => absurd (by rw [h20]; exact hw) e)
    have hlt := (hvn_eq (h := sH s) (bar := Int32.ofInt 0) (D := lab (sH s) (Int32.ofInt 0) b) (x := a) (m := lab (sH s) (Int32.ofInt 0) b a % 16) hS.2.2.2.1 hW.2.2 _ (Nat.le_refl _)).2
    have hrm := (rm_in hS.1 (lab_is hS.1 (Int32.ofInt 0) b) hb ha cI _ (Nat.le_refl _)).2.2.2.2.mpr rfl
    have hbit := hvn_end (h := sH s) (bar := Int32.ofInt 0) (D := lab (sH s) (Int32.ofInt 0) b) (x := a) (m := lab (sH s) (Int32.ofInt 0) b a % 16) (sto := sG s 1) (lab (sH s) (Int32.ofInt 0) b a % 16)
    rw [hrm] at hbit
    rw [show Int32.ofInt 1 = nI 1 from rfl, bit_at (by omega) (by omega), if_pos hbit]
end LAWD
