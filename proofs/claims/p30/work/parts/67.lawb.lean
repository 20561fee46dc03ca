/-! ===== the law's body: what the rooms know, the orders, the day ===== -/
section LAWB
variable {sc : SCT} {L : LMem} {s : Stt} {pd : Nat → Nat} {A : DA}
theorem sm_45 (hS : SOK s) : sm (fun c => sC s 2 c) (sG s 2) ≤ 45 := by
  have h5 := hS.2.2.2.2.1
  have h := sm_le (f := fun c => sC s 2 c) (c := 9) (sG s 2) (fun i hi => (hS.2.2.2.2.2.2.2.2 i hi).2.2.2.1.2)
  omega
/-- what is known of the calls that wait, and of the day that is told -/
def DAYS (s : Stt) (pd : Nat → Nat) (A : DA) : Prop := (∀ r b, r < 8 → (sN s r).testBit b = true → b < 2) ∧ DTX s pd ∧ (∀ c, c < sG s 2 → hw s c) ∧ dX s (5 * sG s 2) pd 100 0 dA0 = (A, 0) ∧ DI s A (sG s 2)
def B3 (r0 r B : Nat) : Prop := (∀ b, B.testBit b = true → b < 2) ∧ (r0 < r → B.testBit 0 = true ∧ B.testBit 1 = true) ∧ B < 256
theorem B3_end {r0 B : Nat} (h0 : r0 < 8) (h : B3 r0 8 B) : B = 3 := by
  refine Nat.eq_of_testBit_eq (fun i => ?_)
  obtain ⟨h1, h2⟩ := h.2.1 h0
  match i with
  | 0 => rw [h1]; rfl
  | 1 => rw [h2]; rfl
  | i + 2 =>
    have e : (3 : Nat).testBit (i + 2) = false := bit_hi (n := 2) (by decide) (by omega)
    rw [e]
    cases e2 : B.testBit (i + 2) with
    | false => rfl
    | true => have := h.1 _ e2; omega
theorem l827 {n lg r0 : Nat} (hn : qn (sH s) = n) (h4 : sG s 4 = 0) (hD : DAYS s pd A) (hd : ∀ c, c < sG s 2 → sC s 3 c = 60) (hr0 : r0 < 8) (h3 : sN s r0 = 3) (hlg : ∀ E, (∀ c, c < sG s 2 → sC s 2 c ≤ E) → lg ≤ E) :
    ∀ (f r B : Nat) (M : Mem), r ≤ 8 → 8 < f + r → B3 r0 r B → INVs M s (5 * sG s 2) pd → PL_L_law_827 sc KL f (nI n) (nI B) (nI (5 * sG s 2)) (nI lg) (nI (sm (fun c => sC s 2 c) (sG s 2))) (nI (sG s 2)) (nI r) M L := by
  obtain ⟨hN, hx, hh, hR, hA⟩ := hD
  intro f
  induction f with
  | zero => intro r B M h1 h2; omega
  | succ f ih =>
    intro r B M h1 h2 hB hI
    have hS := hI.1
    have h45 := sm_45 hS
    have h5 := hS.2.2.2.2.1
    have h12 := hS.2.1
    have hlg9 : lg ≤ 9 := hlg 9 (fun c hc => (hS.2.2.2.2.2.2.2.2 c hc).2.2.2.1.2)
    unfold PL_L_law_827
    refine pk_le 8 r (fun c => ?_) (fun c => ?_)
    · have e8 : r = 8 := by omega
      subst e8
      refine u_soon hI hh (fun E M1 L1 hE1 hE2 hF1 => ?_)
      have hI1 := hI.scr hF1
      have hB3 := B3_end hr0 hB
      subst hB3
      refine br_f (nI_pos (by omega)) (br_t rfl (u_wipe hI1 (fun M2 _ hI2 => br_t rfl (br_f (nI_nlt (hlg E hE2) (by omega)) (br_f (nI_nlt hE1 (by omega)) ?_)))))
      exact u_due hI2 hh hd (fun M3 L3 hF3 => br_t rfl (l945 (f := 99999) hn h4 hh (hI2.scr hF3)))
    · have q0 := knq_lt s A 3 (fun _ => True) r
      have q1 := knq_lt s A 5 (fun _ => True) r
      have dn' : dn A = sG s 2 := hA.1
      refine u_know0 hI hx hR c (fun M1 hF1 => u_know1 (hI.scr hF1) hx hR c (fun M2 hF2 => ?_))
      have hI2 := (hI.scr hF1).scr hF2
      refine br_t (sdf_z (by omega) (fun i hi => knq_35 (fun c hc => ⟨(hA.2.2.2.2 c (by omega)).2.1, (hA.2.2.2.2 c (by omega)).2.2.1⟩) hi)) (u_told hI2 c ?_)
      have hn8 := hS.2.2.2.2.2.2.2.1 r c
      refine br_t (sdf_z (by omega) (fun i hi => knq_s (Nat.lt_of_not_le (fun e => by rw [bit_hi (n := 8) hn8 e] at hi; exact Bool.false_ne_true hi)) hi)) ?_
      show PL_L_law_827 sc KL f (nI n) (nI B ||| nI (knq s A 3 (fun _ => True) r)) (nI (5 * sG s 2)) (nI lg) (nI (sm (fun c => sC s 2 c) (sG s 2))) (nI (sG s 2)) (nI r + Int32.ofInt 1) M2 L
      rw [fa_or, nI_s]
      refine ih (r + 1) _ M2 (by omega) (by omega) ⟨fun b hb => ?_, fun hr => ?_, Nat.or_lt_two_pow (n := 8) hB.2.2 q0⟩ hI2
      · rw [Nat.testBit_or, Bool.or_eq_true] at hb
        rcases hb with hb | hb
        · exact hB.1 b hb
        · exact knq_2 c hN (fun c hc => (hA.2.2.2.2 c (by omega)).2.2.2) hb
      · rw [Nat.testBit_or, Nat.testBit_or]
        by_cases e : r0 = r
        · subst e
          have k0 : (knq s A 3 (fun _ => True) r0).testBit 0 = true := knq_s (by decide) (by rw [h3]; rfl)
          have k1 : (knq s A 3 (fun _ => True) r0).testBit 1 = true := knq_s (by decide) (by rw [h3]; rfl)
          rw [k0, k1, Bool.or_true, Bool.or_true]
          exact ⟨rfl, rfl⟩
        · obtain ⟨g0, g1⟩ := hB.2.1 (by omega)
          rw [g0, g1, Bool.true_or, Bool.true_or]
          exact ⟨rfl, rfl⟩
theorem l779 {n lg r0 f : Nat} {M : Mem} (hn : qn (sH s) = n) (h4 : sG s 4 = 0) (hN : ∀ r b, r < 8 → (sN s r).testBit b = true → b < 2) (hx : DTX s pd) (hh : ∀ c, c < sG s 2 → hw s c) (hd : ∀ c, c < sG s 2 → sC s 3 c = 60) (hr0 : r0 < 8) (h3 : sN s r0 = 3) (hlg : ∀ E, (∀ c, c < sG s 2 → sC s 2 c ≤ E) → lg ≤ E) (hI : INVs M s (5 * sG s 2) pd) :
    PL_L_law_779 sc KL (f + 1) (nI n) (nI 0) (nI (sm (fun c => sC s 2 c) (sG s 2))) (nI (5 * sG s 2)) (nI 1) (nI lg) (nI (sm (fun c => sC s 2 c) (sG s 2))) (nI (sG s 2)) M L := by
  obtain ⟨A, hA, hR⟩ := day_law hI.1 hN hx hh
  have h5 := hI.1.2.2.2.2.1
  unfold PL_L_law_779
  dsimp only
  refine br_f one_ne (u_judge hI hx hR (fun M1 hF1 => br_t rfl (u_day0 (hI.scr hF1) hx hR (fun M2 hF2 => ?_))))
  have hI2 := (hI.scr hF1).scr hF2
  have e0 : lsF A (dn A) = sm (fun c => sC s 2 c) (sG s 2) := by rw [hA.1, hA.2.2.2.1, hA.2.1]
  rw [e0]
  refine br_t rfl (u_day1 hI2 hx hR (fun M3 hF3 => ?_))
  have hI3 := hI2.scr hF3
  have fin : PL_L_law_824 sc KL 100000 (nI n) (nI 0) (nI (5 * sG s 2)) (nI lg) (nI (sm (fun c => sC s 2 c) (sG s 2))) (nI (sG s 2)) M3 L :=
    l827 hn h4 ⟨hN, hx, hh, hR, hA⟩ hd hr0 h3 hlg 100000 0 0 M3 (by omega) (by omega) ⟨fun b hb => by rw [Nat.zero_testBit] at hb; exact absurd hb (by decide), fun h => by omega, by decide⟩ hI3
  rw [hA.2.2.1]
  by_cases c : sG s 2 = 0
  · rw [if_pos c]
    exact br_t (by rw [c]; decide) (br_t rfl fin)
  · rw [if_neg c]
    exact br_f (nI_nle (by omega) (by omega)) (br_t rfl fin)
end LAWB
