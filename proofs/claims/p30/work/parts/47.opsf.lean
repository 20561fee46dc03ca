/-! ===== the model goes through a day; judge, day, knows ===== -/
section MGO
variable {s : Stt} {A : DA} {L : LMem} {np : Nat} {pd : Nat → Nat}
theorem knq_0 {z : Nat} {Q : Nat → Prop} (hS : SOK s) {r : Nat} (hr : r < 8) : knq s dA0 z Q r = sN s r := by
  have h256 := hS.2.2.2.2.2.2.2.1 r hr
  refine Nat.eq_of_testBit_eq (fun b => ?_)
  unfold knq
  rw [mk_bit]
  by_cases c : b < 8
  · rw [decide_eq_true c, Bool.true_and]
    cases e : (sN s r).testBit b with
    | true => exact bdec_t (Or.inl rfl)
    | false => exact bdec_f (fun h => h.elim (fun h => absurd h Bool.false_ne_true) (fun ⟨c, c1, _⟩ => Nat.not_lt_zero c c1))
  · rw [decide_eq_false c, bit_hi (n := 8) h256 (by omega)]; rfl
theorem DOK_0 : DOK s dA0 0 := ⟨Nat.zero_le _, Nat.le_refl _, Nat.zero_le _, fun c hc => absurd hc (Nat.not_lt_zero c)⟩
theorem h_run {M0 : Mem} {z sto : Nat} (hS : SOK s) (hsto : sto < 256) (hz : (z = 3 ∧ sto = sG s 1) ∨ (z = 5 ∧ sto = 0)) (hI : INVs M0 s np pd) (hdf : dfm np pd np 0 0 0 = Int32.ofInt (-6)) {K : Mem → LMem → Prop} (R : DA × Nat) (hR : R = dX s np pd 100 0 dA0) (kk : ∀ M, Fr cDy M0 M → DEnd M s z R → K M L) : P_X0_run (nI sto) M0 L K := by
  have p60 := hI.2.2.2.1.2.2.1
  unfold P_X0_run
  rw [tn0, tn8]
  have mcF : Fr cDy M0 (mcpy M0 9 48 0 0 8) := fun p i hp => mc_o (fun e => by subst e; exact nomatch (show true = false from hp))
  refine hl_run hS hsto hz hI R kk 100000 0 0 100 dA0 _ (by omega) (by omega) (by omega) (by omega) ((((((mcF.put rfl).put rfl).put rfl).put rfl).put rfl).put rfl) DOK_0 ⟨?_, ?_, ?_, ?_, ?_, fun c hc => absurd hc (Nat.not_lt_zero c), fun r hr => ?_⟩ (mp_s _ _ _ _) hdf hR
  · simp (discharger := decide) only [mp_i, mp_s]; rfl
  · simp (discharger := decide) only [mp_i, mp_s]; rfl
  · simp (discharger := decide) only [mp_i, mp_s]; rfl
  · simp (discharger := decide) only [mp_i, mp_s]; rfl
  · simp (discharger := decide) only [mp_i, mp_s]; rfl
  · simp (discharger := decide) only [mp_p]
    rw [mc_in hr, hI.2.1.kno r hr, knq_0 hS hr]
end MGO
theorem dX_le (s : Stt) (np : Nat) (pd : Nat → Nat) : ∀ f i A, (dX s np pd f i A).2 ≤ 4 := by
  intro f
  induction f with
  | zero => intro i A; exact Nat.zero_le _
  | succ f ih =>
    intro i A
    rw [dX]
    split
    · split
      · exact ih _ _
      · split
        · exact ih _ _
        · exact dwhy_le _ _
    · exact Nat.zero_le _
