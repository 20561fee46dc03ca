/-! ===== the model's day ===== -/
theorem bit_1 {B t : Nat} (hB : B < 2 ^ 31) (ht : t < 32) {X Y : Prop} (f : B.testBit t = true → X) (g : B.testBit t = false → Y) : ((nI B >>> (nI t &&& 31)) &&& nI 1 = nI 1 → X) ∧ (¬ (nI B >>> (nI t &&& 31)) &&& nI 1 = nI 1 → Y) := by
  rw [bit_at hB ht]
  cases b : B.testBit t with
  | true => exact br_t rfl (f b)
  | false => exact br_f (by decide) (g b)
section TEL
variable {s : Stt} {A : DA} {L : LMem} {K : Mem → LMem → Prop}
def cTl : Nat → Nat → Bool := fun p _ => Nat.beq p 96 || (Nat.beq p 97 || Nat.beq p 98)
end TEL
section MWH
variable {s : Stt} {A : DA} {L : LMem} {np : Nat} {pd : Nat → Nat} {Q : Nat → Prop}
/-- how many going on hold a tube -/
def dcb (A : DA) (b : Nat) : Nat → Nat := cnt (fun c => Nat.blt (dt A) (dF A 0 c) && (dF A 2 c).testBit b)
theorem dcb_bits (b : Nat) : ∀ j, ((don A j).testBit b = true ↔ 1 ≤ dcb A b j) ∧ ((dtw A j).testBit b = true ↔ 2 ≤ dcb A b j) := by
  intro j
  induction j with
  | zero =>
    rw [don, dtw, Nat.zero_testBit, show dcb A b 0 = 0 from rfl]
    exact ⟨⟨fun h => absurd h Bool.false_ne_true, fun h => by omega⟩, ⟨fun h => absurd h Bool.false_ne_true, fun h => by omega⟩⟩
  | succ j ih =>
    obtain ⟨h1, h2⟩ := ih
    have es : dcb A b (j + 1) = dcb A b j + (if (Nat.blt (dt A) (dF A 0 j) && (dF A 2 j).testBit b) = true then 1 else 0) := rfl
    rw [don, dtw, es]
    by_cases c : dt A < dF A 0 j
    · rw [if_pos c, if_pos c, show Nat.blt (dt A) (dF A 0 j) = true from Nat.ble_eq_true_of_le c, Bool.true_and, Nat.testBit_or, Nat.testBit_or, Nat.testBit_and, Bool.or_eq_true, Bool.or_eq_true, Bool.and_eq_true, h1, h2]
      cases e : (dF A 2 j).testBit b with
      | true => rw [if_pos rfl]; constructor <;> constructor <;> intro h <;> simp at h ⊢ <;> omega
      | false => rw [if_neg Bool.false_ne_true]; constructor <;> constructor <;> intro h <;> simp at h ⊢ <;> omega
    · rw [if_neg c, if_neg c, show Nat.blt (dt A) (dF A 0 j) = false from nlf (by omega), Bool.false_and, if_neg Bool.false_ne_true]
      exact ⟨h1, h2⟩
def dcap (h : Hse) (b : Nat) : Nat := if qk h b = 61 then 2 else 1
theorem dfull_mk {i : Nat} (hS : SOK s) (hA : DOK s A i) : mk (fun b => Nat.ble (dcap (sH s) b) (dcb A b (dn A))) (qn (sH s)) = dfull s A := by
  refine Nat.eq_of_testBit_eq (fun b => ?_)
  have hl := don_lt hA (dn A) (Nat.le_refl _)
  have h12 := hS.2.1
  have p12 : 2 ^ qn (sH s) ≤ 2 ^ 12 := Nat.pow_le_pow_right (by decide) h12
  obtain ⟨h1, h2⟩ := dcb_bits (A := A) b (dn A)
  unfold dfull
  rw [mk_bit, Nat.testBit_or, sdf_bit (by omega)]
  by_cases c : b < qn (sH s)
  · rw [decide_eq_true c, Bool.true_and]
    unfold dbl
    rw [mk_bit, decide_eq_true c, Bool.true_and]
    unfold dcap
    by_cases e : qk (sH s) b = 61
    · rw [if_pos e, e, Nat.beq_refl]
      cases k : (dtw A (dn A)).testBit b with
      | true => rw [Nat.ble_eq_true_of_le (h2.mp k)]; simp
      | false =>
        rw [nlf (Nat.lt_of_not_le (fun h => by rw [h2.mpr h] at k; exact absurd k (by decide)))]
        simp
    · rw [if_neg e, nbf e]
      cases k : (don A (dn A)).testBit b with
      | true => rw [Nat.ble_eq_true_of_le (h1.mp k)]; simp
      | false =>
        have hn : ¬ 1 ≤ dcb A b (dn A) := fun h => by rw [h1.mpr h] at k; exact absurd k (by decide)
        rw [nlf (by omega)]
        cases k2 : (dtw A (dn A)).testBit b with
        | true => exact absurd (h2.mp k2) (by omega)
        | false => rfl
  · rw [decide_eq_false c, Bool.false_and, Nat.testBit_lt_two_pow (Nat.lt_of_lt_of_le hl.1 (Nat.pow_le_pow_right (by decide) (by omega))), Nat.testBit_lt_two_pow (Nat.lt_of_lt_of_le hl.2 (Nat.pow_le_pow_right (by decide) (by omega)))]
    rfl
end MWH

