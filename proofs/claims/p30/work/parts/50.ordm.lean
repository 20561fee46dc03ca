/-! ===== the model: one order, minute by minute ===== -/
section ORM
variable {s : Stt} {np : Nat} {pd : Nat → Nat} {L : LMem} {p : Nat → Nat}
theorem oT_q (hS : SOK s) {c t : Nat} (hc : c < sG s 2) (ht : (oT s c).testBit t = true) : t < qn (sH s) := by
  have h := hS.2.2.2.2.2.2.2.2 c hc
  have : oT s c < 2 ^ qn (sH s) := by
    unfold oT wm
    split
    · next c1 => exact wbn_lt _ (s_wok hS h.1 h.2.1 (fin_of hS c1)).2.1
    · exact Nat.two_pow_pos _
  rcases Nat.lt_or_ge t (qn (sH s)) with e | e
  · exact e
  · rw [Nat.testBit_lt_two_pow (Nat.lt_of_lt_of_le this (Nat.pow_le_pow_right (by decide) e))] at ht
    exact absurd ht Bool.false_ne_true
theorem oR_bit (s : Stt) (c r : Nat) : (oR s c).testBit r = true ↔ r = sC s 0 c ∨ r = sC s 1 c := by
  unfold oR
  rw [Nat.testBit_or, Bool.or_eq_true, Nat.testBit_two_pow, Nat.testBit_two_pow, decide_eq_true_iff, decide_eq_true_iff]
  exact ⟨fun h => h.elim (fun e => Or.inl e.symm) (fun e => Or.inr e.symm), fun h => h.elim (fun e => Or.inl e.symm) (fun e => Or.inr e.symm)⟩
theorem oR_and (s : Stt) (c a : Nat) : oR s c &&& a ≠ 0 ↔ a.testBit (sC s 0 c) = true ∨ a.testBit (sC s 1 c) = true := by
  rw [ne0_bit]
  constructor
  · intro ⟨t, ht⟩
    rw [Nat.testBit_and, Bool.and_eq_true, oR_bit] at ht
    rcases ht with ⟨h | h, h2⟩
    · exact Or.inl (h ▸ h2)
    · exact Or.inr (h ▸ h2)
  · intro h
    rcases h with h | h
    · exact ⟨_, by rw [Nat.testBit_and, (oR_bit s c _).mpr (Or.inl rfl), h]; rfl⟩
    · exact ⟨_, by rw [Nat.testBit_and, (oR_bit s c _).mpr (Or.inr rfl), h]; rfl⟩
/-- rooms, once, twice: those of the first i that go on at minute m -/
def fR (s : Stt) (p : Nat → Nat) (m i a : Nat) : Prop := a < 256 ∧ ∀ r, a.testBit r = true ↔ ∃ j, j < i ∧ act s p (sts s p) j m ∧ (oR s (p j)).testBit r = true
def fO (s : Stt) (p : Nat → Nat) (m i b : Nat) : Prop := b < 4096 ∧ ∀ t, b.testBit t = true ↔ ∃ j, j < i ∧ act s p (sts s p) j m ∧ (oT s (p j)).testBit t = true
def twi (s : Stt) (p : Nat → Nat) (m i t : Nat) : Prop := ∃ j j', j' < j ∧ j < i ∧ act s p (sts s p) j m ∧ act s p (sts s p) j' m ∧ (oT s (p j)).testBit t = true ∧ (oT s (p j')).testBit t = true
def fT (s : Stt) (p : Nat → Nat) (m i c : Nat) : Prop := c < 4096 ∧ ∀ t, c.testBit t = true ↔ twi s p m i t
/-! one call after the other -/
def c103 : Nat → Nat → Bool := fun p _ => Nat.beq p 103
theorem WYm.fr {M M1 : Mem} {k : Nat} (h : WYm M s k) (h1 : ∀ p i, 99 ≤ p → p ≤ 101 → M1 p i = M p i) : WYm M1 s k := fun c hc => by
  obtain ⟨a1, a2, a3⟩ := h c hc
  exact ⟨(h1 _ _ (by omega) (by omega)).trans a1, (h1 _ _ (by omega) (by omega)).trans a2, fun j hj => (h1 _ _ (by omega) (by omega)).trans (a3 j hj)⟩
theorem c103_lo {M M1 : Mem} (h : Fr c103 M M1) {p i : Nat} (hp : p ≤ 102) : M1 p i = M p i := h p i (nbf (by omega))
end ORM

