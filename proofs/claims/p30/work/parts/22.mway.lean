/-! ===== the model's ways ===== -/
def cOff : Nat → Nat → Bool := fun p _ => Nat.beq p 85
def cMw : Nat → Nat → Bool := fun p i => Nat.beq p 85 || (Nat.beq p 86 || (Nat.beq p 87 || (Nat.beq p 74 && (Nat.beq i 20 || Nat.beq i 21))))
def cM2 : Nat → Nat → Bool := fun p i => Nat.beq p 86 || (Nat.beq p 87 || (Nat.beq p 74 && Nat.beq i 20))
theorem cOff_Mw {M M1 : Mem} (h : Fr cOff M M1) : Fr cMw M M1 := h.mono (fun p i hq => by
  unfold cMw at hq; unfold cOff; revert hq; cases Nat.beq p 85 <;> simp)
theorem cM2_Mw {M M1 : Mem} (h : Fr cM2 M M1) : Fr cMw M M1 := h.mono (fun p i hq => by
  unfold cMw at hq; unfold cM2; revert hq; cases Nat.beq p 85 <;> cases Nat.beq p 86 <;> cases Nat.beq p 87 <;> cases Nat.beq p 74 <;> cases Nat.beq i 20 <;> simp)
theorem neg6 : Int32.ofInt (-6) < (0 : Int32) := by decide
theorem fre_01 (x : Int32) : x &&& nI 1 = nI 0 ∨ x &&& nI 1 = nI 1 := by
  obtain ⟨j, h1, h2⟩ := pk_andE x (m := nI 1) 1 (by decide)
  have e : j = 0 ∨ j = 1 := by omega
  rcases e with rfl | rfl
  · exact Or.inl h2
  · exact Or.inr h2
section MWY
variable {M : Mem} {h : Hse} {bar : Int32} {L : LMem}
end MWY
section MOF
variable {M0 : Mem} {h : Hse} {bar : Int32} {L : LMem} {to : Nat} {K : Mem → LMem → Prop}
end MOF
section MLW
variable {M0 : Mem} {h : Hse} {bar : Int32} {L : LMem} {to : Nat} {K : Int32 → Mem → LMem → Prop} {D : Nat → Nat}
def MT (M : Mem) (h : Hse) (bar : Int32) (D : Nat → Nat) (x i : Nat) : Prop := M 74 20 = nI i ∧ (∀ j, j < i → M 86 j = nI (tb h bar D x j)) ∧ ∀ j, j ≤ i → M 87 j = nI (rm h bar D x j)
end MLW

