/-! ===== the day's fault ===== -/
def okd (pd : Nat → Nat) (st k i : Nat) : Bool := if st = 0 then Nat.blt k 20 && (ltr (pd i) || Nat.beq (pd i) 46) else if st = 1 then ltr (pd i) && !(Nat.beq (pd i) (pd (i - 1))) else dgt (pd i)
def nst (pd : Nat → Nat) (st i : Nat) : Nat := if st = 0 then (if pd i = 46 then 2 else 1) else if st = 1 then 2 else 0
def nkd (st k : Nat) : Nat := if st = 0 then k + 1 else k
def dfm (np : Nat) (pd : Nat → Nat) : Nat → Nat → Nat → Nat → Int32
  | 0, st, _, _ => if st = 0 then Int32.ofInt (-6) else nI np
  | f + 1, st, k, i => if okd pd st k i = true then dfm np pd f (nst pd st i) (nkd st k) (i + 1) else nI i
section DAYF
variable {M : Mem} {np : Nat} {pd : Nat → Nat}
theorem dfm_ok {st k i : Nat} (h : i < np) (hk : okd pd st k i = true) : dfm np pd (np - i) st k i = dfm np pd (np - (i + 1)) (nst pd st i) (nkd st k) (i + 1) := by
  rw [show np - i = (np - (i + 1)) + 1 by omega, dfm, if_pos hk]
theorem dfm_no {st k i : Nat} (h : i ≤ np) (h2 : st ≠ 0 ∨ i < np) (hk : ¬ (i < np ∧ okd pd st k i = true)) : dfm np pd (np - i) st k i = nI i := by
  by_cases c : i < np
  · rw [show np - i = (np - (i + 1)) + 1 by omega, dfm, if_neg (fun e => hk ⟨c, e⟩)]
  · have e : i = np := by omega
    subst e
    rw [Nat.sub_self, dfm, if_neg (by omega)]
theorem dfm_end {k i : Nat} (h : i = np) : dfm np pd (np - i) 0 k i = Int32.ofInt (-6) := by
  subst h
  rw [Nat.sub_self, dfm, if_pos rfl]
theorem okd_dot {k i : Nat} (h : k < 20) (h2 : pd i = 46) : okd pd 0 k i = true ∧ nst pd 0 i = 2 ∧ nkd 0 k = k + 1 := by
  refine ⟨?_, ?_, rfl⟩
  · unfold okd
    rw [if_pos rfl, show Nat.blt k 20 = true from Nat.ble_eq_true_of_le h, h2]; rfl
  · unfold nst
    rw [if_pos rfl, if_pos h2]
theorem okd_ltr {k i : Nat} (h : k < 20) (h2 : ltr (pd i) = true) : okd pd 0 k i = true ∧ nst pd 0 i = 1 ∧ nkd 0 k = k + 1 := by
  refine ⟨?_, ?_, rfl⟩
  · unfold okd
    rw [if_pos rfl, show Nat.blt k 20 = true from Nat.ble_eq_true_of_le h, h2]; rfl
  · unfold nst
    rw [if_pos rfl, if_neg (fun e => by rw [e] at h2; exact absurd h2 (by decide))]
theorem okd_oth {k i : Nat} (h2 : (ltr (pd i) && !(Nat.beq (pd i) (pd (i - 1)))) = true) : okd pd 1 k i = true ∧ nst pd 1 i = 2 ∧ nkd 1 k = k := by
  refine ⟨?_, rfl, rfl⟩
  unfold okd
  rw [if_neg (by decide), if_pos rfl]; exact h2
theorem okd_dgt {k i : Nat} (h2 : dgt (pd i) = true) : okd pd 2 k i = true ∧ nst pd 2 i = 0 ∧ nkd 2 k = k := by
  refine ⟨?_, rfl, rfl⟩
  unfold okd
  rw [if_neg (by decide), if_neg (by decide)]; exact h2
theorem dfm_dot {k i : Nat} (hi : i < np) (h : k < 20) (h2 : pd i = 46) : dfm np pd (np - i) 0 k i = dfm np pd (np - (i + 1)) 2 (k + 1) (i + 1) := by
  obtain ⟨h3, h4, h5⟩ := okd_dot h h2
  rw [dfm_ok hi h3, h4, h5]
theorem dfm_ltr {k i : Nat} (hi : i < np) (h : k < 20) (h2 : ltr (pd i) = true) : dfm np pd (np - i) 0 k i = dfm np pd (np - (i + 1)) 1 (k + 1) (i + 1) := by
  obtain ⟨h3, h4, h5⟩ := okd_ltr h h2
  rw [dfm_ok hi h3, h4, h5]
theorem dfm_oth {k i : Nat} (hi : i < np) (h2 : (ltr (pd i) && !(Nat.beq (pd i) (pd (i - 1)))) = true) : dfm np pd (np - i) 1 k i = dfm np pd (np - (i + 1)) 2 k (i + 1) := by
  obtain ⟨h3, h4, h5⟩ := okd_oth (k := k) h2
  rw [dfm_ok hi h3, h4, h5]
theorem dfm_dgt {k i : Nat} (hi : i < np) (h2 : dgt (pd i) = true) : dfm np pd (np - i) 2 k i = dfm np pd (np - (i + 1)) 0 k (i + 1) := by
  obtain ⟨h3, h4, h5⟩ := okd_dgt (k := k) h2
  rw [dfm_ok hi h3, h4, h5]
theorem dfm_d0 {k i : Nat} (hi : i ≤ np) (h2 : dgt (sg np pd i) = false) : dfm np pd (np - i) 2 k i = nI i := by
  refine dfm_no hi (Or.inl (by decide)) (fun e => ?_)
  obtain ⟨e1, e2⟩ := e
  unfold okd at e2
  rw [if_neg (by decide), if_neg (by decide)] at e2
  rw [sg_in e1, e2] at h2
  exact Bool.false_ne_true h2.symm
theorem dfm_o0 {k i : Nat} (hi : i + 1 ≤ np) (h2 : (ltr (sg np pd (i + 1)) && !(Nat.beq (sg np pd (i + 1)) (sg np pd i))) = false) : dfm np pd (np - (i + 1)) 1 k (i + 1) = nI (i + 1) := by
  refine dfm_no hi (Or.inl (by decide)) (fun e => ?_)
  obtain ⟨e1, e2⟩ := e
  unfold okd at e2
  rw [if_neg (by decide), if_pos rfl, Nat.add_sub_cancel] at e2
  rw [sg_in e1, sg_in (i := i) (by omega), e2] at h2
  exact Bool.false_ne_true h2.symm
theorem dgt_in {i : Nat} (h : dgt (sg np pd i) = true) : i < np ∧ dgt (pd i) = true := by
  have c : i < np := by
    rcases Nat.lt_or_ge i np with e | e
    · exact e
    · rw [sg_out (by omega)] at h; exact absurd h (by decide)
  rw [sg_in c] at h
  exact ⟨c, h⟩
theorem hl_dayFault (hP : PdO M np pd) {L : LMem} {K : Int32 → Mem → LMem → Prop} (kk : K (dfm np pd np 0 0 0) M L) :
    ∀ (f k i : Nat), k ≤ 20 → 20 < f + k → i ≤ np → dfm np pd np 0 0 0 = dfm np pd (np - i) 0 k i → PL_X5_dayFault_4 K f (nI i) (nI k) M L := by
  intro f
  induction f with
  | zero => intro k i h1 h2; omega
  | succ f ih =>
    intro k i h1 h2 h3 h4
    have p60 := hP.2.2.1
    rw [h4] at kk
    unfold PL_X5_dayFault_4
    refine pk_le 20 k (fun c => ?_) (fun c => ?_)
    · refine pk_le np i (fun c2 => ?_) (fun c2 => ?_) hP.1
      · rw [dfm_end (by omega)] at kk; exact kk
      · rw [dfm_no h3 (Or.inr c2) (fun e => ?_)] at kk
        · exact kk
        · have e2 := e.2
          unfold okd at e2
          rw [if_pos rfl, show Nat.blt k 20 = false from nlf (by omega)] at e2
          exact Bool.false_ne_true e2
    · refine pk_le np i (fun c2 => ?_) (fun c2 => ?_) hP.1
      · rw [dfm_end (by omega)] at kk; exact kk
      · have s0 := sg_in (pd := pd) c2
        have b126 := sg_lt hP i
        have e1 : nI i + Int32.ofInt 1 = nI (i + 1) := nI_add _ 1
        have e2 : nI i + Int32.ofInt 2 = nI (i + 2) := nI_add _ 2
        have e3 : nI (i + 1) + Int32.ofInt 1 = nI (i + 2) := nI_add _ 1
        have e4 : nI (i + 2) + Int32.ofInt 1 = nI (i + 3) := nI_add _ 1
        have e5 : nI k + Int32.ofInt 1 = nI (k + 1) := nI_add _ 1
        rw [sign_at hP (by omega), e1, e2, e3, e4, e5]
        refine pk_eq (sg np pd i) 46 (fun c3 => ?_) (fun c3 => ?_) rfl rfl (by omega)
        · rw [s0] at c3
          have f1 := dfm_dot c2 c c3
          refine br_b (digit_at hP (by omega)) (fun b => ?_) (fun b => ?_)
          · obtain ⟨d1, d2⟩ := dgt_in b
            exact ih (k + 1) (i + 2) (by omega) (by omega) (by omega) (h4.trans (f1.trans (dfm_dgt d1 d2)))
          · rw [f1, dfm_d0 (by omega) b] at kk; exact kk
        · refine br_b (room_at hP (by omega)) (fun b => ?_) (fun b => ?_)
          · rw [s0] at b
            have f1 := dfm_ltr c2 c b
            refine br_b (other_at hP (by omega) (by omega)) (fun b2 => ?_) (fun b2 => ?_)
            · have c4 : i + 1 < np := by
                rcases Nat.lt_or_ge (i + 1) np with e | e
                · exact e
                · rw [sg_out (i := i + 1) (by omega)] at b2; exact absurd b2 (by rw [show ltr 0 = false from rfl, Bool.false_and]; exact Bool.false_ne_true)
              rw [sg_in c4, s0] at b2
              have f2 := f1.trans (dfm_oth (k := k + 1) c4 (by rw [Nat.add_sub_cancel]; exact b2))
              refine br_b (digit_at hP (by omega)) (fun b3 => ?_) (fun b3 => ?_)
              · obtain ⟨d1, d2⟩ := dgt_in b3
                exact ih (k + 1) (i + 3) (by omega) (by omega) (by omega) (h4.trans (f2.trans (dfm_dgt d1 d2)))
              · rw [f2, dfm_d0 (by omega) b3] at kk; exact kk
            · rw [f1, dfm_o0 (by omega) b2] at kk; exact kk
          · rw [dfm_no h3 (Or.inr c2) (fun e => ?_)] at kk
            · exact kk
            · have e2 := e.2
              unfold okd at e2
              rw [s0] at b c3
              rw [if_pos rfl, b, nbf c3, Bool.or_false, Bool.and_false] at e2
              exact Bool.false_ne_true e2
theorem h_dayFault (hP : PdO M np pd) {L : LMem} {K : Int32 → Mem → LMem → Prop} (kk : K (dfm np pd np 0 0 0) M L) : P_X5_dayFault M L K := by
  unfold P_X5_dayFault
  exact hl_dayFault hP kk 100000 0 0 (by omega) (by omega) (by omega) rfl
theorem dfm_all : ∀ (f i st k : Nat), i + f = np → (∃ k', k' ≤ np ∧ dfm np pd f st k i = nI k') ∨ dfm np pd f st k i = Int32.ofInt (-6) := by
  intro f
  induction f with
  | zero =>
    intro i st k h
    by_cases c : st = 0
    · exact Or.inr (by rw [dfm, if_pos c])
    · exact Or.inl ⟨np, Nat.le_refl _, by rw [dfm, if_neg c]⟩
  | succ f ih =>
    intro i st k h
    by_cases c : okd pd st k i = true
    · have e : dfm np pd (f + 1) st k i = dfm np pd f (nst pd st i) (nkd st k) (i + 1) := by rw [dfm, if_pos c]
      rw [e]
      exact ih (i + 1) _ _ (by omega)
    · exact Or.inl ⟨i, by omega, by rw [dfm, if_neg c]⟩
end DAYF
