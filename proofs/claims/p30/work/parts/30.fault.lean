/-! ===== faults ===== -/
def bI (b : Bool) : Int32 := if b = true then nI 1 else nI 0
theorem br_b {b : Bool} {v : Int32} {A B : Prop} (h : v = bI b) (t : b = true → B) (f : b = false → A) : (v = 0 → A) ∧ (¬ v = 0 → B) := by
  subst h
  cases b with
  | true => exact br_1 rfl (t rfl)
  | false => exact br_0 rfl (f rfl)
def ltr (v : Nat) : Bool := Nat.ble 65 v && Nat.ble v 72
def dgt (v : Nat) : Bool := Nat.ble 49 v && Nat.ble v 57
def knd (v : Nat) : Bool := Nat.beq v 45 || (Nat.beq v 62 || (Nat.beq v 126 || (Nat.beq v 61 || Nat.beq v 120)))
theorem wi_b (v a b : Nat) (lo hi : Int32) (hv : v < 2 ^ 31) (hab : a ≤ b := by decide) (hb : b < 2 ^ 31 := by decide) (h1 : lo = nI a := by rfl) (h2 : hi = nI b := by rfl) (M : Mem) : f_X9_within M (nI v) lo hi = bI (Nat.ble a v && Nat.ble v b) := by
  subst h1 h2
  unfold f_X9_within bI
  simp (discharger := omega) only [nI_ltI]
  by_cases c1 : v < a
  · rw [if_pos c1, nlf c1]; rfl
  · by_cases c2 : b < v
    · rw [if_neg c1, if_pos c2, nlf c2, Bool.and_false]; rfl
    · rw [if_neg c1, if_neg c2, Nat.ble_eq_true_of_le (by omega), Nat.ble_eq_true_of_le (by omega)]; rfl
theorem kn_b (v : Nat) (hv : v < 2 ^ 31) (x : Int32) (hx : x = nI v) : (if x = Int32.ofInt 45 then Int32.ofInt 1 else (if x = Int32.ofInt 62 then Int32.ofInt 1 else (if x = Int32.ofInt 126 then Int32.ofInt 1 else (if x = Int32.ofInt 61 then Int32.ofInt 1 else (if x = Int32.ofInt 120 then Int32.ofInt 1 else Int32.ofInt 0))))) = bI (knd v) := by
  subst hx
  simp (discharger := omega) only [oL, nI_eq]
  unfold knd
  by_cases c1 : v = 45
  · subst c1; rfl
  · by_cases c2 : v = 62
    · subst c2; rfl
    · by_cases c3 : v = 126
      · subst c3; rfl
      · by_cases c4 : v = 61
        · subst c4; rfl
        · by_cases c5 : v = 120
          · subst c5; rfl
          · rw [if_neg c1, if_neg c2, if_neg c3, if_neg c4, if_neg c5, nbf c1, nbf c2, nbf c3, nbf c4, nbf c5]; rfl
/-- the sign at a place; 0 behind the last -/
def sg (np : Nat) (pd : Nat → Nat) (i : Nat) : Nat := if i < np then pd i else 0
section PAD
variable {M : Mem} {np : Nat} {pd : Nat → Nat}
theorem sg_lt (hP : PdO M np pd) (i : Nat) : sg np pd i ≤ 126 := by
  unfold sg
  split
  · next h => exact (hP.2.2.2 i h).2.2.2
  · omega
theorem sg_in {i : Nat} (h : i < np) : sg np pd i = pd i := if_pos h
theorem sg_out {i : Nat} (h : ¬ i < np) : sg np pd i = 0 := if_neg h
theorem sign_at (hP : PdO M np pd) {i : Nat} (hi : i < 100) : f_X5_signAt M (nI i) = nI (sg np pd i) := by
  obtain ⟨p1, p2, p3, p4⟩ := hP
  unfold f_X5_signAt sg
  rw [p1, if_neg (nI_pos (by omega))]
  by_cases c : i < np
  · rw [if_neg (nI_ge c (by omega)), if_neg (show ¬ Int32.ofInt 60 ≤ nI i from nI_ge (b := 60) (by omega) (by decide)), if_pos c, nI_clamp (by omega)]
    exact (p4 i c).1
  · rw [if_pos (nI_le (by omega) (by omega)), if_neg c]; rfl
theorem room_at (hP : PdO M np pd) {i : Nat} (hi : i < 100) : f_X5_roomAt M (nI i) = bI (ltr (sg np pd i)) := by
  have := sg_lt hP i
  unfold f_X5_roomAt
  rw [sign_at hP hi]
  exact wi_b _ 65 72 _ _ (by omega) (M := M)
theorem digit_at (hP : PdO M np pd) {i : Nat} (hi : i < 100) : f_X5_digitAt M (nI i) = bI (dgt (sg np pd i)) := by
  have := sg_lt hP i
  unfold f_X5_digitAt
  rw [sign_at hP hi]
  exact wi_b _ 49 57 _ _ (by omega) (M := M)
theorem kind_at (hP : PdO M np pd) {i : Nat} (hi : i < 100) : f_X5_kindAt M (nI i) = bI (knd (sg np pd i)) := by
  have := sg_lt hP i
  unfold f_X5_kindAt
  exact kn_b _ (by omega) _ (sign_at hP hi)
theorem other_at (hP : PdO M np pd) {i j : Nat} (hi : i < 100) (hj : j < 100) : f_X5_otherRoomAt M (nI i) (nI j) = bI (ltr (sg np pd i) && !(Nat.beq (sg np pd i) (sg np pd j))) := by
  have h1 := sg_lt hP i
  have h2 := sg_lt hP j
  unfold f_X5_otherRoomAt
  rw [room_at hP hi, sign_at hP hi, sign_at hP hj]
  cases e : ltr (sg np pd i) with
  | false => rfl
  | true =>
    rw [show bI true = nI 1 from rfl, if_neg one_ne]
    by_cases c : sg np pd i = sg np pd j
    · rw [c, if_pos rfl, Nat.beq_refl]; rfl
    · rw [if_neg (fun e => c ((nI_eq (by omega) (by omega)).mp e)), nbf c]; rfl
/-! the house -/
def okh (pd : Nat → Nat) (i : Nat) : Bool := if i % 4 = 0 then Nat.blt i 48 && ltr (pd i) else if i % 4 = 1 then knd (pd i) else if i % 4 = 2 then ltr (pd i) && !(Nat.beq (pd i) (pd (i - 2))) else dgt (pd i)
def hfm (np : Nat) (pd : Nat → Nat) : Nat → Nat → Int32
  | 0, _ => if np % 4 = 0 then Int32.ofInt (-6) else nI np
  | f + 1, i => if okh pd i = true then hfm np pd f (i + 1) else nI i
theorem hfm_ok {i : Nat} (h : i < np) (hk : okh pd i = true) : hfm np pd (np - i) i = hfm np pd (np - (i + 1)) (i + 1) := by
  rw [show np - i = (np - (i + 1)) + 1 by omega, hfm, if_pos hk]
theorem hfm_no {i : Nat} (h : i ≤ np) (h2 : i % 4 ≠ 0 ∨ i < np) (hk : ¬ (i < np ∧ okh pd i = true)) : hfm np pd (np - i) i = nI i := by
  by_cases c : i < np
  · rw [show np - i = (np - (i + 1)) + 1 by omega, hfm, if_neg (fun e => hk ⟨c, e⟩)]
  · have e : i = np := by omega
    subst e
    rw [Nat.sub_self, hfm, if_neg (by omega)]
theorem hfm_end {i : Nat} (h : i = np) (h2 : i % 4 = 0) : hfm np pd (np - i) i = Int32.ofInt (-6) := by
  subst h
  rw [Nat.sub_self, hfm, if_pos h2]
theorem hl_houseFault (hP : PdO M np pd) {L : LMem} {K : Int32 → Mem → LMem → Prop} (kk : K (hfm np pd np 0) M L) :
    ∀ (f t : Nat), t ≤ 12 → 12 < f + t → 4 * t ≤ np → hfm np pd np 0 = hfm np pd (np - 4 * t) (4 * t) → PL_X5_houseFault_4 K f (nI (4 * t)) (nI t) M L := by
  intro f
  induction f with
  | zero => intro t h1 h2; omega
  | succ f ih =>
    intro t h1 h2 h3 h4
    have p60 := hP.2.2.1
    rw [h4] at kk
    have no : ∀ i, i ≤ np → hfm np pd (np - 4 * t) (4 * t) = hfm np pd (np - i) i → i % 4 ≠ 0 ∨ i < np → ¬ (i < np ∧ okh pd i = true) → K (nI i) M L := fun i a1 a2 a3 a4 => by
      rw [a2, hfm_no a1 a3 a4] at kk; exact kk
    unfold PL_X5_houseFault_4
    refine pk_le 12 t (fun c => ?_) (fun c => ?_)
    · refine pk_le np (4 * t) (fun c2 => ?_) (fun c2 => ?_) hP.1
      · rw [hfm_end (by omega) (by omega)] at kk; exact kk
      · refine no (4 * t) h3 rfl (Or.inr c2) (fun e => ?_)
        have := e.2
        unfold okh at this
        rw [if_pos (by omega), show Nat.blt (4 * t) 48 = false from nlf (by omega)] at this
        exact Bool.false_ne_true this
    · refine pk_le np (4 * t) (fun c2 => ?_) (fun c2 => ?_) hP.1
      · rw [hfm_end (by omega) (by omega)] at kk; exact kk
      · have e1 : nI (4 * t) + Int32.ofInt 1 = nI (4 * t + 1) := nI_add _ 1
        have e2 : nI (4 * t) + Int32.ofInt 2 = nI (4 * t + 2) := nI_add _ 2
        have e3 : nI (4 * t) + Int32.ofInt 3 = nI (4 * t + 3) := nI_add _ 3
        have e4 : nI (4 * t) + Int32.ofInt 4 = nI (4 * (t + 1)) := nI_add _ 4
        rw [e1, e2, e3, e4]
        have s0 := sg_in (pd := pd) c2
        refine br_b (room_at hP (by omega)) (fun b0 => ?_) (fun b0 => ?_)
        · rw [s0] at b0
          have k0 : okh pd (4 * t) = true := by
            unfold okh
            rw [if_pos (by omega), b0, show Nat.blt (4 * t) 48 = true from Nat.ble_eq_true_of_le (by omega)]; rfl
          have f0 := hfm_ok c2 k0
          refine br_b (kind_at hP (by omega)) (fun b1 => ?_) (fun b1 => ?_)
          · have c3 : 4 * t + 1 < np := by
              rcases Nat.lt_or_ge (4 * t + 1) np with e | e
              · exact e
              · rw [sg_out (by omega)] at b1; exact absurd b1 (by decide)
            rw [sg_in c3] at b1
            have k1 : okh pd (4 * t + 1) = true := by
              unfold okh
              rw [if_neg (by omega), if_pos (by omega)]; exact b1
            have f1 := f0.trans (hfm_ok c3 k1)
            refine br_b (other_at hP (by omega) (by omega)) (fun b2 => ?_) (fun b2 => ?_)
            · have c4 : 4 * t + 2 < np := by
                rcases Nat.lt_or_ge (4 * t + 2) np with e | e
                · exact e
                · rw [sg_out (i := 4 * t + 2) (by omega)] at b2; exact absurd b2 (by rw [show ltr 0 = false from rfl, Bool.false_and]; exact Bool.false_ne_true)
              rw [sg_in c4, s0] at b2
              have k2 : okh pd (4 * t + 2) = true := by
                unfold okh
                rw [if_neg (by omega), if_neg (by omega), if_pos (by omega), Nat.add_sub_cancel]; exact b2
              have f2 := f1.trans (hfm_ok c4 k2)
              refine br_b (digit_at hP (by omega)) (fun b3 => ?_) (fun b3 => ?_)
              · have c5 : 4 * t + 3 < np := by
                  rcases Nat.lt_or_ge (4 * t + 3) np with e | e
                  · exact e
                  · rw [sg_out (by omega)] at b3; exact absurd b3 (by decide)
                rw [sg_in c5] at b3
                have k3 : okh pd (4 * t + 3) = true := by
                  unfold okh
                  rw [if_neg (by omega), if_neg (by omega), if_neg (by omega)]; exact b3
                have f3 := f2.trans (hfm_ok c5 k3)
                rw [nI_s]
                exact ih (t + 1) (by omega) (by omega) (by omega) (h4.trans f3)
              · refine no (4 * t + 3) (by omega) f2 (Or.inl (by omega)) (fun e => ?_)
                have := e.2
                unfold okh at this
                rw [if_neg (by omega), if_neg (by omega), if_neg (by omega)] at this
                rw [sg_in e.1, this] at b3
                exact Bool.false_ne_true b3.symm
            · refine no (4 * t + 2) (by omega) f1 (Or.inl (by omega)) (fun e => ?_)
              have := e.2
              unfold okh at this
              rw [if_neg (by omega), if_neg (by omega), if_pos (by omega), Nat.add_sub_cancel] at this
              rw [sg_in e.1, s0, this] at b2
              exact Bool.false_ne_true b2.symm
          · refine no (4 * t + 1) (by omega) f0 (Or.inl (by omega)) (fun e => ?_)
            have := e.2
            unfold okh at this
            rw [if_neg (by omega), if_pos (by omega)] at this
            rw [sg_in e.1, this] at b1
            exact Bool.false_ne_true b1.symm
        · refine no (4 * t) h3 rfl (Or.inr c2) (fun e => ?_)
          have := e.2
          unfold okh at this
          rw [if_pos (by omega)] at this
          rw [s0] at b0
          rw [b0, Bool.and_false] at this
          exact Bool.false_ne_true this
theorem h_houseFault (hP : PdO M np pd) {L : LMem} {K : Int32 → Mem → LMem → Prop} (kk : K (hfm np pd np 0) M L) : P_X5_houseFault M L K := by
  unfold P_X5_houseFault
  exact hl_houseFault hP kk 100000 0 (by omega) (by omega) (by omega) rfl
theorem rem4 {i : Nat} (h : i < 2 ^ 31) : nI i - nI i / Int32.ofInt 4 * Int32.ofInt 4 = nI (i % 4) := pk_rem (d := 4) h (by decide) (by decide)
/-- either it is a place, or there is none and the text is a house -/
theorem hfm_all : ∀ (f i : Nat), i + f = np → (∃ k, k ≤ np ∧ hfm np pd f i = nI k) ∨ (hfm np pd f i = Int32.ofInt (-6) ∧ np % 4 = 0 ∧ ∀ j, i ≤ j → j < np → okh pd j = true) := by
  intro f
  induction f with
  | zero =>
    intro i h
    by_cases c : np % 4 = 0
    · exact Or.inr ⟨by rw [hfm, if_pos c], c, fun j h1 h2 => by omega⟩
    · exact Or.inl ⟨np, Nat.le_refl _, by rw [hfm, if_neg c]⟩
  | succ f ih =>
    intro i h
    by_cases c : okh pd i = true
    · have e : hfm np pd (f + 1) i = hfm np pd f (i + 1) := by rw [hfm, if_pos c]
      rcases ih (i + 1) (by omega) with ⟨k, h1, h2⟩ | ⟨h1, h2, h3⟩
      · exact Or.inl ⟨k, h1, e.trans h2⟩
      · refine Or.inr ⟨e.trans h1, h2, fun j a b => ?_⟩
        by_cases e2 : j = i
        · rw [e2]; exact c
        · exact h3 j (by omega) b
    · exact Or.inl ⟨i, by omega, by rw [hfm, if_neg c]⟩
end PAD

