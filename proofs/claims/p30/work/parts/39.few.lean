/-! ===== the fewest tries ===== -/
def mx (a b : Nat) : Nat := if a < b then b else a
theorem mx_le (a b : Nat) : a ≤ mx a b ∧ b ≤ mx a b ∧ (mx a b = a ∨ mx a b = b) := by
  unfold mx; split <;> omega
theorem mx_i {a b : Nat} (ha : a < 2 ^ 31) (hb : b < 2 ^ 31) : (if nI a < nI b then nI b else nI a) = nI (mx a b) := by
  unfold mx
  by_cases c : a < b
  · rw [if_pos (nI_lt c hb), if_pos c]
  · rw [if_neg (nI_nlt (by omega) ha), if_neg c]
/-- it parts the set -/
def spl (S w : Nat) : Prop := S &&& w ≠ 0 ∧ S &&& w ≠ S
theorem pop_pos {S : Nat} (hS : S < 8192) (h : S ≠ 0) : 1 ≤ popN S := by
  have := (pop_dn hS h).1
  omega
theorem pop_0 : popN 0 = 0 := rfl
theorem bit_ex {S : Nat} (hS : S < 8192) (h : S ≠ 0) : ∃ q, q < 13 ∧ S.testBit q = true := by
  refine Classical.byContradiction (fun hn => h (Nat.eq_of_testBit_eq (fun i => ?_)))
  rw [Nat.zero_testBit]
  by_cases c : i < 13
  · cases e : S.testBit i with
    | false => rfl
    | true => exact absurd ⟨i, c, e⟩ hn
  · exact bit_hi (n := 13) hS (by omega)
theorem sdf_0 {S w : Nat} (hS : S < 8192) : sdf S w = 0 ↔ S &&& w = S := by
  constructor
  · intro e
    refine Nat.eq_of_testBit_eq (fun i => ?_)
    have h1 := sdf_bit hS w i
    rw [e, Nat.zero_testBit] at h1
    rw [Nat.testBit_and]
    revert h1
    cases S.testBit i <;> cases w.testBit i <;> simp
  · intro e
    refine Nat.eq_of_testBit_eq (fun i => ?_)
    rw [sdf_bit hS, Nat.zero_testBit]
    have h1 := congrArg (fun n => n.testBit i) e
    have h2 : (S &&& w).testBit i = S.testBit i := h1
    rw [Nat.testBit_and] at h2
    revert h2
    cases S.testBit i <;> cases w.testBit i <;> simp
theorem spl_iff {S w : Nat} (hS : S < 8192) : spl S w ↔ lpN S w < popN S := by
  have h1 : S &&& w ≤ S := Nat.and_le_left
  have h2 := pop_split hS w
  have h3 := lpN_le (w := w) hS
  constructor
  · intro ⟨e1, e2⟩
    have p1 := pop_pos (by omega) e1
    have p2 := pop_pos (S := sdf S w) (by have := sdf_le S w; omega) (fun e => e2 ((sdf_0 hS).mp e))
    unfold lpN
    split <;> omega
  · intro e
    refine ⟨fun e1 => ?_, fun e1 => ?_⟩
    · rw [e1, pop_0] at h2; omega
    · rw [e1] at h3; omega
theorem spl_pop {S w : Nat} (hS : S < 8192) (h : spl S w) : 1 ≤ popN (S &&& w) ∧ 1 ≤ popN (sdf S w) ∧ popN (S &&& w) < popN S ∧ popN (sdf S w) < popN S := by
  have h1 : S &&& w ≤ S := Nat.and_le_left
  have h2 := pop_split hS w
  have p1 := pop_pos (by omega) h.1
  have p2 := pop_pos (S := sdf S w) (by have := sdf_le S w; omega) (fun e => h.2 ((sdf_0 hS).mp e))
  omega
noncomputable def wk (s : Stt) (k : Nat) : Nat := wm s (k / 10) (k % 10)
noncomputable def tfo (s : Stt) (T : Nat → Nat) (S : Nat) : Nat → Nat
  | 0 => 9999
  | k + 1 => if bdec (vld s k ∧ spl S (wk s k)) = true then mn (tfo s T S k) (mx (T (S &&& wk s k)) (T (sdf S (wk s k))) + 1) else tfo s T S k
noncomputable def tF (s : Stt) : Nat → Nat → Nat
  | 0, _ => 0
  | n + 1, S => if popN S < 2 then 0 else tfo s (tF s n) S 80
noncomputable def tS (s : Stt) (S : Nat) : Nat := tF s 14 S
theorem tfo_no {s : Stt} {T : Nat → Nat} {S k : Nat} (h : ¬ (vld s k ∧ spl S (wk s k))) : tfo s T S (k + 1) = tfo s T S k := by
  rw [tfo, bdec_f h, if_neg Bool.false_ne_true]
theorem tfo_yes {s : Stt} {T : Nat → Nat} {S k : Nat} (h : vld s k ∧ spl S (wk s k)) : tfo s T S (k + 1) = mn (tfo s T S k) (mx (T (S &&& wk s k)) (T (sdf S (wk s k))) + 1) := by
  rw [tfo, bdec_t h, if_pos rfl]
theorem tfo_eq {s : Stt} {T T' : Nat → Nat} {S : Nat} (h : ∀ k, vld s k → spl S (wk s k) → T (S &&& wk s k) = T' (S &&& wk s k) ∧ T (sdf S (wk s k)) = T' (sdf S (wk s k))) : ∀ k : Nat, tfo s T S k = tfo s T' S k := by
  intro k
  induction k with
  | zero => rfl
  | succ k ih =>
    by_cases c : vld s k ∧ spl S (wk s k)
    · obtain ⟨e1, e2⟩ := h k c.1 c.2
      rw [tfo_yes c, tfo_yes c, ih, e1, e2]
    · rw [tfo_no c, tfo_no c, ih]
theorem tF_st (s : Stt) : ∀ (n m S : Nat), S < 8192 → popN S < n → popN S < m → tF s n S = tF s m S := by
  intro n
  induction n with
  | zero => intro m S _ h; omega
  | succ n ih =>
    intro m S hS h1 h2
    obtain ⟨m, rfl⟩ : ∃ m', m = m' + 1 := ⟨m - 1, by omega⟩
    rw [tF, tF]
    by_cases c : popN S < 2
    · rw [if_pos c, if_pos c]
    · rw [if_neg c, if_neg c]
      refine tfo_eq (fun k _ hs => ?_) 80
      have h3 := spl_pop hS hs
      have h4 : S &&& wk s k ≤ S := Nat.and_le_left
      have h5 := sdf_le S (wk s k)
      exact ⟨ih m _ (by omega) (by omega) (by omega), ih m _ (by omega) (by omega) (by omega)⟩
theorem tS_1 {s : Stt} {S : Nat} (h : popN S < 2) : tS s S = 0 := by
  unfold tS
  rw [tF, if_pos h]
theorem tS_2 {s : Stt} {S : Nat} (hS : S < 8192) (h : ¬ popN S < 2) : tS s S = tfo s (tS s) S 80 := by
  unfold tS
  rw [tF, if_neg h]
  refine tfo_eq (fun k _ hs => ?_) 80
  have h3 := spl_pop hS hs
  have h4 : S &&& wk s k ≤ S := Nat.and_le_left
  have h5 := sdf_le S (wk s k)
  have h6 := popN_le S
  exact ⟨tF_st s 13 14 _ (by omega) (by omega) (by omega), tF_st s 13 14 _ (by omega) (by omega) (by omega)⟩
theorem tfo_le (s : Stt) (T : Nat → Nat) (S : Nat) : ∀ k : Nat, tfo s T S k ≤ 9999 ∧ (∀ j, j < k → vld s j → spl S (wk s j) → tfo s T S k ≤ mx (T (S &&& wk s j)) (T (sdf S (wk s j))) + 1) ∧ (tfo s T S k = 9999 ∨ ∃ j, j < k ∧ vld s j ∧ spl S (wk s j) ∧ tfo s T S k = mx (T (S &&& wk s j)) (T (sdf S (wk s j))) + 1) := by
  intro k
  induction k with
  | zero => exact ⟨Nat.le_refl _, fun j hj => by omega, Or.inl rfl⟩
  | succ k ih =>
    obtain ⟨h1, h2, h3⟩ := ih
    by_cases c : vld s k ∧ spl S (wk s k)
    · rw [tfo_yes c]
      have hm := mn_le (tfo s T S k) (mx (T (S &&& wk s k)) (T (sdf S (wk s k))) + 1)
      refine ⟨by omega, fun j hj v1 v2 => ?_, ?_⟩
      · by_cases e : j = k
        · rw [e]; exact hm.2.1
        · exact Nat.le_trans hm.1 (h2 j (by omega) v1 v2)
      · rcases hm.2.2 with e | e
        · rcases h3 with e3 | ⟨j, j1, j2, j3, j4⟩
          · exact Or.inl (e.trans e3)
          · exact Or.inr ⟨j, by omega, j2, j3, e.trans j4⟩
        · exact Or.inr ⟨k, by omega, c.1, c.2, e⟩
    · rw [tfo_no c]
      refine ⟨h1, fun j hj v1 v2 => ?_, ?_⟩
      · by_cases e : j = k
        · rw [e] at v1 v2; exact absurd ⟨v1, v2⟩ c
        · exact h2 j (by omega) v1 v2
      · rcases h3 with e3 | ⟨j, j1, j2, j3, j4⟩
        · exact Or.inl e3
        · exact Or.inr ⟨j, by omega, j2, j3, j4⟩
theorem tS_le {s : Stt} {S : Nat} (hS : S < 8192) : tS s S ≤ 9999 := by
  by_cases c : popN S < 2
  · rw [tS_1 c]; omega
  · rw [tS_2 hS c]; exact (tfo_le s _ S 80).1
section FWM
variable {M : Mem} {s : Stt} {L : LMem}
theorem ge0 {n : Nat} (h : n < 2 ^ 31) {A B : Prop} (a : A) : (0 ≤ nI n → A) ∧ (¬ 0 ≤ nI n → B) := br_t (nI_pos' h) a
theorem ge1 {A B : Prop} (b : B) : (0 ≤ Int32.ofInt (-1) → A) ∧ (¬ 0 ≤ Int32.ofInt (-1) → B) := br_f (by decide) b
theorem sdf_and {S w : Nat} (hS : S < 8192) : sdf S (S &&& w) = sdf S w := by
  refine Nat.eq_of_testBit_eq (fun i => ?_)
  rw [sdf_bit hS, sdf_bit hS, Nat.testBit_and]
  cases S.testBit i <;> simp
theorem sub_bits {S c : Nat} (hS : S < 8192) : sdf S c = 0 ↔ ∀ i, S.testBit i = true → c.testBit i = true := by
  constructor
  · intro e i hi
    have h1 := sdf_bit hS c i
    rw [e, Nat.zero_testBit, hi] at h1
    revert h1
    cases c.testBit i <;> simp
  · intro h
    refine Nat.eq_of_testBit_eq (fun i => ?_)
    rw [sdf_bit hS, Nat.zero_testBit]
    cases e : S.testBit i with
    | false => rfl
    | true => rw [h i e]; rfl
def cFm : Nat → Nat → Bool := fun p _ => Nat.beq p 107
end FWM

