/-! ===== the fewest tries ===== -/
def mx (a b : Nat) : Nat := if a < b then b else a
theorem mx_le (a b : Nat) : a ≤ mx a b ∧ b ≤ mx a b ∧ (mx a b = a ∨ mx a b = b) := by
  unfold mx; split <;> omega
theorem mx_i {a b : Nat} (ha : a < 2 ^ 31) (hb : b < 2 ^ 31) : (if nI a < nI b then nI b else nI a) = nI (mx a b) := by
  unfold mx
  by_cases c : a < b
  · rw [if_pos (nI_lt c hb), if_pos c]
  · rw [if_neg (nI_nlt (by omega) ha), if_neg c]
/-- it parts the set -/
def spl (S w : Nat) : Prop := S &&& w ≠ 0 ∧ S &&& w ≠ S
theorem pop_pos {S : Nat} (hS : S < 8192) (h : S ≠ 0) : 1 ≤ popN S := by
  have := (pop_dn hS h).1
  omega
theorem pop_0 : popN 0 = 0 := rfl
theorem bit_ex {S : Nat} (hS : S < 8192) (h : S ≠ 0) : ∃ q, q < 13 ∧ S.testBit q = true := by
  refine Classical.byContradiction (fun hn => h (Nat.eq_of_testBit_eq (fun i => ?_)))
  rw [Nat.zero_testBit]
  by_cases c : i < 13
  · cases e : S.testBit i with
    | false => rfl
    | true => exact absurd ⟨i, c, e⟩ hn
  · exact bit_hi (n := 13) hS (by omega)
theorem sdf_0 {S w : Nat} (hS : S < 8192) : sdf S w = 0 ↔ S &&& w = S := by
  constructor
  · intro e
    refine Nat.eq_of_testBit_eq (fun i => ?_)
    have h1 := sdf_bit hS w i
    rw [e, Nat.zero_testBit] at h1
    rw [Nat.testBit_and]
    revert h1
    cases S.testBit i <;> cases w.testBit i <;> simp
  · intro e
    refine Nat.eq_of_testBit_eq (fun i => ?_)
    rw [sdf_bit hS, Nat.zero_testBit]
    have h1 := congrArg (fun n => n.testBit i) e
    have h2 : (S &&& w).testBit i = S.testBit i := h1
    rw [Nat.testBit_and] at h2
    revert h2
    cases S.testBit i <;> cases w.testBit i <;> simp
theorem spl_iff {S w : Nat} (hS : S < 8192) : spl S w ↔ lpN S w < popN S := by
  have h1 : S &&& w ≤ S := Nat.and_le_left
  have h2 := pop_split hS w
  have h3 := lpN_le (w := w) hS
  constructor
  · intro ⟨e1, e2⟩
    have p1 := pop_pos (by omega) e1
    have p2 := pop_pos (S := sdf S w) (by have := sdf_le S w; omega) (fun e => e2 ((sdf_0 hS).mp e))
    unfold lpN
    split <;> omega
  · intro e
    refine ⟨fun e1 => ?_, fun e1 => ?_⟩
    · rw [e1, pop_0] at h2; omega
    · rw [e1] at h3; omega
theorem spl_pop {S w : Nat} (hS : S < 8192) (h : spl S w) : 1 ≤ popN (S &&& w) ∧ 1 ≤ popN (sdf S w) ∧ popN (S &&& w) < popN S ∧ popN (sdf S w) < popN S := by
  have h1 : S &&& w ≤ S := Nat.and_le_left
  have h2 := pop_split hS w
  have p1 := pop_pos (by omega) h.1
  have p2 := pop_pos (S := sdf S w) (by have := sdf_le S w; omega) (fun e => h.2 ((sdf_0 hS).mp e))
  omega
noncomputable def wk (s : Stt) (k : Nat) : Nat := wm s (k / 10) (k % 10)
noncomputable def tfo (s : Stt) (T : Nat → Nat) (S : Nat) : Nat → Nat
  | 0 => 9999
  | k + 1 => if bdec (vld s k ∧ spl S (wk s k)) = true then mn (tfo s T S k) (mx (T (S &&& wk s k)) (T (sdf S (wk s k))) + 1) else tfo s T S k
noncomputable def tF (s : Stt) : Nat → Nat → Nat
  | 0, _ => 0
  | n + 1, S => if popN S < 2 then 0 else tfo s (tF s n) S 80
noncomputable def tS (s : Stt) (S : Nat) : Nat := tF s 14 S
theorem tfo_no {s : Stt} {T : Nat → Nat} {S k : Nat} (h : ¬ (vld s k ∧ spl S (wk s k))) : tfo s T S (k + 1) = tfo s T S k := by
  rw [tfo, bdec_f h, if_neg Bool.false_ne_true]
theorem tfo_yes {s : Stt} {T : Nat → Nat} {S k : Nat} (h : vld s k ∧ spl S (wk s k)) : tfo s T S (k + 1) = mn (tfo s T S k) (mx (T (S &&& wk s k)) (T (sdf S (wk s k))) + 1) := by
  rw [tfo, bdec_t h, if_pos rfl]
theorem tfo_eq {s : Stt} {T T' : Nat → Nat} {S : Nat} (h : ∀ k, vld s k → spl S (wk s k) → T (S &&& wk s k) = T' (S &&& wk s k) ∧ T (sdf S (wk s k)) = T' (sdf S (wk s k))) : ∀ k : Nat, tfo s T S k = tfo s T' S k := by
  intro k
  induction k with
  | zero => rfl
  | succ k ih =>
    by_cases c : vld s k ∧ spl S (wk s k)
    · obtain ⟨e1, e2⟩ := h k c.1 c.2
      rw [tfo_yes c, tfo_yes c, ih, e1, e2]
    · rw [tfo_no c, tfo_no c, ih]
theorem tF_st (s : Stt) : ∀ (n m S : Nat), S < 8192 → popN S < n → popN S < m → tF s n S = tF s m S := by
  intro n
  induction n with
  | zero => intro m S _ h; omega
  | succ n ih =>
    intro m S hS h1 h2
    obtain ⟨m, rfl⟩ : ∃ m', m = m' + 1 := ⟨m - 1, by omega⟩
    rw [tF, tF]
    by_cases c : popN S < 2
    · rw [if_pos c, if_pos c]
    · rw [if_neg c, if_neg c]
      refine tfo_eq (fun k _ hs => ?_) 80
      have h3 := spl_pop hS hs
      have h4 : S &&& wk s k ≤ S := Nat.and_le_left
      have h5 := sdf_le S (wk s k)
      exact ⟨ih m _ (by omega) (by omega) (by omega), ih m _ (by omega) (by omega) (by omega)⟩
theorem tS_1 {s : Stt} {S : Nat} (h : popN S < 2) : tS s S = 0 := by
  unfold tS
  rw [tF, if_pos h]
theorem tS_2 {s : Stt} {S : Nat} (hS : S < 8192) (h : ¬ popN S < 2) : tS s S = tfo s (tS s) S 80 := by
  unfold tS
  rw [tF, if_neg h]
  refine tfo_eq (fun k _ hs => ?_) 80
  have h3 := spl_pop hS hs
  have h4 : S &&& wk s k ≤ S := Nat.and_le_left
  have h5 := sdf_le S (wk s k)
  have h6 := popN_le S
  exact ⟨tF_st s 13 14 _ (by omega) (by omega) (by omega), tF_st s 13 14 _ (by omega) (by omega) (by omega)⟩
theorem tfo_le (s : Stt) (T : Nat → Nat) (S : Nat) : ∀ k : Nat, tfo s T S k ≤ 9999 ∧ (∀ j, j < k → vld s j → spl S (wk s j) → tfo s T S k ≤ mx (T (S &&& wk s j)) (T (sdf S (wk s j))) + 1) ∧ (tfo s T S k = 9999 ∨ ∃ j, j < k ∧ vld s j ∧ spl S (wk s j) ∧ tfo s T S k = mx (T (S &&& wk s j)) (T (sdf S (wk s j))) + 1) := by
  intro k
  induction k with
  | zero => exact ⟨Nat.le_refl _, fun j hj => by omega, Or.inl rfl⟩
  | succ k ih =>
    obtain ⟨h1, h2, h3⟩ := ih
    by_cases c : vld s k ∧ spl S (wk s k)
    · rw [tfo_yes c]
      have hm := mn_le (tfo s T S k) (mx (T (S &&& wk s k)) (T (sdf S (wk s k))) + 1)
      refine ⟨by omega, fun j hj v1 v2 => ?_, ?_⟩
      · by_cases e : j = k
        · rw [e]; exact hm.2.1
        · exact Nat.le_trans hm.1 (h2 j (by omega) v1 v2)
      · rcases hm.2.2 with e | e
        · rcases h3 with e3 | ⟨j, j1, j2, j3, j4⟩
          · exact Or.inl (e.trans e3)
          · exact Or.inr ⟨j, by omega, j2, j3, e.trans j4⟩
        · exact Or.inr ⟨k, by omega, c.1, c.2, e⟩
    · rw [tfo_no c]
      refine ⟨h1, fun j hj v1 v2 => ?_, ?_⟩
      · by_cases e : j = k
        · rw [e] at v1 v2; exact absurd ⟨v1, v2⟩ c
        · exact h2 j (by omega) v1 v2
      · rcases h3 with e3 | ⟨j, j1, j2, j3, j4⟩
        · exact Or.inl e3
        · exact Or.inr ⟨j, by omega, j2, j3, j4⟩
theorem tS_le {s : Stt} {S : Nat} (hS : S < 8192) : tS s S ≤ 9999 := by
  by_cases c : popN S < 2
  · rw [tS_1 c]; omega
  · rw [tS_2 hS c]; exact (tfo_le s _ S 80).1
section FWM
variable {M : Mem} {s : Stt} {L : LMem}
theorem ge0 {n : Nat} (h : n < 2 ^ 31) {A B : Prop} (a : A) : (0 ≤ nI n → A) ∧ (¬ 0 ≤ nI n → B) := br_t (nI_pos' h) a
theorem ge1 {A B : Prop} (b : B) : (0 ≤ Int32.ofInt (-1) → A) ∧ (¬ 0 ≤ Int32.ofInt (-1) → B) := br_f (by decide) b
theorem sdf_and {S w : Nat} (hS : S < 8192) : sdf S (S &&& w) = sdf S w := by
  refine Nat.eq_of_testBit_eq (fun i => ?_)
  rw [sdf_bit hS, sdf_bit hS, Nat.testBit_and]
  cases S.testBit i <;> simp
theorem hl_mfo {K : Int32 → Mem → LMem → Prop} (hSO : SOK s) {S : Nat} (hS : S < 8192) (hT : TRY M s 80) (hA : ∀ w, spl S w → M 107 (S &&& w) = nI (tS s (S &&& w)) ∧ M 107 (sdf S w) = nI (tS s (sdf S w))) (kk : K (nI (tfo s (tS s) S 80)) M L) :
    ∀ (f k : Nat), k ≤ 80 → 80 < f + k → PL_X10_fewestOf_16 K f (nI S) (nI (tfo s (tS s) S k)) (nI k) M L := by
  intro f
  induction f with
  | zero => intro k h1 h2; omega
  | succ f ih =>
    intro k h1 h2
    unfold PL_X10_fewestOf_16
    refine pk_le 80 k (fun c => ?_) (fun c => ⟨pk_in k 80 c, ?_⟩)
    · rw [show k = 80 by omega]; exact kk
    · have ih2 := ih (k + 1) (by omega) (by omega)
      obtain ⟨t1, t2⟩ := hT k c
      have bT := (tfo_le s (tS s) S k).1
      rw [nI_s, nI_clamp (by omega)]
      by_cases hv : vld s k
      · have hw := wm_lt hSO (x := k / 10) (y := k % 10) (by omega) hv.1
        have ew : wm s (k / 10) (k % 10) = wk s k := rfl
        rw [t1 hv, ew]
        rw [ew] at hw
        have l1 : S &&& wk s k ≤ S := Nat.and_le_left
        have l2 := sdf_le S (wk s k)
        rw [fa_and, sdf_i, sdf_and hS, nI_clamp (by omega : S &&& wk s k < 2 ^ 31), nI_clamp (by omega : sdf S (wk s k) < 2 ^ 31)]
        refine ge0 (by omega) (pk_eq _ 0 (fun c1 => ?_) (fun c1 => ?_) rfl rfl (by omega))
        · rw [tfo_no (fun e => e.2.1 c1)] at ih2; exact ih2
        · refine pk_eq _ _ (fun c2 => ?_) (fun c2 => ⟨pk_in (S &&& wk s k) 8192 (by omega), pk_in (sdf S (wk s k)) 8192 (by omega), ?_⟩) rfl rfl (by omega) (by omega)
          · rw [tfo_no (fun e => e.2.2 c2)] at ih2; exact ih2
          · have hs : spl S (wk s k) := ⟨c1, c2⟩
            obtain ⟨a1, a2⟩ := hA _ hs
            have b1 := tS_le (s := s) (S := S &&& wk s k) (by omega)
            have b2 := tS_le (s := s) (S := sdf S (wk s k)) (by omega)
            rw [tfo_yes ⟨hv, hs⟩] at ih2
            rw [a1, a2, nI_s, nI_s]
            unfold mn mx at ih2
            refine pk_le _ _ (fun c3 => ?_) (fun c3 => ?_) rfl rfl (by omega) (by omega)
            · have em : (if tS s (S &&& wk s k) < tS s (sdf S (wk s k)) then tS s (sdf S (wk s k)) else tS s (S &&& wk s k)) = tS s (sdf S (wk s k)) := by
                split <;> omega
              rw [em] at ih2
              refine pk_le _ _ (fun c4 => ?_) (fun c4 => ?_) rfl rfl (by omega) (by omega)
              · rw [if_neg (by omega)] at ih2; exact ih2
              · rw [if_pos c4] at ih2; exact ih2
            · rw [if_neg (by omega : ¬ tS s (S &&& wk s k) < tS s (sdf S (wk s k)))] at ih2
              refine pk_le _ _ (fun c4 => ?_) (fun c4 => ?_) rfl rfl (by omega) (by omega)
              · rw [if_neg (by omega)] at ih2; exact ih2
              · rw [if_pos c4] at ih2; exact ih2
      · rw [t2 hv]
        rw [tfo_no (fun e => hv e.1)] at ih2
        exact ge1 ih2
theorem h_mfo {K : Int32 → Mem → LMem → Prop} (hSO : SOK s) {S : Nat} (hS : S < 8192) (hT : TRY M s 80) (hA : ∀ w, spl S w → M 107 (S &&& w) = nI (tS s (S &&& w)) ∧ M 107 (sdf S w) = nI (tS s (sdf S w))) (kk : K (nI (tS s S)) M L) : P_X10_fewestOf (nI S) M L K := by
  have p13 := popN_le S
  unfold P_X10_fewestOf
  refine h_ones hS (pk_le 2 _ (fun c => ?_) (fun c => ?_) rfl rfl (by omega) (by omega))
  · rw [tS_2 hS (by omega)] at kk
    exact hl_mfo hSO hS hT hA kk 100000 0 (by omega) (by omega)
  · rw [tS_1 c] at kk; exact kk
theorem sub_bits {S c : Nat} (hS : S < 8192) : sdf S c = 0 ↔ ∀ i, S.testBit i = true → c.testBit i = true := by
  constructor
  · intro e i hi
    have h1 := sdf_bit hS c i
    rw [e, Nat.zero_testBit, hi] at h1
    revert h1
    cases c.testBit i <;> simp
  · intro h
    refine Nat.eq_of_testBit_eq (fun i => ?_)
    rw [sdf_bit hS, Nat.zero_testBit]
    cases e : S.testBit i with
    | false => rfl
    | true => rw [h i e]; rfl
def cFm : Nat → Nat → Bool := fun p _ => Nat.beq p 107
theorem hl_mfew {M0 : Mem} {K : Int32 → Mem → LMem → Prop} (hSO : SOK s) {c : Nat} (hc : c < 8192) (hcan : M0 74 13 = nI c) (hT : TRY M0 s 80) (kk0 : 9999 ≤ tS s c → ∀ M, Fr cFm M0 M → K (Int32.ofInt (-6)) M L) (kk1 : tS s c < 9999 → ∀ M, Fr cFm M0 M → K (nI (tS s c)) M L) :
    ∀ (f S : Nat) (M : Mem), S ≤ c + 1 → c + 1 < f + S → Fr cFm M0 M → (∀ U, U < S → sdf U c = 0 → M 107 U = nI (tS s U)) → PL_X10_fewestTries_12 K f (nI S) M L := by
  intro f
  induction f with
  | zero => intro S M h1 h2; omega
  | succ f ih =>
    intro S M h1 h2 hF hA
    have hcan1 : M 74 13 = nI c := (hF 74 13 rfl).trans hcan
    have hT1 : TRY M s 80 := fun k hk => by
      rw [hF 106 k rfl]; exact hT k hk
    unfold PL_X10_fewestTries_12
    rw [hcan1]
    refine pk_lt c S (fun c1 => ?_) (fun c1 => ?_)
    · have e : sdf c c = 0 := (sdf_0 hc).mpr (Nat.and_self c)
      have b := tS_le (s := s) hc
      rw [nI_clamp (by omega), hA c c1 e]
      refine ⟨pk_in c 8192 hc, pk_le 9999 _ (fun c2 => kk0 c2 M hF) (fun c2 => kk1 c2 M hF) rfl rfl (by omega) (by omega)⟩
    · have hS : S < 8192 := by omega
      have l2 := sdf_le S c
      rw [sdf_i, nI_s, nI_clamp (by omega)]
      refine pk_eq _ 0 (fun c2 => ?_) (fun c2 => ?_) rfl rfl (by omega)
      · refine h_mfo hSO hS hT1 (fun w hw => ?_) ⟨pk_in S 8192 hS, ih (S + 1) _ (by omega) (by omega) (hF.put rfl) (fun U hU hUc => ?_)⟩
        · have k1 : S &&& w ≤ S := Nat.and_le_left
          have k2 := sdf_le S w
          have k3 : S &&& w ≠ S := hw.2
          have k4 : sdf S w ≠ S := fun e => by
            have h2 := pop_split hS w
            rw [e] at h2
            have := pop_pos (S := S &&& w) (by omega) hw.1
            omega
          have sb := (sub_bits (c := c) hS).mp c2
          refine ⟨hA _ (by omega) ((sub_bits (by omega)).mpr (fun i hi => sb i ?_)), hA _ (by omega) ((sub_bits (by omega)).mpr (fun i hi => sb i ?_))⟩
          · rw [Nat.testBit_and, Bool.and_eq_true] at hi; exact hi.1
          · rw [sdf_bit hS, Bool.and_eq_true] at hi; exact hi.1
        · by_cases e : U = S
          · rw [e, mp_s]
          · rw [mp_i _ e]; exact hA U (by omega) hUc
      · refine ih (S + 1) M (by omega) (by omega) hF (fun U hU hUc => ?_)
        by_cases e : U = S
        · rw [e] at hUc; exact absurd hUc c2
        · exact hA U (by omega) hUc
theorem h_mfew {M0 : Mem} {K : Int32 → Mem → LMem → Prop} (hSO : SOK s) {c : Nat} (hc : c < 8192) (hcan : M0 74 13 = nI c) (hT : TRY M0 s 80) (kk0 : (c = 0 ∨ 9999 ≤ tS s c) → ∀ M, Fr cFm M0 M → K (Int32.ofInt (-6)) M L) (kk1 : c ≠ 0 → tS s c < 9999 → ∀ M, Fr cFm M0 M → K (nI (tS s c)) M L) : P_X10_fewestTries M0 L K := by
  unfold P_X10_fewestTries
  rw [hcan]
  refine pk_eq c 0 (fun c1 => kk0 (Or.inl c1) M0 (Fr.rf _ _)) (fun c1 => hl_mfew hSO hc hcan hT (fun e => kk0 (Or.inr e)) (fun e => kk1 c1 e) 100000 0 M0 (by omega) (by omega) (Fr.rf _ _) (fun U hU => by omega))
end FWM
