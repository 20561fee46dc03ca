/-! ===== masks ===== -/
theorem fa_or (a b : Nat) : nI a ||| nI b = nI (a ||| b) := by
  apply Int32.toBitVec_inj.1
  show BitVec.ofNat 32 a ||| BitVec.ofNat 32 b = BitVec.ofNat 32 (a ||| b)
  apply BitVec.eq_of_getLsbD_eq
  intro i hi
  simp [hi]
theorem fa_xor (a b : Nat) : nI a ^^^ nI b = nI (a ^^^ b) := by
  apply Int32.toBitVec_inj.1
  show BitVec.ofNat 32 a ^^^ BitVec.ofNat 32 b = BitVec.ofNat 32 (a ^^^ b)
  apply BitVec.eq_of_getLsbD_eq
  intro i hi
  simp [hi]
theorem s_l : ∀ n, n < 32 → ((nI n &&& 31).toBitVec.smod 32).toNat = n := by decide +kernel
theorem sh1 {t : Nat} (h : t < 31) : nI 1 <<< (nI t &&& 31) = nI (2 ^ t) := by
  have h2 : 2 ^ t < 2 ^ 31 := Nat.pow_lt_pow_right (by decide) h
  rw [pk_shlN _ t (s_l t (by omega)) (by omega), Nat.one_mul]
theorem m1_n : Int32.ofInt (-1) = nI 4294967295 := rfl
theorem bit_at {B t : Nat} (hB : B < 2 ^ 31) (ht : t < 32) : (nI B >>> (nI t &&& 31)) &&& nI 1 = nI (if B.testBit t = true then 1 else 0) := by
  rw [pk_shrN hB _ t (s_l t ht), fa_and, Nat.and_one_is_mod, Nat.testBit_eq_decide_div_mod_eq]
  by_cases c : B / 2 ^ t % 2 = 1
  · rw [if_pos (decide_eq_true c), c]
  · rw [if_neg (by rw [decide_eq_false c]; exact Bool.false_ne_true)]
    congr 1; omega
theorem fre_iff {B t : Nat} (hB : B < 2 ^ 31) (ht : t < 32) : fre (nI B) t ↔ B.testBit t = false := by
  unfold fre
  rw [bit_at hB ht]
  cases B.testBit t with
  | false => simp
  | true => simp; decide
theorem fre_0 (t : Nat) (ht : t < 32) : fre (Int32.ofInt 0) t := (fre_iff (B := 0) (by decide) ht).mpr (Nat.zero_testBit t)
/-- the mask of those below n that are so -/
def mk (p : Nat → Bool) : Nat → Nat
  | 0 => 0
  | n + 1 => if p n = true then mk p n ||| 2 ^ n else mk p n
theorem mk_bit (p : Nat → Bool) : ∀ n i : Nat, (mk p n).testBit i = (decide (i < n) && p i) := by
  intro n
  induction n with
  | zero => intro i; unfold mk; rw [Nat.zero_testBit]; simp
  | succ n ih =>
    intro i
    unfold mk
    by_cases c : p n = true
    · rw [if_pos c, Nat.testBit_or, ih, Nat.testBit_two_pow]
      by_cases e : n = i
      · subst e; simp [c]
      · have : decide (i < n + 1) = decide (i < n) := decide_eq_decide.mpr (by omega)
        rw [this, decide_eq_false e, Bool.or_false]
    · rw [if_neg c, ih]
      by_cases e : i = n
      · subst e
        rw [Bool.eq_false_iff.mpr c, Bool.and_false, Bool.and_false]
      · have : decide (i < n + 1) = decide (i < n) := decide_eq_decide.mpr (by omega)
        rw [this]
theorem mk_lt (p : Nat → Bool) (n : Nat) : mk p n < 2 ^ n := by
  refine Nat.lt_pow_two_of_testBit _ (fun i hi => ?_)
  rw [mk_bit, decide_eq_false (by omega)]; rfl
theorem mk_lt' (p : Nat → Bool) {n m : Nat} (h : n ≤ m) : mk p n < 2 ^ m := Nat.lt_of_lt_of_le (mk_lt p n) (Nat.pow_le_pow_right (by decide) h)
section OKD
variable {M : Mem} {h : Hse} {L : LMem}
theorem hl_ofKind (hC : HC M h) (h12 : qn h ≤ 12) (H : HOK h) {K : Int32 → Mem → LMem → Prop} {kd : Nat} (hkd : kd < 127) (kk : K (nI (mk (fun t => Nat.beq (qk h t) kd) (qn h))) M L) :
    ∀ (f j : Nat), j ≤ qn h → qn h < f + j → PL_X2_ofKind_4 K f (nI kd) (nI (mk (fun t => Nat.beq (qk h t) kd) j)) (nI j) M L := by
  intro f
  induction f with
  | zero => intro j h1 h2; omega
  | succ f ih =>
    intro j h1 h2
    unfold PL_X2_ofKind_4
    refine pk_le (qn h) j (fun c => ?_) (fun c => ⟨pk_in j 12 (by omega), ?_⟩) hC.1
    · rw [show j = qn h by omega]; exact kk
    · have hk := H.2 j c
      have ih2 := ih (j + 1) c (by omega)
      rw [nI_clamp (by omega), (hC.2 j c).2.2.1, nI_s]
      refine pk_eq (qk h j) kd (fun e => ?_) (fun e => ?_) rfl rfl (by omega) (by omega)
      · rw [show Int32.ofInt 1 = nI 1 from rfl, sh1 (by omega), fa_or]
        rw [mk, if_pos (by rw [e]; exact Nat.beq_refl kd)] at ih2
        exact ih2
      · rw [mk, if_neg (by rw [nbf e]; exact Bool.false_ne_true)] at ih2
        exact ih2
theorem h_ofKind (hC : HC M h) (h12 : qn h ≤ 12) (H : HOK h) {K : Int32 → Mem → LMem → Prop} {kd : Nat} (hkd : kd < 127) (kk : K (nI (mk (fun t => Nat.beq (qk h t) kd) (qn h))) M L) : P_X2_ofKind (nI kd) M L K := by
  unfold P_X2_ofKind
  exact hl_ofKind hC h12 H hkd kk 100000 0 (by omega) (by omega)
/-- what can be, as tries begin -/
def opn (h : Hse) : Nat := mk (fun t => !(Nat.beq (qk h t) 120)) (qn h) ||| 4096
theorem opn_lt (h12 : qn h ≤ 12) : opn h < 8192 := Nat.or_lt_two_pow (n := 13) (mk_lt' _ (by omega)) (by decide)
theorem h_beginTries (hC : HC M h) (h12 : qn h ≤ 12) (H : HOK h) {K : Mem → LMem → Prop} (kk : K (mput (mput M 3 9 (nI 0)) 3 10 (nI (opn h))) L) : P_X3_beginTries M L K := by
  have hC1 : HC (mput M 3 9 (Int32.ofInt 0)) h := by
    refine ⟨(mp_p _ (by decide)).trans hC.1, fun t ht => ?_⟩
    obtain ⟨a1, a2, a3, a4⟩ := hC.2 t ht
    exact ⟨(mp_p _ (by decide)).trans a1, (mp_p _ (by decide)).trans a2, (mp_p _ (by decide)).trans a3, (mp_p _ (by decide)).trans a4⟩
  unfold P_X3_beginTries
  refine h_ofKind (kd := 120) hC1 h12 H (by decide) ?_
  have hp : 2 ^ qn h < 2 ^ 31 := Nat.pow_lt_pow_right (by decide) (by omega)
  have hp1 : 1 ≤ 2 ^ qn h := Nat.one_le_two_pow
  rw [hC.1, show Int32.ofInt 1 = nI 1 from rfl, sh1 (by omega), pk_sub hp1, m1_n, fa_xor, fa_and, show Int32.ofInt 4096 = nI 4096 from rfl, fa_or]
  have e : (2 ^ qn h - 1 &&& (mk (fun t => Nat.beq (qk h t) 120) (qn h) ^^^ 4294967295)) ||| 4096 = opn h := by
    unfold opn
    congr 1
    refine Nat.eq_of_testBit_eq (fun i => ?_)
    rw [Nat.testBit_and, Nat.testBit_xor, mk_bit, mk_bit, Nat.testBit_two_pow_sub_one, show (4294967295 : Nat) = 2 ^ 32 - 1 from rfl, Nat.testBit_two_pow_sub_one]
    by_cases c : i < qn h
    · rw [decide_eq_true c, decide_eq_true (by omega : i < 32)]
      cases Nat.beq (qk h i) 120 <;> rfl
    · rw [decide_eq_false c]; rfl
  rw [e]
  exact kk
end OKD

