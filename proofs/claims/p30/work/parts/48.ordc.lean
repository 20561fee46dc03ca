/-! ===== orders: longs as bits (the rows wb_ began as a starting text of the kit) ===== -/
theorem wb_tb (n : Nat) : (lN n).toBitVec = BitVec.ofNat 64 n := rfl
theorem wb_inj {a b : Int64} (h : a.toBitVec = b.toBitVec) : a = b := Int64.toBitVec_inj.mp h
theorem wb_c : ∀ k, k < 64 → ((nI k).toInt64 &&& 63) = lN k := by decide +kernel
theorem wb_sm : ∀ k, k < 64 → (BitVec.ofNat 64 k).smod 64 = BitVec.ofNat 64 k := by decide +kernel
theorem wb_shl (n : Nat) {k : Nat} (hk : k < 64) : lN n <<< ((nI k).toInt64 &&& 63) = lN (n * 2 ^ k) := by
  rw [wb_c k hk]
  apply wb_inj
  rw [Int64.toBitVec_shiftLeft, wb_tb, wb_tb, wb_tb, wb_sm k hk]
  apply BitVec.eq_of_toNat_eq
  rw [BitVec.shiftLeft_eq', BitVec.toNat_shiftLeft, BitVec.toNat_ofNat, BitVec.toNat_ofNat, BitVec.toNat_ofNat, Nat.mod_eq_of_lt (show k < 2 ^ 64 by omega), Nat.shiftLeft_eq, Nat.mul_mod, Nat.mod_mod, ← Nat.mul_mod]
theorem wb_and {a b : Nat} (ha : a < 2 ^ 64) (hb : b < 2 ^ 64) : lN a &&& lN b = lN (a &&& b) := by
  apply wb_inj
  rw [Int64.toBitVec_and, wb_tb, wb_tb, wb_tb]
  apply BitVec.eq_of_toNat_eq
  rw [BitVec.toNat_and, BitVec.toNat_ofNat, BitVec.toNat_ofNat, BitVec.toNat_ofNat, Nat.mod_eq_of_lt ha, Nat.mod_eq_of_lt hb, Nat.mod_eq_of_lt (Nat.and_lt_two_pow _ hb)]
theorem wb_or {a b : Nat} (ha : a < 2 ^ 64) (hb : b < 2 ^ 64) : lN a ||| lN b = lN (a ||| b) := by
  apply wb_inj
  rw [Int64.toBitVec_or, wb_tb, wb_tb, wb_tb]
  apply BitVec.eq_of_toNat_eq
  rw [BitVec.toNat_or, BitVec.toNat_ofNat, BitVec.toNat_ofNat, BitVec.toNat_ofNat, Nat.mod_eq_of_lt ha, Nat.mod_eq_of_lt hb, Nat.mod_eq_of_lt (Nat.or_lt_two_pow ha hb)]
/-! the spans, abstractly -/
def oR (s : Stt) (c : Nat) : Nat := 2 ^ sC s 0 c ||| 2 ^ sC s 1 c
noncomputable def oT (s : Stt) (c : Nat) : Nat := wm s (sC s 0 c) (sC s 1 c)
def act (s : Stt) (p st : Nat → Nat) (i m : Nat) : Prop := st i ≤ m ∧ m < st i + sC s 2 (p i)
/-- the call at place i stands in the way of the call at place k, at a minute when both would go on -/
def cnf (s : Stt) (p st : Nat → Nat) (k m i : Nat) : Prop := oR s (p k) &&& oR s (p i) ≠ 0 ∨ (∃ t, (oT s (p i)).testBit t = true ∧ (oT s (p k)).testBit t = true ∧ qk (sH s) t ≠ 61) ∨ ∃ i', i' < i ∧ act s p st i' m ∧ ∃ t, (oT s (p i')).testBit t = true ∧ (oT s (p i)).testBit t = true ∧ (oT s (p k)).testBit t = true
def BZ (s : Stt) (p st : Nat → Nat) (k j m : Nat) : Prop := ∃ i, i < j ∧ act s p st i m ∧ cnf s p st k m i
def okS (s : Stt) (p st : Nat → Nat) (k b : Nat) : Prop := ∀ m, b ≤ m → m < b + sC s 2 (p k) → ¬ BZ s p st k k m
def isS (s : Stt) (p st : Nat → Nat) (k b : Nat) : Prop := okS s p st k b ∧ ∀ b', b' < b → ¬ okS s p st k b'
theorem isS_un {s : Stt} {p st : Nat → Nat} {k a b : Nat} (h1 : isS s p st k a) (h2 : isS s p st k b) : a = b := by
  rcases Nat.lt_trichotomy a b with e | e | e
  · exact absurd h1.1 (h2.2 a e)
  · exact e
  · exact absurd h2.1 (h1.2 b e)
noncomputable def stf (s : Stt) (p : Nat → Nat) : Nat → Nat → Nat
  | 0 => fun _ => 0
  | k + 1 => fup (stf s p k) k (Classical.epsilon (isS s p (stf s p k) k))
noncomputable def sts (s : Stt) (p : Nat → Nat) : Nat → Nat := stf s p 5
theorem stf_st (s : Stt) (p : Nat → Nat) (i : Nat) : ∀ d, stf s p (i + 1 + d) i = stf s p (i + 1) i := by
  intro d
  induction d with
  | zero => rfl
  | succ d ih => rw [← ih, show i + 1 + (d + 1) = (i + 1 + d) + 1 by omega, stf, fup_n (by omega)]
theorem BZ_ext {s : Stt} {p st st' : Nat → Nat} {k j m : Nat} (h : ∀ i, i < j → st i = st' i) : BZ s p st k j m ↔ BZ s p st' k j m := by
  have ea : ∀ i, i < j → (act s p st i m ↔ act s p st' i m) := fun i hi => by unfold act; rw [h i hi]
  constructor
  · intro ⟨i, h1, h2, h3⟩
    refine ⟨i, h1, (ea i h1).mp h2, ?_⟩
    rcases h3 with h3 | h3 | ⟨i', g1, g2, g3⟩
    · exact Or.inl h3
    · exact Or.inr (Or.inl h3)
    · exact Or.inr (Or.inr ⟨i', g1, (ea i' (by omega)).mp g2, g3⟩)
  · intro ⟨i, h1, h2, h3⟩
    refine ⟨i, h1, (ea i h1).mpr h2, ?_⟩
    rcases h3 with h3 | h3 | ⟨i', g1, g2, g3⟩
    · exact Or.inl h3
    · exact Or.inr (Or.inl h3)
    · exact Or.inr (Or.inr ⟨i', g1, (ea i' (by omega)).mpr g2, g3⟩)
/-- an order of the n waiting calls -/
def OOK (s : Stt) (p : Nat → Nat) : Prop := (∀ i, i < sG s 2 → p i < sG s 2) ∧ ∀ i j, i < sG s 2 → j < sG s 2 → p i = p j → i = j
section ORD
variable {s : Stt} {p : Nat → Nat}
theorem oM_in (hS : SOK s) (hp : OOK s p) {i : Nat} (hi : i < sG s 2) : 1 ≤ sC s 2 (p i) ∧ sC s 2 (p i) ≤ 9 := (hS.2.2.2.2.2.2.2.2 _ (hp.1 i hi)).2.2.2.1
theorem st_ok (hS : SOK s) (hp : OOK s p) : ∀ k, k < sG s 2 → isS s p (sts s p) k (sts s p k) ∧ sts s p k ≤ 9 * k := by
  have h5 := hS.2.2.2.2.1
  intro k
  induction k using Nat.strongRecOn with
  | ind k ih =>
    intro hk
    have e1 : ∀ i, i < k → stf s p k i = sts s p i := fun i hi => by
      unfold sts
      have a := stf_st s p i (k - (i + 1))
      have b := stf_st s p i (5 - (i + 1))
      rw [show i + 1 + (k - (i + 1)) = k by omega] at a
      rw [show i + 1 + (5 - (i + 1)) = 5 by omega] at b
      rw [a, b]
    have e2 : sts s p k = Classical.epsilon (isS s p (stf s p k) k) := by
      unfold sts
      have b := stf_st s p k (5 - (k + 1))
      rw [show k + 1 + (5 - (k + 1)) = 5 by omega] at b
      rw [b, stf, fup_s]
    have eok : ∀ b, okS s p (stf s p k) k b ↔ okS s p (sts s p) k b := fun b => by
      unfold okS
      exact ⟨fun h m m1 m2 hb => h m m1 m2 ((BZ_ext e1).mpr hb), fun h m m1 m2 hb => h m m1 m2 ((BZ_ext e1).mp hb)⟩
    have hfree : okS s p (sts s p) k (9 * k) := by
      intro m m1 m2 ⟨i, i1, i2, _⟩
      have h1 := (ih i i1 (by omega)).2
      have h2 := (oM_in hS hp (show i < sG s 2 by omega)).2
      have := i2.2
      omega
    obtain ⟨b, b1, b2⟩ := pk_least (okS s p (sts s p) k) ⟨9 * k, hfree⟩
    have hb9 : b ≤ 9 * k := Nat.le_of_not_lt (fun e => b2 _ e hfree)
    have hex : isS s p (stf s p k) k b := ⟨(eok b).mpr b1, fun b' hb' h => b2 b' hb' ((eok b').mp h)⟩
    have he := Classical.epsilon_spec (p := isS s p (stf s p k) k) ⟨b, hex⟩
    have hun := isS_un he hex
    rw [e2, hun]
    exact ⟨⟨b1, b2⟩, hb9⟩
noncomputable def en (s : Stt) (p : Nat → Nat) : Nat → Nat
  | 0 => 0
  | k + 1 => mx (en s p k) (sts s p k + sC s 2 (p k))
theorem en_le (hS : SOK s) (hp : OOK s p) : ∀ k, k ≤ sG s 2 → en s p k ≤ 9 * k := by
  intro k
  induction k with
  | zero => intro _; exact Nat.le_refl _
  | succ k ih =>
    intro hk
    have h1 := ih (by omega)
    have h2 := (st_ok hS hp k (by omega)).2
    have h3 := (oM_in hS hp (show k < sG s 2 by omega)).2
    have := mx_le (en s p k) (sts s p k + sC s 2 (p k))
    rw [en]; omega
def lte (s : Stt) (p : Nat → Nat) (k : Nat) : Prop := ∃ i, i < k ∧ sC s 3 (p i) < sts s p i + sC s 2 (p i)
/-! bits of spans -/
def spn (b m : Nat) : Nat := (2 ^ m - 1) * 2 ^ b
theorem spn_bit (b m i : Nat) : (spn b m).testBit i = true ↔ b ≤ i ∧ i < b + m := by
  unfold spn
  rw [← Nat.shiftLeft_eq, Nat.testBit_shiftLeft, Nat.testBit_two_pow_sub_one, Bool.and_eq_true, decide_eq_true_iff, decide_eq_true_iff]
  omega
theorem spn_lt {b m n : Nat} (h : b + m ≤ n) : spn b m < 2 ^ n := by
  refine Nat.lt_pow_two_of_testBit _ (fun i hi => ?_)
  cases e : (spn b m).testBit i with
  | false => rfl
  | true => have := (spn_bit b m i).mp e; omega
theorem span_eq {b m : Nat} (hb : b < 60) (hm : m < 60) (M : Mem) : f_X4_span M (nI b) (nI m) = lN (spn b m) := by
  unfold f_X4_span spn
  have e1 : Int64.ofNat 1 = lN 1 := rfl
  have h1 : 1 ≤ 2 ^ m := Nat.one_le_two_pow
  rw [e1, wb_shl 1 (by omega), lN_sub (by omega), wb_shl _ (by omega), Nat.one_mul]
theorem lg0 {a : Nat} (h : a < 2 ^ 63) : lg_cmp (lN a) (Int64.ofNat 0) = 0 ↔ a = 0 := by
  rw [lg_cmp_eq]
  exact pk_lEQ (b := 0) h (by decide)
/-! the class -/
/-- what its rows hold -/
def OC (M : Mem) (s : Stt) : Prop := M 49 7 = nI (sG s 2) ∧ M 49 8 = nI (dbl (sH s)) ∧ ∀ c, c < sG s 2 → M 50 c = nI (oR s c) ∧ M 51 c = nI (oT s c) ∧ M 52 c = nI (sC s 2 c) ∧ M 53 c = nI (sC s 3 c)
def ORDm (M : Mem) (p : Nat → Nat) : Prop := ∀ i, i < 5 → M 54 i = nI (p i)
variable {M : Mem} {L : LMem}
theorem oR_lt (hS : SOK s) {c : Nat} (hc : c < sG s 2) : oR s c < 2 ^ 8 := by
  have h := hS.2.2.2.2.2.2.2.2 c hc
  exact Nat.or_lt_two_pow (Nat.pow_lt_pow_right (by decide) h.1) (Nat.pow_lt_pow_right (by decide) h.2.1)
theorem oT_lt (hS : SOK s) {c : Nat} (hc : c < sG s 2) : oT s c < 2 ^ 12 := by
  have h := hS.2.2.2.2.2.2.2.2 c hc
  exact wm_lt hS h.1 h.2.1
theorem ne0_bit {a : Nat} : a ≠ 0 ↔ ∃ t, a.testBit t = true := by
  constructor
  · intro h
    refine Classical.byContradiction (fun hn => h (Nat.eq_of_testBit_eq (fun i => ?_)))
    rw [Nat.zero_testBit]
    cases e : a.testBit i with
    | false => rfl
    | true => exact absurd ⟨i, e⟩ hn
  · intro ⟨t, ht⟩ e
    rw [e, Nat.zero_testBit] at ht
    exact absurd ht Bool.false_ne_true
theorem hl_minutesOf (hS : SOK s) (hp : OOK s p) (hC : OC M s) (hO : ORDm M p) {sh i : Nat} (hsh : sh < 2 ^ 12) (hi : i < sG s 2) (hL : ∀ j, j < i → L j = lN (spn (sts s p j) (sC s 2 (p j)))) {K : Int64 → Mem → LMem → Prop} (kk : ∀ W, W < 2 ^ 50 → (∀ m, W.testBit m = true ↔ ∃ i', i' < i ∧ act s p (sts s p) i' m ∧ oT s (p i') &&& sh ≠ 0) → K (lN W) M L) :
    ∀ (f j W : Nat), j ≤ i → i < f + j → W < 2 ^ 50 → (∀ m, W.testBit m = true ↔ ∃ i', i' < j ∧ act s p (sts s p) i' m ∧ oT s (p i') &&& sh ≠ 0) → PL_X4_minutesOf_5 K f (nI sh) (nI i) (lN W) (nI j) M L := by
  intro f
  have h5 := hS.2.2.2.2.1
  induction f with
  | zero => intro j W h1 h2; omega
  | succ f ih =>
    intro j W h1 h2 hW hb
    unfold PL_X4_minutesOf_5
    refine pk_le i j (fun c1 => ?_) (fun c1 => ⟨pk_in j 5 (by omega), ?_⟩) rfl
    · have e : j = i := by omega
      subst e
      exact kk W hW hb
    · have hpj := hp.1 j (by omega)
      have hT := oT_lt hS hpj
      have hst := (st_ok hS hp j (by omega)).2
      have hM9 := oM_in hS hp (show j < sG s 2 by omega)
      have hsp := spn_lt (b := sts s p j) (m := sC s 2 (p j)) (n := 50) (by omega)
      have hand : oT s (p j) &&& sh < 2 ^ 12 := and_lt hsh
      rw [nI_clamp (by omega), hO j (by omega), nI_clamp (by omega), (hC.2.2 _ hpj).2.1, fa_and, hL j c1, nI_s, wb_or (by omega) (by omega)]
      refine ⟨pk_in (p j) 5 (by omega), pk_eq _ 0 (fun c2 => ih (j + 1) W (by omega) (by omega) hW (fun m => ?_)) (fun c2 => ih (j + 1) _ (by omega) (by omega) (Nat.or_lt_two_pow hW hsp) (fun m => ?_)) rfl rfl (by omega)⟩
      · rw [hb m]
        refine ⟨fun ⟨i', g1, g2, g3⟩ => ⟨i', by omega, g2, g3⟩, fun ⟨i', g1, g2, g3⟩ => ⟨i', ?_, g2, g3⟩⟩
        by_cases e : i' = j
        · rw [e] at g3; exact absurd c2 g3
        · omega
      · rw [Nat.testBit_or, Bool.or_eq_true, hb m, spn_bit]
        constructor
        · intro h
          rcases h with ⟨i', g1, g2, g3⟩ | h
          · exact ⟨i', by omega, g2, g3⟩
          · exact ⟨j, by omega, h, c2⟩
        · intro ⟨i', g1, g2, g3⟩
          by_cases e : i' = j
          · rw [e] at g2; exact Or.inr g2
          · exact Or.inl ⟨i', by omega, g2, g3⟩
theorem dbl_lt (hS : SOK s) : dbl (sH s) < 2 ^ 12 := mk_lt' _ hS.2.1
theorem dbl_bit (hS : SOK s) {c t : Nat} (hc : c < sG s 2) (ht : (oT s c).testBit t = true) : (dbl (sH s)).testBit t = true ↔ qk (sH s) t = 61 := by
  have h := hS.2.2.2.2.2.2.2.2 c hc
  have htq : t < qn (sH s) := by
    have : oT s c < 2 ^ qn (sH s) := by
      unfold oT wm
      split
      · next c1 => exact wbn_lt _ (s_wok hS h.1 h.2.1 (fin_of hS c1)).2.1
      · exact Nat.two_pow_pos _
    rcases Nat.lt_or_ge t (qn (sH s)) with e | e
    · exact e
    · rw [Nat.testBit_lt_two_pow (Nat.lt_of_lt_of_le this (Nat.pow_le_pow_right (by decide) e))] at ht
      exact absurd ht Bool.false_ne_true
  unfold dbl
  rw [mk_bit, decide_eq_true htq, Bool.true_and]
  exact ⟨fun h => Nat.eq_of_beq_eq_true h, fun h => by rw [h]; exact Nat.beq_refl _⟩
theorem hl_busy (hS : SOK s) (hp : OOK s p) (hC : OC M s) (hO : ORDm M p) {k : Nat} (hk : k < sG s 2) (hL : ∀ j, j < k → L j = lN (spn (sts s p j) (sC s 2 (p j)))) {K : Int64 → Mem → LMem → Prop} (kk : ∀ W, W < 2 ^ 50 → (∀ m, W.testBit m = true ↔ BZ s p (sts s p) k k m) → K (lN W) M L) :
    ∀ (f j W : Nat), j ≤ k → k < f + j → W < 2 ^ 50 → (∀ m, W.testBit m = true ↔ BZ s p (sts s p) k j m) → PL_X4_busyMinutes_13 K f (nI k) (lN W) (nI (p k)) (nI j) M L := by
  intro f
  have h5 := hS.2.2.2.2.1
  have hpk := hp.1 k hk
  have hTk := oT_lt hS hpk
  have hRk := oR_lt hS hpk
  have hdl := dbl_lt hS
  induction f with
  | zero => intro j W h1 h2; omega
  | succ f ih =>
    intro j W h1 h2 hW hb
    unfold PL_X4_busyMinutes_13
    refine pk_le k j (fun c1 => ?_) (fun c1 => ⟨pk_in j 5 (by omega), pk_in (p k) 5 (by omega), ?_⟩) rfl
    · have e : j = k := by omega
      subst e
      exact kk W hW hb
    · have hpj := hp.1 j (by omega)
      have hTj := oT_lt hS hpj
      have hRj := oR_lt hS hpj
      have hst := (st_ok hS hp j (by omega)).2
      have hM9 := oM_in hS hp (show j < sG s 2 by omega)
      have hsp := spn_lt (b := sts s p j) (m := sC s 2 (p j)) (n := 50) (by omega)
      have hs1 : oR s (p k) &&& oR s (p j) < 2 ^ 8 := and_lt hRj
      have hs2 : oT s (p k) &&& oT s (p j) < 2 ^ 12 := and_lt hTj
      have hs3 := sdf_le (oT s (p k) &&& oT s (p j)) (dbl (sH s))
      rw [nI_clamp (by omega : j < 2 ^ 31), hO j (by omega), nI_clamp (by omega : p k < 2 ^ 31), nI_clamp (by omega : p j < 2 ^ 31), (hC.2.2 _ hpj).1, (hC.2.2 _ hpk).1, (hC.2.2 _ hpj).2.1, (hC.2.2 _ hpk).2.1, hC.2.1, fa_and, fa_and, sdf_i, hL j c1, nI_s, wb_or (by omega) (by omega)]
      have all : cnf s p (sts s p) k = cnf s p (sts s p) k := rfl
      have put : (∀ m, act s p (sts s p) j m → cnf s p (sts s p) k m j) → PL_X4_busyMinutes_13 K f (nI k) (lN (W ||| spn (sts s p j) (sC s 2 (p j)))) (nI (p k)) (nI (j + 1)) M L := fun hall => ih (j + 1) _ (by omega) (by omega) (Nat.or_lt_two_pow hW hsp) (fun m => by
        rw [Nat.testBit_or, Bool.or_eq_true, hb m, spn_bit]
        constructor
        · intro h
          rcases h with ⟨i, g1, g2⟩ | h
          · exact ⟨i, by omega, g2⟩
          · exact ⟨j, by omega, h, hall m h⟩
        · intro ⟨i, g1, g2, g3⟩
          by_cases e : i = j
          · rw [e] at g2; exact Or.inr g2
          · exact Or.inl ⟨i, by omega, g2, g3⟩)
      refine ⟨pk_in (p j) 5 (by omega), pk_eq _ 0 (fun c2 => pk_eq _ 0 (fun c3 => ?_) (fun c3 => put (fun m _ => Or.inr (Or.inl ?_))) rfl rfl (by omega)) (fun c2 => put (fun m _ => Or.inl c2)) rfl rfl (by omega)⟩
      · unfold P_X4_minutesOf
        refine hl_minutesOf hS hp hC hO hs2 (by omega) (fun j' hj' => hL j' (by omega)) (fun V hV hVb => ?_) 100000 0 0 (by omega) (by omega) (by decide) (fun m => ⟨fun h => by rw [Nat.zero_testBit] at h; exact absurd h Bool.false_ne_true, fun ⟨i', g, _⟩ => absurd g (Nat.not_lt_zero _)⟩)
        have hsv : spn (sts s p j) (sC s 2 (p j)) &&& V < 2 ^ 50 := and_lt hV
        rw [wb_and (by omega) (by omega), wb_or (by omega) (by omega)]
        refine ih (j + 1) _ (by omega) (by omega) (Nat.or_lt_two_pow hW hsv) (fun m => ?_)
        rw [Nat.testBit_or, Bool.or_eq_true, hb m, Nat.testBit_and, Bool.and_eq_true, spn_bit, hVb m]
        constructor
        · intro h
          rcases h with ⟨i, g1, g2⟩ | ⟨h1, i', g1, g2, g3⟩
          · exact ⟨i, by omega, g2⟩
          · obtain ⟨t, ht⟩ := ne0_bit.mp g3
            rw [Nat.testBit_and, Nat.testBit_and, Bool.and_eq_true, Bool.and_eq_true] at ht
            exact ⟨j, by omega, h1, Or.inr (Or.inr ⟨i', g1, g2, t, ht.1, ht.2.2, ht.2.1⟩)⟩
        · intro ⟨i, g1, g2, g3⟩
          by_cases e : i = j
          · subst e
            refine Or.inr ⟨g2, ?_⟩
            rcases g3 with g3 | ⟨t, t1, t2, t3⟩ | ⟨i', k1, k2, t, t1, t2, t3⟩
            · exact absurd c2 g3
            · have hz : (sdf (oT s (p k) &&& oT s (p i)) (dbl (sH s))).testBit t = true := by
                rw [sdf_bit (by omega), Nat.testBit_and, t1, t2]
                have : (dbl (sH s)).testBit t = false := Bool.eq_false_iff.mpr (fun h => t3 ((dbl_bit hS hpj t1).mp h))
                rw [this]; rfl
              rw [c3, Nat.zero_testBit] at hz
              exact absurd hz Bool.false_ne_true
            · refine ⟨i', k1, k2, ne0_bit.mpr ⟨t, ?_⟩⟩
              rw [Nat.testBit_and, Nat.testBit_and, t1, t2, t3]; rfl
          · exact Or.inl ⟨i, by omega, g2, g3⟩
      · obtain ⟨t, ht⟩ := ne0_bit.mp c3
        rw [sdf_bit (by omega), Nat.testBit_and, Bool.and_eq_true, Bool.and_eq_true] at ht
        refine ⟨t, ht.1.2, ht.1.1, fun e => ?_⟩
        rw [(dbl_bit hS hpj ht.1.2).mpr e] at ht
        exact absurd ht.2 (by decide)
theorem hl_firstFree {M : Mem} {L : LMem} (hS : SOK s) (hp : OOK s p) {k W : Nat} (hk : k < sG s 2) (hW : W < 2 ^ 50) (hb : ∀ m, W.testBit m = true ↔ BZ s p (sts s p) k k m) {K : Int32 → Mem → LMem → Prop} (kk : K (nI (sts s p k)) M L) :
    ∀ (f b : Nat), b ≤ sts s p k → sts s p k < f + b → PL_X4_firstFree_2 K f (lN W) (nI (sC s 2 (p k))) (nI b) M L := by
  intro f
  have h5 := hS.2.2.2.2.1
  obtain ⟨hst, hs9⟩ := st_ok hS hp k hk
  have hM9 := oM_in hS hp hk
  induction f with
  | zero => intro b h1 h2; omega
  | succ f ih =>
    intro b h1 h2
    have hsp := spn_lt (b := b) (m := sC s 2 (p k)) (n := 60) (by omega)
    have ha : W &&& spn b (sC s 2 (p k)) < 2 ^ 50 := Nat.lt_of_le_of_lt Nat.and_le_left hW
    have key : W &&& spn b (sC s 2 (p k)) = 0 ↔ okS s p (sts s p) k b := by
      constructor
      · intro e m m1 m2 hz
        have : (W &&& spn b (sC s 2 (p k))).testBit m = true := by
          rw [Nat.testBit_and, (hb m).mpr hz, (spn_bit _ _ _).mpr ⟨m1, m2⟩]; rfl
        rw [e, Nat.zero_testBit] at this
        exact absurd this Bool.false_ne_true
      · intro h
        refine Classical.byContradiction (fun hn => ?_)
        obtain ⟨m, hm⟩ := ne0_bit.mp hn
        rw [Nat.testBit_and, Bool.and_eq_true, spn_bit] at hm
        exact h m hm.2.1 hm.2.2 ((hb m).mp hm.1)
    unfold PL_X4_firstFree_2
    refine pk_le 55 b (fun c1 => by omega) (fun c1 => ?_)
    rw [span_eq (by omega) (by omega), wb_and (by omega) (by omega), nI_s]
    refine br_c (fun c2 => ?_) (fun c2 => ?_)
    · have hok := key.mp ((lg0 (by omega)).mp c2)
      have e : b = sts s p k := by
        rcases Nat.lt_or_ge b (sts s p k) with e | e
        · exact absurd hok (hst.2 b e)
        · omega
      rw [e]; exact kk
    · have hno : ¬ okS s p (sts s p) k b := fun h => c2 ((lg0 (by omega)).mpr (key.mpr h))
      have : b ≠ sts s p k := fun e => hno (by rw [e]; exact hst.1)
      exact ih (b + 1) (by omega) (by omega)
theorem hl_orderEnd {M : Mem} (hS : SOK s) (hp : OOK s p) (hC : OC M s) (hO : ORDm M p) {v1 : Int32} {K : Int32 → Mem → LMem → Prop} (kk0 : ∀ L', v1 = 0 ∨ ¬ lte s p (sG s 2) → K (nI (en s p (sG s 2))) M L') (kk1 : ∀ L', ¬ v1 = 0 → lte s p (sG s 2) → K (nI 64) M L') :
    ∀ (f k : Nat) (L : LMem), k ≤ sG s 2 → sG s 2 < f + k → (∀ j, j < k → L j = lN (spn (sts s p j) (sC s 2 (p j)))) → (v1 = 0 ∨ ¬ lte s p k) → PL_X4_orderEnd_4 K f v1 (nI (en s p k)) (nI k) M L := by
  intro f
  have h5 := hS.2.2.2.2.1
  induction f with
  | zero => intro k L h1 h2; omega
  | succ f ih =>
    intro k L h1 h2 hL hl
    unfold PL_X4_orderEnd_4
    refine pk_le (sG s 2) k (fun c1 => ?_) (fun c1 => ⟨pk_in k 5 (by omega), ?_⟩) hC.1
    · rw [show k = sG s 2 by omega] at hl ⊢
      exact kk0 L hl
    · have hpk := hp.1 k c1
      have hk9 := (st_ok hS hp k c1).2
      have hM9 := oM_in hS hp c1
      have hen := en_le hS hp k h1
      have hdu := (hS.2.2.2.2.2.2.2.2 _ hpk).2.2.2.2
      have e1 : (nI k).toNatClampNeg = k := nI_clamp (by omega)
      have e2 : (nI (p k)).toNatClampNeg = p k := nI_clamp (by omega)
      rw [e1, hO k (by omega), e2]
      unfold P_X4_busyMinutes
      rw [e1, hO k (by omega)]
      refine ⟨pk_in k 5 (by omega), hl_busy hS hp hC hO c1 hL (fun W hW hb => ⟨pk_in (p k) 5 (by omega), ?_⟩) 100000 0 0 (by omega) (by omega) (by decide) (fun m => ⟨fun h => by rw [Nat.zero_testBit] at h; exact absurd h Bool.false_ne_true, fun ⟨i', g, _⟩ => absurd g (Nat.not_lt_zero _)⟩)⟩
      rw [(hC.2.2 _ hpk).2.2.1]
      unfold P_X4_firstFree
      refine hl_firstFree hS hp c1 hW hb ?_ 100000 0 (by omega) (by omega)
      rw [(hC.2.2 _ hpk).2.2.1, (hC.2.2 _ hpk).2.2.2]
      have go1 : (v1 = 0 ∨ ¬ sC s 3 (p k) < sts s p k + sC s 2 (p k)) → PL_X4_orderEnd_4 K f v1 (nI (mx (en s p k) (sts s p k + sC s 2 (p k)))) (nI (k + 1)) M (vp_updL L k (lN (spn (sts s p k) (sC s 2 (p k))))) := fun h => ih (k + 1) _ (by omega) (by omega) (fun j hj => by
        by_cases e : j = k
        · rw [e, pk_uLs]
        · rw [pk_uLn e]; exact hL j (by omega)) (by
        rcases h with h | h
        · exact Or.inl h
        · rcases hl with hl | hl
          · exact Or.inl hl
          · refine Or.inr (fun ⟨i, i1, i2⟩ => ?_)
            by_cases e : i = k
            · rw [e] at i2; exact h i2
            · exact hl ⟨i, by omega, i2⟩)
      rw [nI_add, mx_i (by omega) (by omega), span_eq (by omega) (by omega), nI_s]
      refine br_c (fun c2 => go1 (Or.inl c2)) (fun c2 => pk_le _ _ (fun c3 => go1 (Or.inr (by omega))) (fun c3 => kk1 L c2 ⟨k, c1, c3⟩) rfl rfl (by omega) (by omega))
theorem h_orderEnd {M : Mem} {L : LMem} (hS : SOK s) (hp : OOK s p) (hC : OC M s) (hO : ORDm M p) {v1 : Int32} {K : Int32 → Mem → LMem → Prop} (kk0 : ∀ L', v1 = 0 ∨ ¬ lte s p (sG s 2) → K (nI (en s p (sG s 2))) M L') (kk1 : ∀ L', ¬ v1 = 0 → lte s p (sG s 2) → K (nI 64) M L') : P_X4_orderEnd v1 M L K := by
  unfold P_X4_orderEnd
  have h5 := hS.2.2.2.2.1
  exact hl_orderEnd hS hp hC hO kk0 kk1 100000 0 L (by omega) (by omega) (fun j hj => by omega) (Or.inr (fun ⟨i, i1, _⟩ => absurd i1 (Nat.not_lt_zero i)))
end ORD

