/-! ===== bounds, and the search ===== -/
theorem pop_1 : ∀ q, q < 13 → popN (2 ^ q) = 1 := by decide +kernel
theorem sbs_pop {S c : Nat} (h : sbs S c) (hc : c < 8192) (w : Nat) : popN (S &&& w) ≤ popN (c &&& w) ∧ popN (sdf S w) ≤ popN (sdf c w) := by
  constructor
  · refine cnt_le 13 (fun i _ hi => ?_)
    rw [Nat.testBit_and, Bool.and_eq_true] at hi ⊢
    exact ⟨h.2 i hi.1, hi.2⟩
  · refine cnt_le 13 (fun i _ hi => ?_)
    rw [sdf_bit h.1, Bool.and_eq_true] at hi
    rw [sdf_bit hc, Bool.and_eq_true]
    exact ⟨h.2 i hi.1, hi.2⟩
theorem two_bits {S : Nat} (hS : S < 8192) (h : 2 ≤ popN S) : ∃ q d, S.testBit q = true ∧ S.testBit d = true ∧ q ≠ d := by
  obtain ⟨q, q1, q2⟩ := bit_ex hS (fun e => by rw [e, pop_0] at h; omega)
  have e : S &&& 2 ^ q = 2 ^ q := Nat.eq_of_testBit_eq (fun i => by
    rw [Nat.testBit_and, Nat.testBit_two_pow]
    by_cases e : q = i
    · subst e; rw [q2]; simp
    · rw [decide_eq_false e, Bool.and_false])
  have h2 := pop_split hS (2 ^ q)
  rw [e, pop_1 q q1] at h2
  obtain ⟨d, d1, d2⟩ := bit_ex (S := sdf S (2 ^ q)) (by have := sdf_le S (2 ^ q); omega) (fun e => by rw [e, pop_0] at h2; omega)
  rw [sdf_bit hS, Bool.and_eq_true, Nat.testBit_two_pow] at d2
  refine ⟨q, d, q2, d2.1, fun e => ?_⟩
  have := d2.2
  rw [decide_eq_true e] at this
  exact absurd this (by decide)
theorem pop_2 {S q d : Nat} (hS : S < 8192) (h1 : S.testBit q = true) (h2 : S.testBit d = true) (hn : q ≠ d) : 2 ≤ popN S := by
  have q13 := b13 hS h1
  have d13 := b13 hS h2
  have e1 : 1 ≤ popN (2 ^ q) := by rw [pop_1 q q13]; omega
  have e2 : popN (2 ^ q) < popN S := cnt_lt (j := d) 13 (fun i _ hi => by
    rw [Nat.testBit_two_pow, decide_eq_true_iff] at hi
    rw [← hi]; exact h1) d13 (by rw [Nat.testBit_two_pow]; exact decide_eq_false hn) h2
  omega
section TT
variable {s : Stt} {c n : Nat} {P : Nat → Nat}
theorem tS_fin (hT : PtT s c n P) (hs : SEP c n P) : ∀ (N S : Nat), popN S < N → sbs S c → 1 ≤ popN S → tS s S + 1 ≤ popN S := by
  intro N
  induction N with
  | zero => intro S h; omega
  | succ N ih =>
    intro S h hb h1
    by_cases c2 : popN S < 2
    · rw [tS_1 c2]; omega
    · obtain ⟨q, d, b1, b2, b3⟩ := two_bits hb.1 (by omega)
      obtain ⟨i, i1, i2⟩ := hs q d (hb.2 q b1) (hb.2 d b2) b3
      have hsp : spl S (P i) := by
        constructor
        · intro e
          have u1 : (S &&& P i).testBit q = false := by rw [e, Nat.zero_testBit]
          have u2 : (S &&& P i).testBit d = false := by rw [e, Nat.zero_testBit]
          rw [Nat.testBit_and, b1] at u1
          rw [Nat.testBit_and, b2] at u2
          rw [Bool.true_and] at u1 u2
          exact i2 (u2.trans u1.symm)
        · intro e
          have u1 : (S &&& P i).testBit q = true := by rw [e]; exact b1
          have u2 : (S &&& P i).testBit d = true := by rw [e]; exact b2
          rw [Nat.testBit_and, b1] at u1
          rw [Nat.testBit_and, b2] at u2
          rw [Bool.true_and] at u1 u2
          exact i2 (u2.trans u1.symm)
      have h3 := spl_pop hb.1 hsp
      have h4 := hT.1 S i hb c2 i1 hsp
      have k1 := ih _ (by omega) (sbs_and hb (P i)) h3.1
      have k2 := ih _ (by omega) (sbs_sdf hb (P i)) h3.2.1
      have := mx_le (tS s (S &&& P i)) (tS s (sdf S (P i)))
      omega
theorem tS_inf (hT : PtT s c n P) {q d : Nat} (hn : q ≠ d) (hi : ∀ i, i < n → (P i).testBit d = (P i).testBit q) : ∀ (N S : Nat), popN S < N → sbs S c → S.testBit q = true → S.testBit d = true → tS s S = 9999 := by
  intro N
  induction N with
  | zero => intro S h; omega
  | succ N ih =>
    intro S h hb b1 b2
    have p2 := pop_2 hb.1 b1 b2 hn
    have h9 := tS_le (s := s) hb.1
    rcases hT.2.1 S hb (by omega) with e | ⟨i, i1, i2, i3⟩
    · exact e
    · have h3 := spl_pop hb.1 i2
      have hm := mx_le (tS s (S &&& P i)) (tS s (sdf S (P i)))
      cases e : (P i).testBit q with
      | true =>
        have k := ih (S &&& P i) (by omega) (sbs_and hb (P i)) (by rw [Nat.testBit_and, b1, e]; rfl) (by rw [Nat.testBit_and, b2, hi i i1, e]; rfl)
        omega
      | false =>
        have k := ih (sdf S (P i)) (by omega) (sbs_sdf hb (P i)) (by rw [sdf_bit hb.1, b1, e]; rfl) (by rw [sdf_bit hb.1, b2, hi i i1, e]; rfl)
        omega
/-! bounds -/
def lft (best z : Nat) : Nat := mx ((z + 1) / 2) (z - best)
def BnO (best : Nat) (B : Nat → Nat) : Prop := B 1 = 0 ∧ ∀ z, 2 ≤ z → z ≤ 13 → (lft best z < z → B z = 1 + B (lft best z)) ∧ (¬ lft best z < z → B z = 99)
theorem lft_in {best z : Nat} (hb : 1 ≤ best) (hz : 2 ≤ z) : 1 ≤ lft best z ∧ lft best z < z := by
  have := mx_le ((z + 1) / 2) (z - best)
  unfold lft; omega
theorem lft_mono {best a b : Nat} (h : a ≤ b) : lft best a ≤ lft best b := by
  have h1 := mx_le ((a + 1) / 2) (a - best)
  have h2 := mx_le ((b + 1) / 2) (b - best)
  unfold lft; omega
theorem Bn_mono {best : Nat} {B : Nat → Nat} (hb : 1 ≤ best) (hB : BnO best B) : ∀ (b a : Nat), 1 ≤ a → a ≤ b → b ≤ 13 → B a ≤ B b ∧ B b < b := by
  intro b
  induction b using Nat.strongRecOn with
  | ind b ih =>
    intro a h1 h2 h3
    by_cases c2 : b < 2
    · have ea : a = 1 := by omega
      have eb : b = 1 := by omega
      rw [ea, eb, hB.1]; omega
    · obtain ⟨l1, l2⟩ := lft_in (z := b) hb (by omega)
      have e2 := (hB.2 b (by omega) h3).1 l2
      have k := ih (lft best b) l2 (lft best b) l1 (Nat.le_refl _) (by omega)
      refine ⟨?_, by omega⟩
      by_cases c3 : a < 2
      · rw [show a = 1 by omega, hB.1]; omega
      · obtain ⟨l3, l4⟩ := lft_in (z := a) hb (by omega)
        have e3 := (hB.2 a (by omega) (by omega)).1 l4
        have k2 := ih (lft best b) l2 (lft best a) l3 (lft_mono h2) (by omega)
        omega
theorem Bn_low {best : Nat} {B : Nat → Nat} (hc : c < 8192) (hT : PtT s c n P) (hb : 1 ≤ best) (hB : BnO best B) (hbest : ∀ i, i < n → popN c - lpN c (P i) ≤ best) : ∀ (N S : Nat), popN S < N → sbs S c → 1 ≤ popN S → B (popN S) ≤ tS s S := by
  intro N
  induction N with
  | zero => intro S h; omega
  | succ N ih =>
    intro S h hbs h1
    have p13 := popN_le S
    by_cases c2 : popN S < 2
    · rw [show popN S = 1 by omega, hB.1]; omega
    · have hm0 := (Bn_mono hb hB (popN S) (popN S) h1 (Nat.le_refl _) p13).2
      rcases hT.2.1 S hbs c2 with e | ⟨i, i1, i2, i3⟩
      · omega
      · have h3 := spl_pop hbs.1 i2
        have h4 := pop_split hbs.1 (P i)
        have h5 := pop_split hc (P i)
        have h6 := sbs_pop hbs hc (P i)
        have h7 := hbest i i1
        have hm := mx_le (tS s (S &&& P i)) (tS s (sdf S (P i)))
        have k1 := ih _ (by omega) (sbs_and hbs (P i)) h3.1
        have k2 := ih _ (by omega) (sbs_sdf hbs (P i)) h3.2.1
        obtain ⟨l1, l2⟩ := lft_in (z := popN S) hb (by omega)
        have e2 := (hB.2 (popN S) (by omega) p13).1 l2
        have lx := mx_le ((popN S + 1) / 2) (popN S - best)
        have hl : lft best (popN S) ≤ popN (S &&& P i) ∨ lft best (popN S) ≤ popN (sdf S (P i)) := by
          unfold lpN at h7
          unfold lft
          split at h7 <;> omega
        rcases hl with hl | hl
        · have k3 := (Bn_mono hb hB (popN (S &&& P i)) (lft best (popN S)) l1 hl (by omega)).1
          omega
        · have k3 := (Bn_mono hb hB (popN (sdf S (P i))) (lft best (popN S)) l1 hl (by omega)).1
          omega
end TT
section BND
variable {s : Stt} {c n : Nat} {P : Nat → Nat} {L : LMem}
def cBd : Nat → Nat → Bool := fun p i => Nat.beq p 68 && !(Nat.beq i 1)
theorem sub_lt {a z best : Nat} (ha : a < 100) (hz : z < 100) (hb : best < 100) : (nI a < nI z - nI best ↔ a < z - best) ∧ (a < z - best → nI z - nI best = nI (z - best)) := by
  have e := pk_sub_toInt (a := z) (b := best) (by omega) (by omega)
  have e2 := nI_toInt (n := a) (by omega)
  refine ⟨?_, fun h => pk_sub (by omega)⟩
  rw [Int32.lt_iff_toInt_lt, e, e2]
  omega
theorem hl_lb40 {M0 : Mem} {best : Nat} (hbest : best ≤ 13) {v1 : Int32} {K : Mem → LMem → Prop} (h681 : M0 68 1 = nI 0) (kk : ∀ M B, Fr cBd M0 M → BnO best B → (∀ z, 1 ≤ z → z ≤ 13 → M 68 z = nI (B z)) → K M L) :
    ∀ (f z : Nat) (M : Mem) (B : Nat → Nat), 2 ≤ z → z ≤ 14 → 14 < f + z → Fr cBd M0 M → B 1 = 0 → (∀ q, B q ≤ 1000) → (∀ q, 2 ≤ q → q < z → (lft best q < q → B q = 1 + B (lft best q)) ∧ (¬ lft best q < q → B q = 99)) → (∀ q, q < z → B q ≤ 99 + q) → (∀ q, 1 ≤ q → q < z → M 68 q = nI (B q)) → PL_X8_layBounds_40 K f v1 (nI best) (nI z) M L := by
  intro f
  induction f with
  | zero => intro z M B h1 h2 h3; omega
  | succ f ih =>
    intro z M B h1 h2 h3 hF b1 bk hB hBq hA
    unfold PL_X8_layBounds_40
    refine pk_lt 13 z (fun c1 => ?_) (fun c1 => ?_)
    · exact kk M B hF ⟨b1, fun q q1 q2 => hB q q1 (by omega)⟩ (fun q q1 q2 => hA q q1 (by omega))
    · have e1 : (nI z + Int32.ofInt 1) / Int32.ofInt 2 = nI ((z + 1) / 2) := by
        rw [nI_s]; exact pk_div (d := 2) (by omega) (by decide) (by decide)
      obtain ⟨s1, s2⟩ := sub_lt (a := (z + 1) / 2) (z := z) (best := best) (by omega) (by omega) (by omega)
      have e2 : (if nI ((z + 1) / 2) < nI z - nI best then nI z - nI best else nI ((z + 1) / 2)) = nI (lft best z) := by
        unfold lft mx
        by_cases e : (z + 1) / 2 < z - best
        · rw [if_pos (s1.mpr e), if_pos e, s2 e]
        · rw [if_neg (fun h => e (s1.mp h)), if_neg e]
      have lx := mx_le ((z + 1) / 2) (z - best)
      have hlz : lft best z ≤ z := by unfold lft; omega
      have hl1 : 1 ≤ lft best z := by unfold lft; omega
      have put : ∀ (M2 : Mem) (w : Int32) (v : Nat), M2 = mput M 68 z w → w = nI v → v ≤ 99 + z → ((lft best z < z → v = 1 + B (lft best z)) ∧ (¬ lft best z < z → v = 99)) → PL_X8_layBounds_40 K f v1 (nI best) (nI (z + 1)) M2 L := by
        intro M2 w v hM2 hw hv hz
        subst hM2
        refine ih (z + 1) _ (fup B z v) (by omega) (by omega) (by omega) (hF.put (by unfold cBd; rw [nbf (by omega : z ≠ 1)]; rfl)) (by rw [fup_n (by omega)]; exact b1) (fun q => ?_) (fun q q1 q2 => ?_) (fun q q2 => ?_) (fun q q1 q2 => ?_)
        · by_cases e : q = z
          · rw [e, fup_s]; omega
          · rw [fup_n e]; exact bk q
        · have lq := mx_le ((q + 1) / 2) (q - best)
          by_cases e : q = z
          · rw [e, fup_s]
            refine ⟨fun h => ?_, hz.2⟩
            rw [fup_n (by omega)]; exact hz.1 h
          · rw [fup_n e]
            obtain ⟨g1, g2⟩ := hB q q1 (by omega)
            refine ⟨fun h => ?_, g2⟩
            rw [fup_n (by omega)]; exact g1 h
        · by_cases e : q = z
          · rw [e, fup_s]; exact hv
          · rw [fup_n e]; exact hBq q (by omega)
        · by_cases e : q = z
          · rw [e, mp_s, fup_s]; exact hw
          · rw [mp_i _ e, fup_n e]; exact hA q q1 (by omega)
      have ez : (nI z).toNatClampNeg = z := nI_clamp (by omega)
      rw [e1, e2, ez, nI_s]
      refine pk_le z _ (fun c2 => ?_) (fun c2 => ?_) rfl rfl (by omega) (by omega)
      · exact ⟨pk_in z 14 (by omega), put _ _ 99 rfl rfl (by omega) ⟨fun h => by omega, fun _ => rfl⟩⟩
      · have hb9 := hBq (lft best z) c2
        have e3 : Int32.ofInt 1 + nI (B (lft best z)) = nI (1 + B (lft best z)) := nI_add 1 _
        rw [nI_clamp (by omega : lft best z < 2 ^ 31), hA _ hl1 c2, e3]
        exact ⟨pk_in (lft best z) 14 (by omega), pk_in z 14 (by omega), put _ _ (1 + B (lft best z)) rfl rfl (by omega) ⟨fun _ => rfl, fun h => absurd c2 h⟩⟩
theorem hl_lb4 {M0 : Mem} (hc : c < 8192) (hM : PtM M0 n P) (hP : ∀ i, i < n → P i < 8192) {K : Mem → LMem → Prop} (h681 : M0 68 1 = nI 0) (kk : ∀ M best B, Fr cBd M0 M → (∀ i, i < n → popN c - lpN c (P i) ≤ best) → (0 < n → ∃ i, i < n ∧ best = popN c - lpN c (P i)) → BnO best B → (∀ z, 1 ≤ z → z ≤ 13 → M 68 z = nI (B z)) → K M L) :
    ∀ (f i best : Nat), i ≤ n → n < f + i → best ≤ 13 → (∀ j, j < i → popN c - lpN c (P j) ≤ best) → ((i = 0 ∧ best = 0) ∨ (0 < i ∧ ∃ j, j < i ∧ best = popN c - lpN c (P j))) → PL_X8_layBounds_4 K f (nI c) (nI best) (nI i) M0 L := by
  intro f
  induction f with
  | zero => intro i best h1 h2; omega
  | succ f ih =>
    intro i best h1 h2 h3 hA hE
    have p13 := popN_le c
    have h64 := hM.2.1
    unfold PL_X8_layBounds_4
    refine pk_le n i (fun c1 => ?_) (fun c1 => ⟨pk_in i 64 (by omega), ?_⟩) hM.1
    · have e : i = n := by omega
      subst e
      refine hl_lb40 h3 h681 (fun M B hF hB hm => kk M best B hF hA (fun h0 => ?_) hB hm) 100000 2 M0 (fun q => if q = 1 then 0 else 0) (by omega) (by omega) (by omega) (Fr.rf _ _) rfl (fun q => by show (if q = 1 then 0 else 0) ≤ 1000; split <;> omega) (fun q q1 q2 => by omega) (fun q _ => by show (if q = 1 then 0 else 0) ≤ 99 + q; split <;> omega) (fun q q1 q2 => ?_)
      · rcases hE with e | ⟨_, e⟩
        · omega
        · exact e
      · rw [show q = 1 by omega]; exact h681
    · have hl := (lpN_le (w := P i) hc).1
      have b := hP i c1
      rw [nI_clamp (by omega), hM.2.2 i c1, larger_n hc, bitc hc, pk_sub hl, mx_i (by omega) (by omega), nI_s]
      have hm := mx_le best (popN c - lpN c (P i))
      refine ih (i + 1) (mx best (popN c - lpN c (P i))) (by omega) (by omega) (by omega) (fun j hj => ?_) (Or.inr ⟨by omega, ?_⟩)
      · by_cases e : j = i
        · rw [e]; exact hm.2.1
        · exact Nat.le_trans (hA j (by omega)) hm.1
      · rcases hm.2.2 with e | e
        · rcases hE with e2 | ⟨_, j, j1, j2⟩
          · exact ⟨i, by omega, by omega⟩
          · exact ⟨j, by omega, e.trans j2⟩
        · exact ⟨i, by omega, e⟩
theorem h_layBounds {M0 : Mem} (hc : c < 8192) (hM : PtM M0 n P) (hP : ∀ i, i < n → P i < 8192) {K : Mem → LMem → Prop} (h681 : M0 68 1 = nI 0) (kk : ∀ M best B, Fr cBd M0 M → (∀ i, i < n → popN c - lpN c (P i) ≤ best) → (0 < n → ∃ i, i < n ∧ best = popN c - lpN c (P i)) → BnO best B → (∀ z, 1 ≤ z → z ≤ 13 → M 68 z = nI (B z)) → K M L) : P_X8_layBounds (nI c) M0 L K := by
  unfold P_X8_layBounds
  exact hl_lb4 hc hM hP h681 kk 100000 0 0 (by omega) (by have := hM.2.1; omega) (by omega) (fun j hj => by omega) (Or.inl ⟨rfl, rfl⟩)
def cFw : Nat → Nat → Bool := fun p _ => Nat.beq p 69
theorem nar0 : vp_nar .byte (Int32.ofInt 0) = nI 0 := by decide
theorem nar_b : ∀ n, n < 128 → vp_nar .byte (nI n).toInt8.toInt32 = nI n := by
  intro n h
  have h1 : ∀ n, n < 128 → (nI n).toInt8.toInt32 = nI n := by decide +kernel
  rw [vp_nar_byte, h1 n h, h1 n h]
theorem hl_fill {M0 : Mem} {K : Mem → LMem → Prop} (kk : ∀ M, Fr cFw M0 M → (∀ q, q < 8192 → M 69 q = nI 0) → K M L) :
    ∀ (f j : Nat) (M : Mem), j ≤ 8192 → 8192 < f + j → Fr cFw M0 M → (∀ q, q < j → M 69 q = nI 0) → PL_J7_fill_031fb_5 K f (Int32.ofInt 0) (nI j) (Int32.ofNat 8192) M L := by
  intro f
  induction f with
  | zero => intro j M h1 h2; omega
  | succ f ih =>
    intro j M h1 h2 hF hA
    unfold PL_J7_fill_031fb_5
    refine pk_le 8192 j (fun c1 => kk M hF (fun q hq => hA q (by omega))) (fun c1 => ⟨pk_in j 8192 c1, ?_⟩)
    rw [nI_s, nI_clamp (by omega), nar0]
    refine ih (j + 1) _ (by omega) (by omega) (hF.put rfl) (fun q hq => ?_)
    by_cases e : q = j
    · rw [e, mp_s]
    · rw [mp_i _ e]; exact hA q (by omega)
/-- the table of what is known -/
def TBm (s : Stt) (c : Nat) (M : Mem) : Prop := ∀ S, S < 8192 → M 69 S = nI 0 ∨ (2 ≤ popN S ∧ sbs S c ∧ M 69 S = nI (tS s S))
theorem h_few {M0 : Mem} {best : Nat} {B : Nat → Nat} (hc : c < 8192) (hM0 : PtM M0 n P) (hT : PtT s c n P) (hs : SEP c n P) (hb : 1 ≤ best) (hB : BnO best B) (hbest : ∀ i, i < n → popN c - lpN c (P i) ≤ best) (h68 : ∀ z, 1 ≤ z → z ≤ 13 → M0 68 z = nI (B z)) :
    ∀ (r S d : Nat) (M : Mem) (K : Int32 → Mem → LMem → Prop), popN S < r → sbs S c → d + popN S ≤ 14 → Fr cFw M0 M → TBm s c M → (∀ M2, Fr cFw M0 M2 → TBm s c M2 → K (nI (tS s S)) M2 L) → P_X8_fewestOf r (nI S) (nI d) M L K := by
  intro r
  induction r with
  | zero => intro S d M K h1; omega
  | succ r ih =>
    intro S d M K h1 hbs h2 hF hTB kk
    have p13 := popN_le S
    have hS := hbs.1
    show PB_X8_fewestOf (P_X8_fewestOf r) (nI S) (nI d) M L K
    unfold PB_X8_fewestOf
    rw [bitc hS, nI_clamp (by omega)]
    refine pk_le (popN S) 1 (fun c1 => ?_) (fun c1 => ?_)
    · have e := kk M hF hTB
      rw [tS_1 (by omega)] at e; exact e
    · refine pk_lt 13 (popN S) (fun c2 => by omega) (fun _ => pk_lt 13 d (fun c2 => by omega) (fun _ => pk_lt S 8192 (fun _ => ⟨pk_in S 8192 hS, ?_⟩) (fun c2 => by omega)))
      have hfin := tS_fin hT hs (popN S + 1) S (by omega) hbs (by omega)
      have hlow := Bn_low hc hT hb hB hbest (popN S + 1) S (by omega) hbs (by omega)
      have hloop : ∀ (f i lst : Nat) (M : Mem), i ≤ n → n < f + i → Fr cFw M0 M → TBm s c M → tS s S ≤ lst → lst ≤ 99 → (∀ j, j < i → spl S (P j) → lst ≤ mx (tS s (S &&& P j)) (tS s (sdf S (P j))) + 1) → PL_X8_fewestOf_56 K (P_X8_fewestOf r) f (nI S) (nI d) (nI (popN S)) (nI lst) (nI i) M L := by
        intro f
        induction f with
        | zero => intro i lst M h1 h2; omega
        | succ f ihf =>
          intro i lst M g1 g2 hF hTB gl g99 hA
          have hM : PtM M n P := ⟨(hF 65 2 rfl).trans hM0.1, hM0.2.1, fun i hi => (hF 67 i rfl).trans (hM0.2.2 i hi)⟩
          have h64 := hM0.2.1
          have out : lst = tS s S → K (nI lst) (mput M 69 (nI S).toNatClampNeg (vp_nar .byte (nI lst).toInt8.toInt32)) L := by
            intro e
            rw [nI_clamp (by omega), nar_b lst (by omega), e]
            refine kk _ (hF.put rfl) (fun U hU => ?_)
            by_cases e2 : U = S
            · rw [e2, mp_s]; exact Or.inr ⟨by omega, hbs, rfl⟩
            · rw [mp_i _ e2]; exact hTB U hU
          have hBl := (Bn_mono hb hB (popN S) (popN S) (by omega) (Nat.le_refl _) p13).2
          unfold PL_X8_fewestOf_56
          refine pk_le n i (fun k1 => ⟨pk_in S 8192 hS, out ?_⟩) (fun k1 => ⟨pk_in (popN S) 14 (by omega), ?_⟩) hM.1
          · rcases hT.2.1 S hbs (by omega) with e | ⟨j, j1, j2, j3⟩
            · omega
            · have := hA j (by omega) j2
              omega
          · rw [nI_clamp (by omega : popN S < 2 ^ 31), (hF 68 _ rfl).trans (h68 (popN S) (by omega) p13)]
            refine pk_le lst (B (popN S)) (fun k2 => ⟨pk_in S 8192 hS, out (by omega)⟩) (fun k2 => ⟨pk_in i 64 (by omega), ?_⟩)
            have hPi := (hT.2.2 i k1).1
            have hlp := lpN_le (w := P i) hS
            have ei : (nI i).toNatClampNeg = i := nI_clamp (by omega)
            have skip : (spl S (P i) → lst ≤ mx (tS s (S &&& P i)) (tS s (sdf S (P i))) + 1) → PL_X8_fewestOf_56 K (P_X8_fewestOf r) f (nI S) (nI d) (nI (popN S)) (nI lst) (nI (i + 1)) M L := fun h => ihf (i + 1) lst M (by omega) (by omega) hF hTB gl g99 (fun j hj hsp => by
              by_cases e : j = i
              · rw [e] at hsp ⊢; exact h hsp
              · exact hA j (by omega) hsp)
            rw [ei, hM.2.2 i k1, larger_n hS, nI_s]
            refine pk_le (popN S) (lpN S (P i)) (fun k3 => skip (fun hsp => by have := (spl_iff hS).mp hsp; omega)) (fun k3 => ⟨pk_in (lpN S (P i)) 14 (by omega), ?_⟩) rfl rfl (by omega) (by omega)
            have hsp := (spl_iff hS).mpr k3
            have h3 := spl_pop hS hsp
            have lb1 := Bn_low hc hT hb hB hbest (popN (S &&& P i) + 1) _ (by omega) (sbs_and hbs (P i)) h3.1
            have lb2 := Bn_low hc hT hb hB hbest (popN (sdf S (P i)) + 1) _ (by omega) (sbs_sdf hbs (P i)) h3.2.1
            have f1 := tS_fin hT hs (popN (S &&& P i) + 1) _ (by omega) (sbs_and hbs (P i)) h3.1
            have f2 := tS_fin hT hs (popN (sdf S (P i)) + 1) _ (by omega) (sbs_sdf hbs (P i)) h3.2.1
            have hmx := mx_le (tS s (S &&& P i)) (tS s (sdf S (P i)))
            have l1 : 1 ≤ lpN S (P i) := by omega
            have hBl2 := (Bn_mono hb hB (lpN S (P i)) (lpN S (P i)) l1 (Nat.le_refl _) (by omega)).2
            have hlpc : lpN S (P i) = popN (S &&& P i) ∨ lpN S (P i) = popN (sdf S (P i)) := by
              unfold lpN; split <;> omega
            have hBx : B (lpN S (P i)) ≤ mx (tS s (S &&& P i)) (tS s (sdf S (P i))) := by
              rcases hlpc with e | e <;> rw [e] <;> omega
            have e1 : Int32.ofInt 1 + nI (B (lpN S (P i))) = nI (1 + B (lpN S (P i))) := nI_add 1 _
            rw [nI_clamp (by omega : lpN S (P i) < 2 ^ 31), (hF 68 _ rfl).trans (h68 (lpN S (P i)) l1 (by omega)), e1]
            refine pk_le lst _ (fun k4 => skip (fun _ => by omega)) (fun k4 => ?_) rfl rfl (by omega) (by omega)
            have ed : nI d + Int32.ofInt 1 = nI (d + 1) := nI_add d 1
            rw [fa_and, ed]
            refine ih (S &&& P i) (d + 1) M _ (by omega) (sbs_and hbs (P i)) (by omega) hF hTB (fun M2 hF2 hTB2 => ?_)
            rw [(hF2 67 i rfl).trans (hM0.2.2 i k1), sdf_i]
            refine ih (sdf S (P i)) (d + 1) M2 _ (by omega) (sbs_sdf hbs (P i)) (by omega) hF2 hTB2 (fun M3 hF3 hTB3 => ?_)
            have e2 : Int32.ofInt 1 + nI (mx (tS s (S &&& P i)) (tS s (sdf S (P i)))) = nI (1 + mx (tS s (S &&& P i)) (tS s (sdf S (P i)))) := nI_add 1 _
            rw [mx_i (by omega) (by omega), e2, mn_i (by omega) (by omega)]
            have hmn := mn_le lst (1 + mx (tS s (S &&& P i)) (tS s (sdf S (P i))))
            have hle := hT.1 S i hbs (by omega) k1 hsp
            refine ihf (i + 1) _ M3 (by omega) (by omega) hF3 hTB3 (by omega) (by omega) (fun j hj hspj => ?_)
            by_cases e : j = i
            · rw [e]; omega
            · have := hA j (by omega) hspj
              omega
      rcases hTB S hS with e | ⟨e1, e2, e3⟩
      · refine br_t e (hloop 100000 0 99 M (by omega) (by have := hM0.2.1; omega) hF hTB (by omega) (by omega) (fun j hj => by omega))
      · have h1' : tS s S ≠ 0 := fun e => by
          rcases hT.2.1 S hbs (by omega) with e5 | ⟨j, j1, j2, j3⟩ <;> omega
        rw [e3]
        exact pk_eq _ 0 (fun e4 => absurd e4 h1') (fun _ => kk M hF hTB) rfl rfl (by omega)
end BND

