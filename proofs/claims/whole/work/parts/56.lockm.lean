/-! ===== servants: the model's standings ===== -/
def hv (w i : Nat) : Nat := w / 8 ^ i % 8
def dgw (st : Nat) (cn : Nat → Nat) (w i : Nat) : Nat := if st.testBit i = true ∧ hv w i ≠ cn i then hv w i else 0
def lkO (tk : Nat → Nat → Nat) (d : Nat → Nat) (i t k : Nat) : Nat := cnt (fun j => !(Nat.beq j i) && lkB (tk j) (d j) t) k
theorem lkO_s (tk : Nat → Nat → Nat) (d : Nat → Nat) (i t k : Nat) : lkO tk d i t (k + 1) = lkO tk d i t k + (if (!(Nat.beq k i) && lkB (tk k) (d k) t) = true then 1 else 0) := rfl
theorem lkO_C (tk : Nat → Nat → Nat) (d : Nat → Nat) (i t : Nat) : ∀ k : Nat, lkC tk d t k = lkO tk d i t k + (if i < k ∧ lkB (tk i) (d i) t = true then 1 else 0) := by
  intro k
  induction k with
  | zero => rfl
  | succ k ih =>
    rw [lkC_s, lkO_s, ih]
    by_cases e : k = i
    · subst e
      rw [Nat.beq_refl]
      cases lkB (tk k) (d k) t with
      | true =>
        have h1 : (if k < k ∧ true = true then 1 else 0 : Nat) = 0 := if_neg (fun h => Nat.lt_irrefl k h.1)
        have h2 : (if k < k + 1 ∧ true = true then 1 else 0 : Nat) = 1 := if_pos ⟨Nat.lt_succ_self k, rfl⟩
        rw [h1, h2]; rfl
      | false =>
        have h1 : (if k < k ∧ false = true then 1 else 0 : Nat) = 0 := if_neg (fun h => Nat.lt_irrefl k h.1)
        have h2 : (if k < k + 1 ∧ false = true then 1 else 0 : Nat) = 0 := if_neg (fun h => absurd h.2 (by decide))
        rw [h1, h2]; rfl
    · rw [nbf e]
      have h1 : (if i < k + 1 ∧ lkB (tk i) (d i) t = true then 1 else 0 : Nat) = (if i < k ∧ lkB (tk i) (d i) t = true then 1 else 0) := by
        by_cases c : i < k
        · by_cases b : lkB (tk i) (d i) t = true
          · rw [if_pos ⟨by omega, b⟩, if_pos ⟨c, b⟩]
          · rw [if_neg (fun h => b h.2), if_neg (fun h => b h.2)]
        · rw [if_neg (fun h => by have := h.1; omega), if_neg (fun h => c h.1)]
      rw [h1]
      show _ = _ + (if lkB (tk k) (d k) t = true then 1 else 0) + _
      omega
theorem cnt_stop {p : Nat → Bool} {n : Nat} : ∀ m : Nat, (∀ i, n ≤ i → i < n + m → p i = false) → cnt p (n + m) = cnt p n := by
  intro m
  induction m with
  | zero => intro _; rfl
  | succ m ih =>
    intro h
    rw [← Nat.add_assoc, cnt, ih (fun i h1 h2 => h i h1 (by omega)), h (n + m) (by omega) (by omega)]; rfl
theorem hv_lt (w i : Nat) : hv w i < 8 := Nat.mod_lt _ (by decide)
theorem hv_up : ∀ i w, i < 5 → w < 32768 → hv w i ≤ 6 → w + 8 ^ i < 32768 ∧ hv (w + 8 ^ i) i = hv w i + 1 ∧ ∀ j, j < 5 → j ≠ i → hv (w + 8 ^ i) j = hv w j := by
  intro i w hi hw h6
  unfold hv at *
  rcases (by omega : i = 0 ∨ i = 1 ∨ i = 2 ∨ i = 3 ∨ i = 4) with e | e | e | e | e <;> subst e <;> refine ⟨by omega, by omega, fun j hj hn => ?_⟩ <;> rcases (by omega : j = 0 ∨ j = 1 ∨ j = 2 ∨ j = 3 ∨ j = 4) with e | e | e | e | e <;> subst e <;> omega
/-- the step is there -/
def stp (st : Nat) (cn : Nat → Nat) (tk : Nat → Nat → Nat) (cap : Nat → Nat) (w i : Nat) : Prop := st.testBit i = true ∧ hv w i ≠ cn i ∧ lkO tk (dgw st cn w) i (tk i (hv w i)) 5 < cap (tk i (hv w i))
def RCH (st : Nat) (cn : Nat → Nat) (tk : Nat → Nat → Nat) (cap : Nat → Nat) (w : Nat) : Prop := ∀ P : Nat → Prop, P 0 → (∀ v i, P v → i < 5 → stp st cn tk cap v i → P (v + 8 ^ i)) → P w
def MLK (st : Nat) (cn : Nat → Nat) (tk : Nat → Nat → Nat) (cap : Nat → Nat) (w : Nat) : Prop := (∃ j, j < 5 ∧ st.testBit j = true ∧ hv w j ≠ cn j) ∧ ∀ j, j < 5 → ¬ stp st cn tk cap w j
section RCH
variable {st : Nat} {cn : Nat → Nat} {tk : Nat → Nat → Nat} {cap : Nat → Nat}
theorem RCH_0 : RCH st cn tk cap 0 := fun _ h _ => h
theorem RCH_s {w i : Nat} (h : RCH st cn tk cap w) (hi : i < 5) (hs : stp st cn tk cap w i) : RCH st cn tk cap (w + 8 ^ i) := fun P h0 h1 => h1 w i (h P h0 h1) hi hs
theorem RCH_inv {w : Nat} (h : RCH st cn tk cap w) : w = 0 ∨ ∃ v i, RCH st cn tk cap v ∧ i < 5 ∧ stp st cn tk cap v i ∧ w = v + 8 ^ i :=
  (h (fun w => RCH st cn tk cap w ∧ (w = 0 ∨ ∃ v i, RCH st cn tk cap v ∧ i < 5 ∧ stp st cn tk cap v i ∧ w = v + 8 ^ i)) ⟨RCH_0, Or.inl rfl⟩ (fun v i hv hi hs => ⟨RCH_s hv.1 hi hs, Or.inr ⟨v, i, hv.1, hi, hs, rfl⟩⟩)).2
/-- what every standing keeps -/
def RIN (st : Nat) (cn : Nat → Nat) (tk : Nat → Nat → Nat) (cap : Nat → Nat) (w : Nat) : Prop := w < 32768 ∧ (∀ j, j < 5 → hv w j ≤ cn j) ∧ ∀ t, lkC tk (dgw st cn w) t 5 ≤ cap t
theorem RIN_s (hD : LKD cn tk cap) {w i : Nat} (h : RIN st cn tk cap w) (hi : i < 5) (hs : stp st cn tk cap w i) : RIN st cn tk cap (w + 8 ^ i) := by
  have h7 := hD.1 i
  have hle := h.2.1 i hi
  have hne := hs.2.1
  obtain ⟨u1, u2, u3⟩ := hv_up i w hi h.1 (by omega)
  refine ⟨u1, fun j hj => ?_, fun t => ?_⟩
  · by_cases e : j = i
    · rw [e, u2]; omega
    · rw [u3 j hj e]; exact h.2.1 j hj
  · have eO : lkO tk (dgw st cn (w + 8 ^ i)) i t 5 = lkO tk (dgw st cn w) i t 5 := cnt_eq 5 (fun j hj => by
      by_cases e : j = i
      · rw [e, Nat.beq_refl]; rfl
      · have : dgw st cn (w + 8 ^ i) j = dgw st cn w j := by unfold dgw; rw [u3 j hj e]
        rw [this])
    have c1 := lkO_C tk (dgw st cn (w + 8 ^ i)) i t 5
    have c2 := lkO_C tk (dgw st cn w) i t 5
    have cw := h.2.2 t
    rw [c1, eO]
    have dw : dgw st cn w i = hv w i := if_pos ⟨hs.1, hs.2.1⟩
    by_cases b : i < 5 ∧ lkB (tk i) (dgw st cn (w + 8 ^ i) i) t = true
    · rw [if_pos b]
      have b2 := b.2
      unfold dgw at b2
      split at b2
      · rw [u2, lkB, Bool.or_eq_true] at b2
        rcases b2 with b2 | b2
        · rw [if_pos ⟨hi, by rw [dw]; exact b2⟩] at c2; omega
        · have := Nat.eq_of_beq_eq_true b2
          have h3 := hs.2.2
          rw [this] at h3; omega
      · exact (Bool.false_ne_true b2).elim
    · rw [if_neg b]
      omega
theorem RIN_of (hD : LKD cn tk cap) {w : Nat} (h : RCH st cn tk cap w) : RIN st cn tk cap w := by
  refine h _ ⟨by decide, fun j hj => ?_, fun t => ?_⟩ (fun v i hv hi hs => RIN_s hD hv hi hs)
  · show 0 / 8 ^ j % 8 ≤ _
    rw [Nat.zero_div]; exact Nat.zero_le _
  · have : lkC tk (dgw st cn 0) t 5 = 0 := by
      have h0 : ∀ j, dgw st cn 0 j = 0 := fun j => by
        unfold dgw
        split
        · show 0 / 8 ^ j % 8 = 0
          rw [Nat.zero_div]
        · rfl
      have : ∀ k : Nat, lkC tk (dgw st cn 0) t k = 0 := by
        intro k
        induction k with
        | zero => rfl
        | succ k ih => rw [lkC_s, ih, h0]; rfl
      exact this 5
    rw [this]; exact Nat.zero_le _
/-- a locked standing of the model is one of the class's -/
theorem MLK_L (hD : LKD cn tk cap) {w : Nat} (h : RCH st cn tk cap w) (hl : MLK st cn tk cap w) : lkL cn tk cap (dgw st cn w) := by
  obtain ⟨r1, r2, r3⟩ := RIN_of hD h
  refine ⟨fun i hi => ?_, r3, ?_, fun i hi h1 => ?_⟩
  · unfold dgw
    split
    · next c => have := r2 i hi; have := c.2; exact Or.inr (by omega)
    · exact Or.inl rfl
  · refine Classical.byContradiction (fun hn => ?_)
    have h0 : ∀ i, i < 5 → dgw st cn w i = 0 := fun i hi => by
      rcases Nat.eq_zero_or_pos (dgw st cn w i) with e | e
      · exact e
      · exact absurd ⟨i, hi, e⟩ hn
    obtain ⟨j, j1, j2, j3⟩ := hl.1
    refine hl.2 j j1 ⟨j2, j3, ?_⟩
    have hO : lkO tk (dgw st cn w) j (tk j (hv w j)) 5 = 0 := by
      have : ∀ k : Nat, k ≤ 5 → lkO tk (dgw st cn w) j (tk j (hv w j)) k = 0 := by
        intro k
        induction k with
        | zero => intro _; rfl
        | succ k ih =>
          intro hk
          rw [lkO_s, ih (by omega), h0 k (by omega)]
          show 0 + (if (_ && false) = true then 1 else 0) = 0
          rw [Bool.and_false]; rfl
      exact this 5 (Nat.le_refl 5)
    rw [hO]
    exact (hD.2.2.2 _).1
  · have hb : st.testBit i = true ∧ hv w i ≠ cn i := Classical.byContradiction (fun hn => by
      have : dgw st cn w i = 0 := if_neg hn
      omega)
    have dw : dgw st cn w i = hv w i := if_pos hb
    have hn := hl.2 i hi
    have c := lkO_C tk (dgw st cn w) i (tk i (dgw st cn w i)) 5
    rw [dw] at c ⊢
    have : ¬ lkO tk (dgw st cn w) i (tk i (hv w i)) 5 < cap (tk i (hv w i)) := fun g => hn ⟨hb.1, hb.2, g⟩
    omega
end RCH
section LMO
variable {s : Stt} {np : Nat} {pd : Nat → Nat} {L : LMem} {st : Nat} {cn : Nat → Nat} {tk : Nat → Nat → Nat}
/-- the data the model looks at -/
def LMD (M : Mem) (st : Nat) (cn : Nat → Nat) (tk : Nat → Nat → Nat) : Prop := ∀ i, st.testBit i = true → M 101 i = nI (cn i) ∧ ∀ j, j < cn i → M 100 (8 * i + j) = nI (tk i j)
theorem LMD.fr {M M1 : Mem} (h : LMD M st cn tk) (h1 : ∀ p i, 100 ≤ p → p ≤ 101 → M1 p i = M p i) : LMD M1 st cn tk := fun i hi => ⟨(h1 _ _ (by omega) (by omega)).trans (h i hi).1, fun j hj => (h1 _ _ (by omega) (by omega)).trans ((h i hi).2 j hj)⟩
def HLD (M : Mem) (w : Nat) : Prop := ∀ i, i < 5 → M 105 i = nI (hv w i)
/-- all that is known of the set -/
def SOS (s : Stt) (st : Nat) (cn : Nat → Nat) (tk : Nat → Nat → Nat) : Prop := st < 32 ∧ (∀ i, st.testBit i = true → i < sG s 2) ∧ LKD cn tk (capM (dbl (sH s))) ∧ (∀ i, st.testBit i = true → 1 ≤ cn i) ∧ (∀ i, st.testBit i = false → cn i = 0) ∧ ∀ i j, st.testBit i = true → j < cn i → tk i j < qn (sH s)
def c105 : Nat → Nat → Bool := fun p _ => Nat.beq p 105
def c104 : Nat → Nat → Bool := fun p _ => Nat.beq p 104 || Nat.beq p 105
theorem c104_scr {M M1 : Mem} (h : Fr c104 M M1) : Fr cScr M M1 := h.mono (fun p i hq => by
  have h1 : p ≠ 104 := fun e => by subst e; exact nomatch (show true = false from hq)
  have h2 : p ≠ 105 := fun e => by subst e; exact nomatch (show true = false from hq)
  unfold c104; rw [nbf h1, nbf h2]; rfl)
theorem c105_4 {M M1 : Mem} (h : Fr c105 M M1) : Fr c104 M M1 := h.mono (fun p i hq => by
  unfold c104 at hq; unfold c105
  cases e : Nat.beq p 105 with
  | false => rfl
  | true => rw [e, Bool.or_true] at hq; exact absurd hq (by decide))
theorem c104_lo {M M1 : Mem} (h : Fr c104 M M1) {p i : Nat} (hp : p ≤ 103) : M1 p i = M p i := h p i (by unfold c104; rw [nbf (by omega), nbf (by omega)]; rfl)
theorem sh3 {i : Nat} (hi : i < 5) : ((Int32.ofInt 3 * nI i) &&& 31) = (nI (3 * i) &&& 31) := by rw [show Int32.ofInt 3 = nI 3 from rfl, pk_mul]
theorem p8 (i : Nat) : 2 ^ (3 * i) = 8 ^ i := by rw [Nat.pow_mul]
theorem h_layHolds {M : Mem} {K : Mem → LMem → Prop} {w : Nat} (hw : w < 32768) (kk : ∀ M', Fr c105 M M' → HLD M' w → K M' L) : P_X10_layHolds (nI w) M L K := by
  have go : ∀ (f k : Nat) (M1 : Mem), k ≤ 5 → 5 < f + k → Fr c105 M M1 → (∀ i, i < k → M1 105 i = nI (hv w i)) → PL_X10_layHolds_2 K f (nI w) (nI k) M1 L := by
    intro f
    induction f with
    | zero => intro k M1 h1 h2; omega
    | succ f ih =>
      intro k M1 h1 h2 hF hA
      unfold PL_X10_layHolds_2
      rw [nI_s]
      refine pk_le 5 k (fun c => ?_) (fun c => ⟨pk_in k 5 c, ?_⟩)
      · have e : k = 5 := by omega
        subst e
        exact kk M1 hF hA
      · rw [nI_clamp (by omega), sh3 c, pk_shrN (by omega) _ (3 * k) (s_l (3 * k) (by omega)), show Int32.ofInt 7 = nI 7 from rfl, pk_andN (by have := Nat.div_le_self w (2 ^ (3 * k)); omega) 3 (by decide), p8]
        refine ih (k + 1) _ (by omega) (by omega) (hF.put rfl) (fun i hi => ?_)
        by_cases e : i = k
        · rw [e, mp_s]; rfl
        · rw [mp_i _ e]; exact hA i (by omega)
  unfold P_X10_layHolds
  exact go 100000 0 M (by omega) (by omega) (Fr.rf _ _) (fun i hi => absurd hi (Nat.not_lt_zero i))
theorem hl_ct60 {M : Mem} {K : Int32 → Mem → LMem → Prop} (hSo : SOS s st cn tk) (hMD : LMD M st cn tk) {w : Nat} (hH : HLD M w) {j : Nat} (hj : st.testBit j = true) (hj5 : j < 5) (hle : hv w j < cn j) {C : Int32 → Int32 → Int32 → Int32 → Int32 → Mem → LMem → Prop} {v1 v2 : Int32} {t b : Nat} (ht : t < 2 ^ 20) (hb : b < 100) (kk : C v1 v2 (nI t) (nI (b + (if lkB (tk j) (hv w j) t = true then 1 else 0))) (nI (j + 1)) M L) :
    ∀ (f q : Nat), q ≤ hv w j → hv w j < f + q → PL_X10_canTake_60 K C f v1 v2 (nI t) (nI (b + (if lkB (tk j) q t = true then 1 else 0))) (nI j) (nI q) M L := by
  intro f
  have h7 := hSo.2.2.1.1 j
  induction f with
  | zero => intro q h1 h2; omega
  | succ f ih =>
    intro q h1 h2
    unfold PL_X10_canTake_60
    have e1 : (nI j).toNatClampNeg = j := nI_clamp (by omega)
    rw [e1, nI_s, nI_s, nI_s]
    refine ⟨pk_in j 5 hj5, pk_le (hv w j) q (fun c1 => ?_) (fun c1 => ?_) (hH j hj5) rfl (by have := hv_lt w j; omega) (by have := hv_lt w j; omega)⟩
    · have e : q = hv w j := by omega
      subst e
      exact kk
    · have e2 : Int32.ofInt 8 * nI j + nI q = nI (8 * j + q) := e8 j q
      have e3 : (nI (8 * j + q)).toNatClampNeg = 8 * j + q := nI_clamp (by omega)
      have htk := hSo.2.2.1.2.1 j q hj5 (by omega)
      rw [e2, e3, (hMD j hj).2 q (by omega)]
      have ih2 := ih (q + 1) (by omega) (by omega)
      rw [lkB] at ih2
      refine ⟨pk_in (8 * j + q) 40 (by omega), pk_eq (tk j q) t (fun c2 => ?_) (fun c2 => ?_) rfl rfl (by omega) (by omega)⟩
      · have ow : lkB (tk j) q t = false := by rw [← c2]; exact own hSo.2.2.1 hj5 (by omega)
        rw [c2, Nat.beq_refl, Bool.or_true] at ih2
        rw [ow]
        exact ih2
      · rw [nbf c2, Bool.or_false] at ih2
        have e4 : nI (b + (if lkB (tk j) q t = true then 1 else 0)) + Int32.ofInt 0 = nI (b + (if lkB (tk j) q t = true then 1 else 0)) := by
          rw [show Int32.ofInt 0 = nI 0 from rfl, nI_add]; rfl
        rw [e4]; exact ih2
theorem lkO_le (tk : Nat → Nat → Nat) (d : Nat → Nat) (i t : Nat) : ∀ k : Nat, lkO tk d i t k ≤ k := by
  intro k
  induction k with
  | zero => exact Nat.le_refl 0
  | succ k ih =>
    rw [lkO_s]
    split <;> omega
theorem done_i {M : Mem} {w j : Nat} (hMD : LMD M st cn tk) (hH : HLD M w) (hj : st.testBit j = true) (hj5 : j < 5) (h7 : cn j ≤ 7) {A B : Prop} (a : hv w j ≠ cn j → A) (b : hv w j = cn j → B) : (f_X10_hasDone M (nI j) = 0 → A) ∧ (¬ f_X10_hasDone M (nI j) = 0 → B) := by
  have h8 := hv_lt w j
  unfold f_X10_hasDone
  rw [nI_clamp (by omega), hH j hj5, (hMD j hj).1]
  by_cases c : hv w j = cn j
  · rw [if_pos (by rw [c])]
    exact br_1 rfl (b c)
  · rw [if_neg (fun e => c ((nI_eq (by omega) (by omega)).mp e))]
    exact br_0 rfl (a c)
theorem hl_ct23 {M : Mem} {K : Int32 → Mem → LMem → Prop} (hI : INVs M s np pd) (hSo : SOS s st cn tk) (hMD : LMD M st cn tk) {w : Nat} (hH : HLD M w) (hle : ∀ j, j < 5 → hv w j ≤ cn j) {i t : Nat} (hi : i < 5) (ht : t < qn (sH s)) (kk1 : lkO tk (dgw st cn w) i t 5 < capM (dbl (sH s)) t → K (nI 1) M L) (kk0 : ¬ lkO tk (dgw st cn w) i t 5 < capM (dbl (sH s)) t → K (nI 0) M L) :
    ∀ (f j : Nat), j ≤ sG s 2 → sG s 2 < f + j → PL_X10_canTake_23 K f (nI i) (nI st) (nI t) (nI (lkO tk (dgw st cn w) i t j)) (nI j) M L := by
  intro f
  have hS := hI.1
  have h5 := hS.2.2.2.2.1
  have h12 := hS.2.1
  have h32 := hSo.1
  induction f with
  | zero => intro j h1 h2; omega
  | succ f ih =>
    intro j h1 h2
    unfold PL_X10_canTake_23
    have e1 : (nI t).toNatClampNeg = t := nI_clamp (by omega)
    have o1 : Int32.ofInt 1 = nI 1 := rfl
    have hO := lkO_le tk (dgw st cn w) i t j
    rw [nI_s, e1]
    refine pk_le (sG s 2) j (fun c1 => ⟨pk_in t 13 (by omega), ?_⟩) (fun c1 => ?_) hI.2.2.1.wai
    · have e : j = sG s 2 := by omega
      have eO : lkO tk (dgw st cn w) i t 5 = lkO tk (dgw st cn w) i t j := by
        have := cnt_stop (p := fun q => !(Nat.beq q i) && lkB (tk q) (dgw st cn w q) t) (n := j) (5 - j) (fun q q1 q2 => by
          have : dgw st cn w q = 0 := if_neg (fun h => by have := hSo.2.1 q h.1; omega)
          rw [this]; exact Bool.and_false _)
        rw [show j + (5 - j) = 5 by omega] at this
        exact this
      rw [eO] at kk1 kk0
      have hkd := (hI.2.2.1.hm.2 t ht).2.2.1
      have hkb := (hS.1.2 t ht).2.2.2.2.2
      have ecap : capM (dbl (sH s)) t = if qk (sH s) t = 61 then 2 else 1 := by
        unfold capM dbl
        rw [mk_bit, decide_eq_true ht, Bool.true_and]
        by_cases c : qk (sH s) t = 61
        · rw [if_pos c, c]; rfl
        · rw [if_neg c, nbf c]; rfl
      rw [ecap] at kk1 kk0
      rw [hkd]
      refine pk_eq (qk (sH s) t) 61 (fun c2 => ?_) (fun c2 => ?_) rfl rfl (by omega)
      · rw [if_pos c2] at kk1 kk0
        exact pk_le 2 _ (fun c3 => kk0 (by omega)) (fun c3 => kk1 c3) rfl rfl (by omega) (by omega)
      · rw [if_neg c2] at kk1 kk0
        exact pk_le 1 _ (fun c3 => kk0 (by omega)) (fun c3 => kk1 c3) rfl rfl (by omega) (by omega)
    · have ih2 := ih (j + 1) (by omega) (by omega)
      rw [lkO_s] at ih2
      refine pk_eq j i (fun c2 => ?_) (fun c2 => ?_)
      · rw [c2, Nat.beq_refl] at ih2
        rw [c2]; exact ih2
      · rw [nbf c2] at ih2
        have ih2 : PL_X10_canTake_23 K f (nI i) (nI st) (nI t) (nI (lkO tk (dgw st cn w) i t j + (if lkB (tk j) (dgw st cn w j) t = true then 1 else 0))) (nI (j + 1)) M L := ih2
        rw [o1]
        refine bit_1 (by omega) (by omega) (fun hb => ⟨pk_in j 5 (by omega), ?_⟩) (fun hb => ?_)
        · refine done_i hMD hH hb (by omega) (hSo.2.2.1.1 j) (fun c3 => ?_) (fun c3 => ?_)
          · have dw : dgw st cn w j = hv w j := if_pos ⟨hb, c3⟩
            rw [dw] at ih2
            have := hle j (by omega)
            exact hl_ct60 hSo hMD hH hb (by omega) (by omega) (by omega) (by omega) ih2 100000 0 (by omega) (by have := hv_lt w j; omega)
          · have dw : dgw st cn w j = 0 := if_neg (fun h => h.2 c3)
            rw [dw] at ih2
            exact ih2
        · have dw : dgw st cn w j = 0 := if_neg (fun h => by rw [hb] at h; exact absurd h.1 Bool.false_ne_true)
          rw [dw] at ih2
          exact ih2
theorem h_canTake {M : Mem} {K : Int32 → Mem → LMem → Prop} (hI : INVs M s np pd) (hSo : SOS s st cn tk) (hMD : LMD M st cn tk) {w : Nat} (hH : HLD M w) (hle : ∀ j, j < 5 → hv w j ≤ cn j) {i : Nat} (hb : st.testBit i = true) (hne : hv w i ≠ cn i) (kk1 : stp st cn tk (capM (dbl (sH s))) w i → K (nI 1) M L) (kk0 : ¬ stp st cn tk (capM (dbl (sH s))) w i → K (nI 0) M L) : P_X10_canTake (nI i) (nI st) M L K := by
  have h5 := hI.1.2.2.2.2.1
  have hi := hSo.2.1 i hb
  have h7 := hSo.2.2.1.1 i
  have hl := hle i (by omega)
  have e1 : (nI i).toNatClampNeg = i := nI_clamp (by omega)
  have e2 : Int32.ofInt 8 * nI i + nI (hv w i) = nI (8 * i + hv w i) := e8 i _
  have e3 : (nI (8 * i + hv w i)).toNatClampNeg = 8 * i + hv w i := nI_clamp (by omega)
  unfold P_X10_canTake
  rw [e1, hH i (by omega), e2, e3, (hMD i hb).2 _ (by omega)]
  exact ⟨pk_in i 5 (by omega), pk_in (8 * i + hv w i) 40 (by omega), hl_ct23 hI hSo hMD hH hle (by omega) (hSo.2.2.2.2.2 i _ hb (by omega)) (fun h => kk1 ⟨hb, hne, h⟩) (fun h => kk0 (fun g => h g.2.2)) 100000 0 (by omega) (by omega)⟩
end LMO
