/-! ===== a day, abstractly ===== -/
noncomputable def hvn (h : Hse) (bar : Int32) (D : Nat → Nat) (x m sto : Nat) : Nat → Nat
  | 0 => 2 ^ rm h bar D x m
  | i + 1 => (if 0 < i ∧ sto.testBit (rm h bar D x i) = false then hvn h bar D x m sto i ||| 2 ^ rm h bar D x i else hvn h bar D x m sto i) ||| (if qk h (tb h bar D x i) = 126 then 2 ^ rm h bar D x i ||| 2 ^ rm h bar D x (i + 1) else 0)
theorem hvn_eq {h : Hse} {bar : Int32} {D : Nat → Nat} {x m sto : Nat} (hs : sto < 256) (hr : ∀ i, i ≤ m → rm h bar D x i < 8) : ∀ i, i ≤ m → hvr h bar D x m (nI sto) i = nI (hvn h bar D x m sto i) ∧ hvn h bar D x m sto i < 256 := by
  have p8 : ∀ r, r < 8 → 2 ^ r < 2 ^ 8 := fun r h => Nat.pow_lt_pow_right (by decide) h
  intro i
  induction i with
  | zero =>
    intro _
    have := hr m (Nat.le_refl _)
    rw [hvr, hvn, sh1 (by omega)]
    exact ⟨rfl, p8 _ this⟩
  | succ i ih =>
    intro hi
    obtain ⟨h1, h2⟩ := ih (by omega)
    have r1 := hr i (by omega)
    have r2 := hr (i + 1) hi
    have q1 := p8 _ r1
    have q2 := p8 _ r2
    rw [hvr, hvn, h1, sh1 (by omega), sh1 (by omega), bit_at (by omega) (by omega)]
    have c1 : (nI (if sto.testBit (rm h bar D x i) = true then 1 else 0) = nI 0) ↔ sto.testBit (rm h bar D x i) = false := by
      cases sto.testBit (rm h bar D x i) with
      | false => simp
      | true => simp; decide
    have o1 : hvn h bar D x m sto i ||| 2 ^ rm h bar D x i < 2 ^ 8 := Nat.or_lt_two_pow h2 q1
    have o2 : 2 ^ rm h bar D x i ||| 2 ^ rm h bar D x (i + 1) < 2 ^ 8 := Nat.or_lt_two_pow q1 q2
    by_cases ca : 0 < i ∧ sto.testBit (rm h bar D x i) = false
    · rw [if_pos ⟨ca.1, c1.mpr ca.2⟩, if_pos ca]
      by_cases cb : qk h (tb h bar D x i) = 126
      · rw [if_pos cb, if_pos cb, fa_or, fa_or, fa_or]
        exact ⟨rfl, Nat.or_lt_two_pow (n := 8) o1 o2⟩
      · rw [if_neg cb, if_neg cb, fa_or, or0, Nat.or_zero]
        exact ⟨rfl, o1⟩
    · rw [if_neg (fun e => ca ⟨e.1, c1.mp e.2⟩), if_neg ca]
      by_cases cb : qk h (tb h bar D x i) = 126
      · rw [if_pos cb, if_pos cb, fa_or, fa_or]
        exact ⟨rfl, Nat.or_lt_two_pow (n := 8) h2 o2⟩
      · rw [if_neg cb, if_neg cb, or0, Nat.or_zero]
        exact ⟨rfl, h2⟩
/-- how many calls have begun, the minute, the most at once; of each call: 0 its end, 1 its rooms, 2 its tubes, 3 who hears it, 4 what it brings; 5, 6: the same with all stoppers out -/
abbrev DA := Nat × Nat × Nat × (Nat → Nat → Nat)
def dn (A : DA) : Nat := A.1
def dt (A : DA) : Nat := A.2.1
def dm (A : DA) : Nat := A.2.2.1
def dF (A : DA) (f c : Nat) : Nat := A.2.2.2 f c
def DOK (s : Stt) (A : DA) (i : Nat) : Prop := dt A ≤ 9 * i ∧ 3 * dn A ≤ i ∧ dm A ≤ 20 ∧ ∀ c, c < dn A → dF A 0 c ≤ 600 ∧ dF A 1 c < 256 ∧ dF A 2 c < 2 ^ qn (sH s) ∧ dF A 3 c < 256 ∧ dF A 4 c < 256 ∧ dF A 5 c < 256 ∧ dF A 6 c < 256
/-- what a room knows when just the calls of Q have been told; z: 3 or 5 -/
noncomputable def knq (s : Stt) (A : DA) (z : Nat) (Q : Nat → Prop) (r : Nat) : Nat := mk (fun b => bdec ((sN s r).testBit b = true ∨ ∃ c, c < dn A ∧ Q c ∧ (dF A z c).testBit r = true ∧ (dF A (z + 1) c).testBit b = true)) 8
theorem knq_lt (s : Stt) (A : DA) (z : Nat) (Q : Nat → Prop) (r : Nat) : knq s A z Q r < 256 := mk_lt _ 8
theorem mk_ext {p q : Nat → Bool} : ∀ n : Nat, (∀ i, i < n → p i = q i) → mk p n = mk q n := by
  intro n h
  refine Nat.eq_of_testBit_eq (fun i => ?_)
  rw [mk_bit, mk_bit]
  by_cases c : i < n
  · rw [h i c]
  · rw [decide_eq_false c]; rfl
theorem bdec_ext {p q : Prop} (h : p ↔ q) : bdec p = bdec q := by
  by_cases c : p
  · rw [bdec_t c, bdec_t (h.mp c)]
  · rw [bdec_f c, bdec_f (fun e => c (h.mpr e))]
theorem knq_ext {s : Stt} {A : DA} {z : Nat} {Q Q' : Nat → Prop} {r : Nat} (h : ∀ c, c < dn A → (Q c ↔ Q' c)) : knq s A z Q r = knq s A z Q' r :=
  mk_ext 8 (fun b _ => bdec_ext (or_congr Iff.rfl ⟨fun ⟨c, c1, c2, c3⟩ => ⟨c, c1, (h c c1).mp c2, c3⟩, fun ⟨c, c1, c2, c3⟩ => ⟨c, c1, (h c c1).mpr c2, c3⟩⟩))
theorem knq_no {s : Stt} {A : DA} {z : Nat} {Q : Nat → Prop} {r j : Nat} (hb : (dF A z j).testBit r = false) : knq s A z (fun c => Q c ∨ c = j) r = knq s A z Q r :=
  mk_ext 8 (fun b _ => bdec_ext (or_congr Iff.rfl ⟨fun ⟨c, c1, c2, c3, c4⟩ => by
    rcases c2 with c2 | c2
    · exact ⟨c, c1, c2, c3, c4⟩
    · rw [c2, hb] at c3; exact absurd c3 Bool.false_ne_true, fun ⟨c, c1, c2, c3⟩ => ⟨c, c1, Or.inl c2, c3⟩⟩))
theorem knq_add {s : Stt} {A : DA} {z : Nat} {Q : Nat → Prop} {r j : Nat} (hj : j < dn A) (h256 : dF A (z + 1) j < 256) (hb : (dF A z j).testBit r = true) : knq s A z Q r ||| dF A (z + 1) j = knq s A z (fun c => Q c ∨ c = j) r := by
  refine Nat.eq_of_testBit_eq (fun b => ?_)
  unfold knq
  rw [Nat.testBit_or, mk_bit, mk_bit]
  by_cases c8 : b < 8
  · rw [decide_eq_true c8, Bool.true_and, Bool.true_and]
    cases e : (dF A (z + 1) j).testBit b with
    | true =>
      rw [bdec_t (p := (sN s r).testBit b = true ∨ ∃ c, c < dn A ∧ (Q c ∨ c = j) ∧ (dF A z c).testBit r = true ∧ (dF A (z + 1) c).testBit b = true) (Or.inr ⟨j, hj, Or.inr rfl, hb, e⟩), Bool.or_true]
    | false =>
      rw [Bool.or_false]
      refine bdec_ext (or_congr Iff.rfl ⟨fun ⟨c, c1, c2, c3⟩ => ⟨c, c1, Or.inl c2, c3⟩, fun ⟨c, c1, c2, c3, c4⟩ => ?_⟩)
      rcases c2 with c2 | c2
      · exact ⟨c, c1, c2, c3, c4⟩
      · rw [c2, e] at c4; exact absurd c4 Bool.false_ne_true
  · rw [decide_eq_false c8, bit_hi (n := 8) h256 (by omega)]; rfl
def tld (A : DA) (t : Nat) : Nat → Prop := fun c => dF A 0 c ≤ t
def dbz (A : DA) : Nat → Nat
  | 0 => 0
  | j + 1 => if dt A < dF A 0 j then dbz A j ||| dF A 1 j else dbz A j
def don (A : DA) : Nat → Nat
  | 0 => 0
  | j + 1 => if dt A < dF A 0 j then don A j ||| dF A 2 j else don A j
def dtw (A : DA) : Nat → Nat
  | 0 => 0
  | j + 1 => if dt A < dF A 0 j then dtw A j ||| (don A j &&& dF A 2 j) else dtw A j
def dbl (h : Hse) : Nat := mk (fun t => Nat.beq (qk h t) 61) (qn h)
def dfull (s : Stt) (A : DA) : Nat := sdf (don A (dn A)) (dbl (sH s)) ||| dtw A (dn A)
noncomputable def dwhy (s : Stt) (A : DA) (x y : Nat) : Nat := if lab (sH s) (Int32.ofInt 0) y x / 16 ≤ sG s 0 then (if (dbz A (dn A)).testBit x = true then 2 else if (dbz A (dn A)).testBit y = true then 3 else if lab (sH s) (nI (dfull s A)) y x / 16 ≤ sG s 0 then 0 else 4) else 1
/-- the way that a call takes -/
noncomputable def dD (s : Stt) (A : DA) (y : Nat) : Nat → Nat := lab (sH s) (nI (dfull s A)) y
noncomputable def dtk (s : Stt) (A : DA) (x y : Nat) : Nat := wbn (sH s) (nI (dfull s A)) (dD s A y) x (dD s A y x % 16)
noncomputable def dhv (s : Stt) (A : DA) (x y sto : Nat) : Nat := hvn (sH s) (nI (dfull s A)) (dD s A y) x (dD s A y x % 16) sto (dD s A y x % 16)
noncomputable def dval (s : Stt) (A : DA) (x y m f : Nat) : Nat := if f = 0 then dt A + m else if f = 1 then 2 ^ x ||| 2 ^ y else if f = 2 then dtk s A x y else if f = 3 then dhv s A x y (sG s 1) ||| (2 ^ x ||| 2 ^ y) else if f = 4 then knq s A 3 (tld A (dt A)) x else if f = 5 then dhv s A x y 0 ||| (2 ^ x ||| 2 ^ y) else knq s A 5 (tld A (dt A)) x
noncomputable def dFb (s : Stt) (A : DA) (x y m f c : Nat) : Nat := if c = dn A then dval s A x y m f else dF A f c
noncomputable def dgo (s : Stt) (A : DA) (x y m : Nat) : Nat := cnt (fun c => Nat.blt (dt A) (dFb s A x y m 0 c)) (dn A + 1)
noncomputable def dbeg (s : Stt) (A : DA) (x y m : Nat) : DA := (dn A + 1, dt A, mx (dm A) (dgo s A x y m), dFb s A x y m)
def dtick (A : DA) (m : Nat) : DA := (dn A, dt A + m, dm A, A.2.2.2)
noncomputable def dX (s : Stt) (np : Nat) (pd : Nat → Nat) : Nat → Nat → DA → DA × Nat
  | 0, _, A => (A, 0)
  | f + 1, i, A => if i < np then (if pd i = 46 then dX s np pd f (i + 2) (dtick A (pd (i + 1) - 48)) else (if dwhy s A (pd i - 65) (pd (i + 1) - 65) = 0 then dX s np pd f (i + 3) (dbeg s A (pd i - 65) (pd (i + 1) - 65) (pd (i + 2) - 48)) else (A, dwhy s A (pd i - 65) (pd (i + 1) - 65)))) else (A, 0)
def dA0 : DA := (0, 0, 0, fun _ _ => 0)
theorem dX_end {s : Stt} {np f i : Nat} {pd : Nat → Nat} {A : DA} (h : np ≤ i) : dX s np pd f i A = (A, 0) := by
  cases f with
  | zero => rfl
  | succ f => rw [dX, if_neg (by omega)]
theorem dX_dot {s : Stt} {np f i : Nat} {pd : Nat → Nat} {A : DA} (h : i < np) (h2 : pd i = 46) : dX s np pd (f + 1) i A = dX s np pd f (i + 2) (dtick A (pd (i + 1) - 48)) := by
  rw [dX, if_pos h, if_pos h2]
theorem dX_go {s : Stt} {np f i : Nat} {pd : Nat → Nat} {A : DA} (h : i < np) (h2 : pd i ≠ 46) (h3 : dwhy s A (pd i - 65) (pd (i + 1) - 65) = 0) : dX s np pd (f + 1) i A = dX s np pd f (i + 3) (dbeg s A (pd i - 65) (pd (i + 1) - 65) (pd (i + 2) - 48)) := by
  rw [dX, if_pos h, if_neg h2, if_pos h3]
theorem dX_no {s : Stt} {np f i : Nat} {pd : Nat → Nat} {A : DA} (h : i < np) (h2 : pd i ≠ 46) (h3 : dwhy s A (pd i - 65) (pd (i + 1) - 65) ≠ 0) : dX s np pd (f + 1) i A = (A, dwhy s A (pd i - 65) (pd (i + 1) - 65)) := by
  rw [dX, if_pos h, if_neg h2, if_neg h3]
/-- what stands on a pad without a fault, at a part's place -/
theorem day_part {np k i : Nat} {pd : Nat → Nat} (h : dfm np pd (np - i) 0 k i = Int32.ofInt (-6)) (hi : i < np) (h60 : np ≤ 60) : k < 20 ∧ ((pd i = 46 ∧ i + 1 < np ∧ dgt (pd (i + 1)) = true ∧ dfm np pd (np - (i + 2)) 0 (k + 1) (i + 2) = Int32.ofInt (-6)) ∨ (pd i ≠ 46 ∧ i + 2 < np ∧ ltr (pd i) = true ∧ ltr (pd (i + 1)) = true ∧ pd (i + 1) ≠ pd i ∧ dgt (pd (i + 2)) = true ∧ dfm np pd (np - (i + 3)) 0 (k + 1) (i + 3) = Int32.ofInt (-6))) := by
  have bad : ∀ {st k' j : Nat}, j ≤ np → (st ≠ 0 ∨ j < np) → dfm np pd (np - j) st k' j = Int32.ofInt (-6) → j < np ∧ okd pd st k' j = true := fun {st k' j} hj hst e => Classical.byContradiction (fun hn => by
    rw [dfm_no hj hst hn] at e
    exact nI_ne6 (by omega) e)
  obtain ⟨-, h1⟩ := bad (by omega) (Or.inr hi) h
  rw [dfm_ok hi h1] at h
  have h1' := h1
  unfold okd at h1'
  rw [if_pos rfl, Bool.and_eq_true] at h1'
  have k20 : k < 20 := Nat.le_of_ble_eq_true h1'.1
  refine ⟨k20, ?_⟩
  by_cases c : pd i = 46
  · have e : nst pd 0 i = 2 := by unfold nst; rw [if_pos rfl, if_pos c]
    rw [e, show nkd 0 k = k + 1 from rfl] at h
    obtain ⟨h2, h3⟩ := bad (by omega) (Or.inl (by decide)) h
    rw [dfm_ok h2 h3] at h
    unfold okd at h3
    rw [if_neg (by decide), if_neg (by decide)] at h3
    exact Or.inl ⟨c, h2, h3, h⟩
  · have e : nst pd 0 i = 1 := by unfold nst; rw [if_pos rfl, if_neg c]
    have hl : ltr (pd i) = true := by
      have := h1'.2
      rw [nbf c, Bool.or_false] at this
      exact this
    rw [e, show nkd 0 k = k + 1 from rfl] at h
    obtain ⟨h2, h3⟩ := bad (by omega) (Or.inl (by decide)) h
    rw [dfm_ok h2 h3] at h
    unfold okd at h3
    rw [if_neg (by decide), if_pos rfl, Nat.add_sub_cancel, Bool.and_eq_true] at h3
    rw [show nst pd 1 (i + 1) = 2 from rfl, show nkd 1 (k + 1) = k + 1 from rfl] at h
    obtain ⟨h4, h5⟩ := bad (by omega) (Or.inl (by decide)) h
    rw [dfm_ok h4 h5] at h
    unfold okd at h5
    rw [if_neg (by decide), if_neg (by decide)] at h5
    refine Or.inr ⟨c, h4, hl, h3.1, fun e => ?_, h5, h⟩
    rw [e, Nat.beq_refl] at h3
    exact absurd h3.2 (by decide)
section DAO
variable {s : Stt} {A : DA} {i : Nat}
theorem dbz_lt (hA : DOK s A i) : ∀ j, j ≤ dn A → dbz A j < 2 ^ 8 := by
  intro j
  induction j with
  | zero => intro _; exact Nat.two_pow_pos 8
  | succ j ih =>
    intro hj
    rw [dbz]
    have h1 := ih (by omega)
    split
    · exact Nat.or_lt_two_pow h1 (hA.2.2.2 j (by omega)).2.1
    · exact h1
theorem don_lt (hA : DOK s A i) : ∀ j, j ≤ dn A → don A j < 2 ^ qn (sH s) ∧ dtw A j < 2 ^ qn (sH s) := by
  intro j
  induction j with
  | zero => intro _; exact ⟨Nat.two_pow_pos _, Nat.two_pow_pos _⟩
  | succ j ih =>
    intro hj
    rw [don, dtw]
    obtain ⟨h1, h2⟩ := ih (by omega)
    have h3 := (hA.2.2.2 j (by omega)).2.2.1
    split
    · exact ⟨Nat.or_lt_two_pow h1 h3, Nat.or_lt_two_pow h2 (Nat.lt_of_le_of_lt Nat.and_le_right h3)⟩
    · exact ⟨h1, h2⟩
theorem dfull_lt (hS : SOK s) (hA : DOK s A i) : dfull s A < 2 ^ qn (sH s) ∧ dfull s A < 4096 := by
  obtain ⟨h1, h2⟩ := don_lt hA (dn A) (Nat.le_refl _)
  have h : dfull s A < 2 ^ qn (sH s) := Nat.or_lt_two_pow (Nat.lt_of_le_of_lt (sdf_le _ _) h1) h2
  have h12 : 2 ^ qn (sH s) ≤ 2 ^ 12 := Nat.pow_le_pow_right (by decide) hS.2.1
  exact ⟨h, Nat.lt_of_lt_of_le h h12⟩
theorem why0 {x y : Nat} (h : dwhy s A x y = 0) : lab (sH s) (Int32.ofInt 0) y x / 16 ≤ sG s 0 ∧ (dbz A (dn A)).testBit x = false ∧ (dbz A (dn A)).testBit y = false ∧ dD s A y x / 16 ≤ sG s 0 := by
  unfold dwhy at h
  split at h
  · next c1 =>
    split at h
    · omega
    · next c2 =>
      split at h
      · omega
      · next c3 =>
        split at h
        · next c4 => exact ⟨c1, Bool.eq_false_iff.mpr c2, Bool.eq_false_iff.mpr c3, c4⟩
        · omega
  · omega
theorem dwhy_le (x y : Nat) : dwhy s A x y ≤ 4 := by
  unfold dwhy
  repeat' split
  all_goals omega
theorem dbeg_ok (hS : SOK s) (hA : DOK s A i) {x y m : Nat} (hx : x < 8) (hy : y < 8) (hm : m ≤ 9) (hi : i ≤ 57) (hw : dwhy s A x y = 0) : DOK s (dbeg s A x y m) (i + 3) := by
  obtain ⟨a1, a2, a3, a4⟩ := id hA
  obtain ⟨-, -, -, w4⟩ := why0 hw
  have cI : dD s A y x < 1048576 := fin_of hS w4
  have hW : WOK (sH s) (nI (dfull s A)) (dD s A y) x (dD s A y x % 16) := s_wok hS hx hy cI
  have px : 2 ^ x < 2 ^ 8 := Nat.pow_lt_pow_right (by decide) hx
  have py : 2 ^ y < 2 ^ 8 := Nat.pow_lt_pow_right (by decide) hy
  have pxy : 2 ^ x ||| 2 ^ y < 2 ^ 8 := Nat.or_lt_two_pow px py
  have hgo : dgo s A x y m ≤ dn A + 1 := by
    have := cnt_le (p := fun c => Nat.blt (dt A) (dFb s A x y m 0 c)) (q := fun _ => true) (dn A + 1) (fun _ _ _ => rfl)
    rw [cnt_all] at this; exact this
  refine ⟨by show dt A ≤ _; omega, by show 3 * (dn A + 1) ≤ _; omega, ?_, fun c hc => ?_⟩
  · show mx (dm A) (dgo s A x y m) ≤ 20
    have := mx_le (dm A) (dgo s A x y m)
    omega
  · show dFb s A x y m 0 c ≤ 600 ∧ dFb s A x y m 1 c < 256 ∧ dFb s A x y m 2 c < 2 ^ qn (sH s) ∧ dFb s A x y m 3 c < 256 ∧ dFb s A x y m 4 c < 256 ∧ dFb s A x y m 5 c < 256 ∧ dFb s A x y m 6 c < 256
    unfold dFb
    by_cases e : c = dn A
    · simp only [if_pos e]
      refine ⟨by show dt A + m ≤ 600; omega, pxy, wbn_lt _ hW.2.1, Nat.or_lt_two_pow (n := 8) ?_ pxy, knq_lt _ _ _ _ _, Nat.or_lt_two_pow (n := 8) ?_ pxy, knq_lt _ _ _ _ _⟩
      · exact (hvn_eq hS.2.2.2.1 hW.2.2 _ (Nat.le_refl _)).2
      · exact (hvn_eq (by decide) hW.2.2 _ (Nat.le_refl _)).2
    · simp only [if_neg e]
      exact a4 c (by have : c < dn A + 1 := hc; omega)
theorem dtick_ok (hA : DOK s A i) {m : Nat} (hm : m ≤ 9) : DOK s (dtick A m) (i + 2) := by
  obtain ⟨a1, a2, a3, a4⟩ := hA
  exact ⟨by show dt A + m ≤ _; omega, by show 3 * dn A ≤ _; omega, a3, a4⟩
end DAO

