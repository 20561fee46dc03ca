/-! ===== servants: standings ===== -/
def lkB (f : Nat → Nat) : Nat → Nat → Bool
  | 0, _ => false
  | h + 1, t => lkB f h t || Nat.beq (f h) t
theorem lkB_iff {f : Nat → Nat} {t : Nat} : ∀ h, lkB f h t = true ↔ ∃ j, j < h ∧ f j = t := by
  intro h
  induction h with
  | zero => exact ⟨fun e => absurd e Bool.false_ne_true, fun ⟨j, h, _⟩ => absurd h (Nat.not_lt_zero j)⟩
  | succ h ih =>
    rw [lkB, Bool.or_eq_true, ih]
    constructor
    · intro e
      rcases e with ⟨j, j1, j2⟩ | e
      · exact ⟨j, by omega, j2⟩
      · exact ⟨h, by omega, Nat.eq_of_beq_eq_true e⟩
    · intro ⟨j, j1, j2⟩
      by_cases e : j = h
      · rw [e] at j2; exact Or.inr (by rw [j2]; exact Nat.beq_refl t)
      · exact Or.inl ⟨j, by omega, j2⟩
theorem lkB_mono {f : Nat → Nat} {t h h' : Nat} (hh : h ≤ h') (e : lkB f h t = true) : lkB f h' t = true := by
  obtain ⟨j, j1, j2⟩ := (lkB_iff h).mp e
  exact (lkB_iff h').mpr ⟨j, by omega, j2⟩
def lkC (tk : Nat → Nat → Nat) (d : Nat → Nat) (t k : Nat) : Nat := cnt (fun i => lkB (tk i) (d i) t) k
theorem lkC_s (tk : Nat → Nat → Nat) (d : Nat → Nat) (t k : Nat) : lkC tk d t (k + 1) = lkC tk d t k + (if lkB (tk k) (d k) t = true then 1 else 0) := rfl
theorem lkC_ext {tk : Nat → Nat → Nat} {d d' : Nat → Nat} {t k : Nat} (h : ∀ i, i < k → d' i = d i) : lkC tk d' t k = lkC tk d t k := cnt_eq k (fun i hi => by rw [h i hi])
theorem lkC_mono {tk : Nat → Nat → Nat} {d : Nat → Nat} {t k : Nat} : ∀ m, lkC tk d t k ≤ lkC tk d t (k + m) := by
  intro m
  induction m with
  | zero => exact Nat.le_refl _
  | succ m ih => rw [← Nat.add_assoc, lkC_s]; omega
def lkL (cn : Nat → Nat) (tk : Nat → Nat → Nat) (cap : Nat → Nat) (d : Nat → Nat) : Prop := (∀ i, i < 5 → d i = 0 ∨ d i < cn i) ∧ (∀ t, lkC tk d t 5 ≤ cap t) ∧ (∃ i, i < 5 ∧ 1 ≤ d i) ∧ ∀ i, i < 5 → 1 ≤ d i → cap (tk i (d i)) ≤ lkC tk d (tk i (d i)) 5
def lkN (d : Nat → Nat) : Nat → Nat
  | 0 => 0
  | k + 1 => 10 * lkN d k + d k
theorem lkN_ext {d d' : Nat → Nat} : ∀ k, (∀ i, i < k → d' i = d i) → lkN d' k = lkN d k := by
  intro k
  induction k with
  | zero => intro _; rfl
  | succ k ih => intro h; rw [lkN, lkN, ih (fun i hi => h i (by omega)), h k (by omega)]
theorem lkN_lt {d d' : Nat → Nat} {k : Nat} (h : ∀ i, i < k → d' i = d i) (hk : d k < d' k) : ∀ m, (∀ i, i < k + 1 + m → d i ≤ 9) → lkN d (k + 1 + m) < lkN d' (k + 1 + m) := by
  intro m
  induction m with
  | zero => intro _; show lkN d (k + 1) < lkN d' (k + 1); rw [lkN, lkN, lkN_ext k h]; omega
  | succ m ih =>
    intro h9
    have h1 := ih (fun i hi => h9 i (by omega))
    have h2 := h9 (k + 1 + m) (by omega)
    rw [← Nat.add_assoc, lkN, lkN]; omega
theorem lkN_pos {d : Nat → Nat} {i : Nat} (hi : 1 ≤ d i) : ∀ m, 1 ≤ lkN d (i + 1 + m) := by
  intro m
  induction m with
  | zero => show 1 ≤ lkN d (i + 1); rw [lkN]; omega
  | succ m ih => rw [← Nat.add_assoc, lkN]; omega
theorem lkN_le {d : Nat → Nat} : ∀ k, (∀ i, i < k → d i ≤ 9) → lkN d k < 10 ^ k := by
  intro k
  induction k with
  | zero => intro _; exact Nat.one_pos
  | succ k ih =>
    intro h
    have h1 := ih (fun i hi => h i (by omega))
    have h2 := h k (by omega)
    rw [lkN, Nat.pow_succ]; omega
/-- the data: how many each takes, which, how many may hold one -/
def LKD (cn : Nat → Nat) (tk : Nat → Nat → Nat) (cap : Nat → Nat) : Prop := (∀ i, cn i ≤ 7) ∧ (∀ i j, i < 5 → j < cn i → tk i j < 12) ∧ (∀ i j j', i < 5 → j < cn i → j' < cn i → tk i j = tk i j' → j = j') ∧ ∀ t, 1 ≤ cap t ∧ cap t ≤ 2
def capM (db t : Nat) : Nat := if db.testBit t = true then 2 else 1
/-- the least of those that go on from the first k -/
def RES (cn : Nat → Nat) (tk : Nat → Nat → Nat) (cap : Nat → Nat) (E : (Nat → Nat) → Prop) (v : Nat) : Prop := (v = 0 ∧ ∀ d, E d → ¬ lkL cn tk cap d) ∨ (v ≠ 0 ∧ ∃ d, E d ∧ lkL cn tk cap d ∧ v = lkN d 5 ∧ ∀ d', E d' → lkL cn tk cap d' → v ≤ lkN d' 5)
def LKM (M : Mem) (cn : Nat → Nat) (tk : Nat → Nat → Nat) (db : Nat) : Prop := M 57 2 = nI db ∧ ∀ i, i < 5 → M 64 i = nI (cn i) ∧ ∀ j, j < cn i → M (58 + 1 + i) j = nI (tk i j)
theorem aok_tk {i j : Nat} (hi : i < 5) (hj : j < 8) : aok (58 + 1 + i) 0 (nI j) := by
  rcases (by omega : i = 0 ∨ i = 1 ∨ i = 2 ∨ i = 3 ∨ i = 4) with e | e | e | e | e <;> subst e <;> exact ⟨rfl, pk_in j 8 hj⟩
section LKC
variable {cn : Nat → Nat} {tk : Nat → Nat → Nat} {db : Nat} {M : Mem} {L : LMem}
/-- once, twice: bits that say how many hold a tube -/
def oBt (tk : Nat → Nat → Nat) (d : Nat → Nat) (k n B : Nat) : Prop := B < 4096 ∧ ∀ t, B.testBit t = true ↔ n ≤ lkC tk d t k
def wBt (tk : Nat → Nat → Nat) (d : Nat → Nat) (k B : Nat) : Prop := B < 4096 ∧ ∀ t, B.testBit t = true ↔ ∃ i, i < k ∧ 1 ≤ d i ∧ tk i (d i) = t
theorem tkn_i (a b c : Nat) (M : Mem) : f_X9_takenOf M (nI a) (nI b) (nI c) = nI (sdf a c ||| b) := by
  unfold f_X9_takenOf; rw [sdf_i, fa_or]
theorem tkn_bit {d : Nat → Nat} {k a b : Nat} (ha : oBt tk d k 1 a) (hb : oBt tk d k 2 b) (t : Nat) : (sdf a db ||| b).testBit t = true ↔ capM db t ≤ lkC tk d t k := by
  have h1 := ha.2 t
  have h2 := hb.2 t
  unfold capM
  rw [Nat.testBit_or, sdf_bit (by have := ha.1; omega), Bool.or_eq_true, Bool.and_eq_true, h1, h2]
  cases db.testBit t with
  | true => rw [if_pos rfl]; exact ⟨fun h => h.elim (fun h => absurd h.2 (by decide)) id, Or.inr⟩
  | false =>
    rw [if_neg (by decide)]
    exact ⟨fun h => h.elim (fun h => h.1) (fun h => by omega), fun h => Or.inl ⟨h, rfl⟩⟩
theorem tkn_lt {a b c : Nat} (ha : a < 4096) (hb : b < 4096) : sdf a c ||| b < 2 ^ 12 := Nat.or_lt_two_pow (n := 12) (Nat.lt_of_le_of_lt (sdf_le a c) ha) hb
theorem pow_t {t : Nat} (h : t < 12) : 2 ^ t < 2 ^ 12 := Nat.pow_lt_pow_right (by decide) h
theorem and2 {a t : Nat} : a &&& 2 ^ t = 0 ↔ a.testBit t = false := by
  constructor
  · intro e
    cases h : a.testBit t with
    | false => rfl
    | true =>
      have : (a &&& 2 ^ t).testBit t = true := by rw [Nat.testBit_and, h, Nat.testBit_two_pow]; simp
      rw [e, Nat.zero_testBit] at this
      exact absurd this Bool.false_ne_true
  · intro h
    refine Nat.eq_of_testBit_eq (fun i => ?_)
    rw [Nat.zero_testBit, Nat.testBit_and, Nat.testBit_two_pow]
    by_cases e : t = i
    · rw [← e, h]; rfl
    · rw [decide_eq_false e, Bool.and_false]
theorem lk_dig (hD : LKD cn tk (capM db)) {d : Nat → Nat} (h : lkL cn tk (capM db) d) {i : Nat} (hi : i < 5) : d i ≤ 6 := by
  have h7 := hD.1 i
  rcases h.1 i hi with e | e <;> omega
/-- what holds where call k is to be laid -/
def LPS (cn : Nat → Nat) (tk : Nat → Nat → Nat) (db : Nat) (d : Nat → Nat) (k : Nat) : Prop := (∀ i, i < k → d i = 0 ∨ d i < cn i) ∧ ∀ t, lkC tk d t k ≤ capM db t
abbrev EXT (d : Nat → Nat) (k : Nat) : (Nat → Nat) → Prop := fun d' => ∀ i, i < k → d' i = d i
theorem RES_end (hD : LKD cn tk (capM db)) {d : Nat → Nat} (hP : LPS cn tk db d 5) {a b w : Nat} (ha : oBt tk d 5 1 a) (hb : oBt tk d 5 2 b) (hw : wBt tk d 5 w) : RES cn tk (capM db) (EXT d 5) (if w ≠ 0 ∧ sdf w (sdf a db ||| b) = 0 then lkN d 5 else 0) := by
  by_cases c : w ≠ 0 ∧ sdf w (sdf a db ||| b) = 0
  · rw [if_pos c]
    have hs := (sub_bits (by have := hw.1; omega)).mp c.2
    obtain ⟨t, ht⟩ := ne0_bit.mp c.1
    obtain ⟨i, i1, i2, i3⟩ := (hw.2 t).mp ht
    have hl : lkL cn tk (capM db) d := ⟨hP.1, hP.2, ⟨i, i1, i2⟩, fun j hj hj1 => (tkn_bit ha hb _).mp (hs _ ((hw.2 _).mpr ⟨j, hj, hj1, rfl⟩))⟩
    refine Or.inr ⟨?_, d, fun i _ => rfl, hl, rfl, fun d' hE _ => Nat.le_of_eq (lkN_ext 5 hE).symm⟩
    have := lkN_pos i2 (4 - i)
    rw [show i + 1 + (4 - i) = 5 by omega] at this
    omega
  · rw [if_neg c]
    refine Or.inl ⟨rfl, fun d' hE hl => c ?_⟩
    have hc : ∀ t, lkC tk d' t 5 = lkC tk d t 5 := fun t => lkC_ext hE
    refine ⟨?_, (sub_bits (by have := hw.1; omega)).mpr (fun t ht => ?_)⟩
    · obtain ⟨i, i1, i2⟩ := hl.2.2.1
      rw [hE i i1] at i2
      exact ne0_bit.mpr ⟨_, (hw.2 _).mpr ⟨i, i1, i2, rfl⟩⟩
    · obtain ⟨i, i1, i2, i3⟩ := (hw.2 t).mp ht
      have h4 := hl.2.2.2 i i1 (by rw [hE i i1]; exact i2)
      rw [hE i i1, hc, i3] at h4
      exact (tkn_bit ha hb t).mpr h4
/-- one more call laid at h -/
theorem lkC_up (tk : Nat → Nat → Nat) (d : Nat → Nat) (t k h : Nat) : lkC tk (fup d k h) t (k + 1) = lkC tk d t k + (if lkB (tk k) h t = true then 1 else 0) := by
  rw [lkC_s, fup_s, lkC_ext (d := d) (fun i hi => fup_n (by omega))]
theorem lkN_up (d : Nat → Nat) (k h : Nat) : lkN (fup d k h) (k + 1) = 10 * lkN d k + h := by
  rw [lkN, fup_s, lkN_ext k (d := d) (fun i hi => fup_n (by omega))]
theorem oBt_0 {d : Nat → Nat} {k n B : Nat} (h : oBt tk d k n B) : oBt tk (fup d k 0) (k + 1) n B := ⟨h.1, fun t => by
  rw [lkC_up, show lkB (tk k) 0 t = false from rfl, if_neg (by decide)]; exact h.2 t⟩
theorem own (hD : LKD cn tk (capM db)) {k h : Nat} (hk : k < 5) (hh : h < cn k) : lkB (tk k) h (tk k h) = false := by
  cases e : lkB (tk k) h (tk k h) with
  | false => rfl
  | true =>
    obtain ⟨j, j1, j2⟩ := (lkB_iff h).mp e
    have := hD.2.2.1 k j h hk (by omega) hh j2
    omega
/-- the one that is taken next -/
theorem lkC_nx (hD : LKD cn tk (capM db)) (d : Nat → Nat) {k h : Nat} (hk : k < 5) (hh : h < cn k) (t : Nat) : lkC tk (fup d k (h + 1)) t (k + 1) = lkC tk (fup d k h) t (k + 1) + (if t = tk k h then 1 else 0) := by
  rw [lkC_up, lkC_up, lkB]
  by_cases e : t = tk k h
  · rw [e, own hD hk hh, Nat.beq_refl, if_pos rfl]; rfl
  · rw [nbf (fun g => e g.symm), Bool.or_false, if_neg e]; rfl
theorem oBt_1 (hD : LKD cn tk (capM db)) {d : Nat → Nat} {k h a : Nat} (hk : k < 5) (hh : h < cn k) (ha : oBt tk (fup d k h) (k + 1) 1 a) : oBt tk (fup d k (h + 1)) (k + 1) 1 (a ||| 2 ^ (tk k h)) := by
  refine ⟨Nat.or_lt_two_pow (n := 12) ha.1 (pow_t (hD.2.1 k h hk hh)), fun t => ?_⟩
  rw [lkC_nx hD d hk hh, Nat.testBit_or, Nat.testBit_two_pow, Bool.or_eq_true, decide_eq_true_iff, ha.2 t]
  by_cases e : t = tk k h
  · rw [if_pos e]; exact ⟨fun _ => by omega, fun _ => Or.inr e.symm⟩
  · rw [if_neg e]; exact ⟨fun g => g.elim id (fun g => absurd g.symm e), Or.inl⟩
theorem oBt_2 (hD : LKD cn tk (capM db)) {d : Nat → Nat} {k h a b : Nat} (hk : k < 5) (hh : h < cn k) (ha : oBt tk (fup d k h) (k + 1) 1 a) (hb : oBt tk (fup d k h) (k + 1) 2 b) : oBt tk (fup d k (h + 1)) (k + 1) 2 (b ||| (a &&& 2 ^ (tk k h))) := by
  refine ⟨Nat.or_lt_two_pow (n := 12) hb.1 (and_lt (pow_t (hD.2.1 k h hk hh))), fun t => ?_⟩
  rw [lkC_nx hD d hk hh, Nat.testBit_or, Nat.testBit_and, Nat.testBit_two_pow, Bool.or_eq_true, Bool.and_eq_true, decide_eq_true_iff, ha.2 t, hb.2 t]
  by_cases e : t = tk k h
  · rw [if_pos e]; exact ⟨fun g => g.elim (fun g => by omega) (fun g => by have := g.1; omega), fun g => Or.inr ⟨by omega, e.symm⟩⟩
  · rw [if_neg e]; exact ⟨fun g => g.elim id (fun g => absurd g.2.symm e), Or.inl⟩
theorem wBt_0 {d : Nat → Nat} {k w : Nat} (h : wBt tk d k w) : wBt tk (fup d k 0) (k + 1) w := ⟨h.1, fun t => by
  rw [h.2 t]
  constructor
  · intro ⟨i, i1, i2, i3⟩
    exact ⟨i, by omega, by rw [fup_n (by omega)]; exact i2, by rw [fup_n (by omega)]; exact i3⟩
  · intro ⟨i, i1, i2, i3⟩
    by_cases e : i = k
    · rw [e, fup_s] at i2; omega
    · rw [fup_n e] at i2 i3; exact ⟨i, by omega, i2, i3⟩⟩
theorem wBt_1 (hD : LKD cn tk (capM db)) {d : Nat → Nat} {k h w : Nat} (hk : k < 5) (h1 : 1 ≤ h) (hh : h < cn k) (hw : wBt tk d k w) : wBt tk (fup d k h) (k + 1) (w ||| 2 ^ (tk k h)) := by
  refine ⟨Nat.or_lt_two_pow (n := 12) hw.1 (pow_t (hD.2.1 k h hk hh)), fun t => ?_⟩
  rw [Nat.testBit_or, Nat.testBit_two_pow, Bool.or_eq_true, decide_eq_true_iff, hw.2 t]
  constructor
  · intro g
    rcases g with ⟨i, i1, i2, i3⟩ | g
    · exact ⟨i, by omega, by rw [fup_n (by omega)]; exact i2, by rw [fup_n (by omega)]; exact i3⟩
    · exact ⟨k, by omega, by rw [fup_s]; exact h1, by rw [fup_s]; exact g⟩
  · intro ⟨i, i1, i2, i3⟩
    by_cases e : i = k
    · rw [e, fup_s] at i3; exact Or.inr i3
    · rw [fup_n e] at i2 i3; exact Or.inl ⟨i, by omega, i2, i3⟩
theorem LPS_0 {d : Nat → Nat} {k : Nat} (h : LPS cn tk db d k) : LPS cn tk db (fup d k 0) (k + 1) := by
  refine ⟨fun i hi => ?_, fun t => ?_⟩
  · by_cases e : i = k
    · rw [e, fup_s]; exact Or.inl rfl
    · rw [fup_n e]; exact h.1 i (by omega)
  · rw [lkC_up, show lkB (tk k) 0 t = false from rfl, if_neg (by decide)]; exact h.2 t
theorem LPS_1 (hD : LKD cn tk (capM db)) {d : Nat → Nat} {k h : Nat} (hk : k < 5) (hh : h + 1 < cn k) (hP : LPS cn tk db (fup d k h) (k + 1)) (hf : ¬ capM db (tk k h) ≤ lkC tk (fup d k h) (tk k h) (k + 1)) : LPS cn tk db (fup d k (h + 1)) (k + 1) := by
  refine ⟨fun i hi => ?_, fun t => ?_⟩
  · by_cases e : i = k
    · rw [e, fup_s]; exact Or.inr hh
    · have := hP.1 i hi
      rw [fup_n e] at this
      rw [fup_n e]; exact this
  · rw [lkC_nx hD d hk (by omega)]
    by_cases e : t = tk k h
    · rw [if_pos e, e]; omega
    · rw [if_neg e]; exact hP.2 t
/-- those with call k below h -/
def EXB (d : Nat → Nat) (k h : Nat) : (Nat → Nat) → Prop := fun d' => EXT d k d' ∧ d' k < h
theorem EXT_up {d d' : Nat → Nat} {k h : Nat} (hE : EXT d k d') (hk : d' k = h) : EXT (fup d k h) (k + 1) d' := fun i hi => by
  by_cases e : i = k
  · rw [e, fup_s]; exact hk
  · rw [fup_n e]; exact hE i (by omega)
theorem EXT_dn {d d' : Nat → Nat} {k h : Nat} (hE : EXT (fup d k h) (k + 1) d') : EXT d k d' ∧ d' k = h := ⟨fun i hi => by
  have := hE i (by omega)
  rw [fup_n (by omega)] at this; exact this, by have := hE k (by omega); rw [fup_s] at this; exact this⟩
/-- the state of the search at h: nothing below, or found -/
def LOS (cn : Nat → Nat) (tk : Nat → Nat → Nat) (db : Nat) (d : Nat → Nat) (k h v : Nat) : Prop := (v = 0 ∧ ∀ d', EXB d k h d' → ¬ lkL cn tk (capM db) d') ∨ (v ≠ 0 ∧ RES cn tk (capM db) (EXT d k) v)
theorem LOS_nx (hD : LKD cn tk (capM db)) {d : Nat → Nat} {k h v : Nat} (hk : k < 5) (h0 : ∀ d', EXB d k h d' → ¬ lkL cn tk (capM db) d') (hR : RES cn tk (capM db) (EXT (fup d k h) (k + 1)) v) : LOS cn tk db d k (h + 1) v := by
  rcases hR with ⟨r1, r2⟩ | ⟨r1, d1, r2, r3, r4, r5⟩
  · refine Or.inl ⟨r1, fun d' hE hl => ?_⟩
    by_cases e : d' k = h
    · exact r2 d' (EXT_up hE.1 e) hl
    · exact h0 d' ⟨hE.1, by have := hE.2; omega⟩ hl
  · refine Or.inr ⟨r1, Or.inr ⟨r1, d1, (EXT_dn r2).1, r3, r4, fun d' hE hl => ?_⟩⟩
    rcases Nat.lt_trichotomy (d' k) h with e | e | e
    · exact absurd hl (h0 d' ⟨hE, e⟩)
    · exact r5 d' (EXT_up hE e) hl
    · have h1 := (EXT_dn r2).1
      have h2 := (EXT_dn r2).2
      have := lkN_lt (d := d1) (d' := d') (k := k) (fun i hi => by rw [h1 i hi, hE i hi]) (by omega) (4 - k) (fun i hi => by have := lk_dig hD r3 (show i < 5 by omega); omega)
      rw [show k + 1 + (4 - k) = 5 by omega] at this
      omega
theorem hl_lf67 (hD : LKD cn tk (capM db)) (hdb : db < 4096) (hM : LKM M cn tk db) {d : Nat → Nat} {k w : Nat} (hk : k < 5) (hw : wBt tk d k w) (hd9 : ∀ i, i < k → d i ≤ 9) {REC : Int32 → Int32 → Int32 → Int32 → Int32 → Mem → LMem → (Int32 → Mem → LMem → Prop) → Prop}
    (hR : ∀ (h a b : Nat) (w' : Nat) (K' : Int32 → Mem → LMem → Prop), h < cn k → LPS cn tk db (fup d k h) (k + 1) → oBt tk (fup d k h) (k + 1) 1 a → oBt tk (fup d k h) (k + 1) 2 b → wBt tk (fup d k h) (k + 1) w' → (∀ v, v < 10 ^ 6 → RES cn tk (capM db) (EXT (fup d k h) (k + 1)) v → K' (nI v) M L) → REC (nI (k + 1)) (nI a) (nI b) (nI w') (nI (lkN (fup d k h) (k + 1))) M L K')
    {K : Int32 → Mem → LMem → Prop} (kk : ∀ v, v < 10 ^ 6 → RES cn tk (capM db) (EXT d k) v → K (nI v) M L) :
    ∀ (f h a b v : Nat), h < 10 → 20 < f + h → LPS cn tk db (fup d k h) (k + 1) ∨ cn k ≤ h + 1 → (h + 1 < cn k → LPS cn tk db (fup d k h) (k + 1)) → oBt tk (fup d k h) (k + 1) 1 a → oBt tk (fup d k h) (k + 1) 2 b → v < 10 ^ 6 → LOS cn tk db d k (h + 1) v → PL_X7_leastFrom_67 K REC f (nI k) (nI a) (nI b) (nI w) (nI (lkN d k)) (nI v) (nI (h + 1)) M L := by
  intro f
  induction f with
  | zero => intro h a b v h1 h2; omega
  | succ f ih =>
    intro h a b v h1 h2 _ hPS ha hb hv hL
    have h7 := hD.1 k
    have e1 : (nI k).toNatClampNeg = k := nI_clamp (by omega)
    have e2 : (nI (h + 1)).toNatClampNeg = h + 1 := nI_clamp (by omega)
    have e3 : nI (h + 1) - Int32.ofInt 1 = nI h := by rw [dnI_s]; rfl
    have e4 : (nI h).toNatClampNeg = h := nI_clamp (by omega)
    unfold PL_X7_leastFrom_67
    rw [e1, e2, e3, e4]
    refine ⟨pk_in k 5 hk, pk_le (cn k) (h + 1) (fun c1 => ?_) (fun c1 => ?_) (hM.2 k hk).1 rfl (by omega) (by omega)⟩
    · refine kk v hv ?_
      rcases hL with ⟨g1, g2⟩ | ⟨g1, g2⟩
      · refine Or.inl ⟨g1, fun d' hE hl => g2 d' ⟨hE, ?_⟩ hl⟩
        rcases hl.1 k hk with e | e <;> omega
      · exact g2
    · refine pk_eq v 0 (fun c2 => ?_) (fun c2 => kk v hv ?_) rfl rfl (by omega) (by omega)
      · subst c2
        have h0 : ∀ d', EXB d k (h + 1) d' → ¬ lkL cn tk (capM db) d' := hL.elim (fun g => g.2) (fun g => absurd rfl g.1)
        have ht := hD.2.1 k h hk (by omega)
        have ht2 := hD.2.1 k (h + 1) hk c1
        have hp := pow_t ht
        have hp2 := pow_t ht2
        have o1 : Int32.ofInt 1 = nI 1 := rfl
        have o10 : Int32.ofInt 10 = nI 10 := rfl
        have hand : (sdf a db ||| b) &&& 2 ^ (tk k h) < 2 ^ 12 := and_lt hp
        rw [hM.1, (hM.2 k hk).2 h (by omega), (hM.2 k hk).2 (h + 1) c1, o1, sh1 (by omega), sh1 (by omega), tkn_i, fa_and, fa_and, fa_or, fa_or, fa_or, nI_add, o10, pk_mul, nI_add]
        refine ⟨aok_tk hk (by omega), pk_eq _ 0 (fun c3 => ⟨aok_tk hk (by omega), ?_⟩) (fun c3 => kk 0 (by omega) (Or.inl ⟨rfl, fun d' hE hl => ?_⟩)) rfl rfl (by omega) (by omega)⟩
        · have hnf : ¬ capM db (tk k h) ≤ lkC tk (fup d k h) (tk k h) (k + 1) := fun g => by
            have := (tkn_bit (db := db) ha hb (tk k h)).mpr g
            rw [and2.mp c3] at this
            exact Bool.false_ne_true this
          have hP1 := LPS_1 hD hk c1 (hPS c1) hnf
          have ha1 := oBt_1 hD hk (by omega) ha
          have hb1 := oBt_2 hD hk (by omega) ha hb
          have hw1 := wBt_1 hD hk (by omega) c1 hw
          rw [← lkN_up]
          refine hR (h + 1) _ _ _ _ c1 hP1 ha1 hb1 hw1 (fun v2 hv2 hR2 => ?_)
          have e5 : nI (h + 1) + nI 1 = nI (h + 1 + 1) := nI_add _ _
          rw [e5]
          exact ih (h + 1) _ _ v2 (by omega) (by omega) (Or.inl hP1) (fun _ => hP1) ha1 hb1 hv2 (LOS_nx hD hk h0 hR2)
        · have hge : h + 1 ≤ d' k := Nat.le_of_not_lt (fun e => h0 d' ⟨hE, e⟩ hl)
          have hfull : capM db (tk k h) ≤ lkC tk (fup d k h) (tk k h) (k + 1) := by
            refine (tkn_bit (db := db) ha hb (tk k h)).mp ?_
            cases e : (sdf a db ||| b).testBit (tk k h) with
            | true => rfl
            | false => exact absurd (and2.mpr e) c3
          rw [lkC_up, own hD hk (by omega), if_neg (by decide)] at hfull
          have q1 : lkC tk d' (tk k h) (k + 1) = lkC tk d (tk k h) k + 1 := by
            rw [lkC_s, lkC_ext hE, if_pos ((lkB_iff _).mpr ⟨h, by omega, rfl⟩)]
          have q2 := lkC_mono (tk := tk) (d := d') (t := tk k h) (k := k + 1) (4 - k)
          rw [show k + 1 + (4 - k) = 5 by omega] at q2
          have q3 := hl.2.1 (tk k h)
          omega
      · exact hL.elim (fun g => absurd g.1 c2) (fun g => g.2)
theorem hl_lf (hD : LKD cn tk (capM db)) (hdb : db < 4096) (hM : LKM M cn tk db) :
    ∀ (r k : Nat) (d : Nat → Nat) (a b w : Nat) (K : Int32 → Mem → LMem → Prop), k ≤ 5 → 6 ≤ r + k → LPS cn tk db d k → oBt tk d k 1 a → oBt tk d k 2 b → wBt tk d k w → (∀ v, v < 10 ^ 6 → RES cn tk (capM db) (EXT d k) v → K (nI v) M L) → P_X7_leastFrom r (nI k) (nI a) (nI b) (nI w) (nI (lkN d k)) M L K := by
  intro r
  induction r with
  | zero => intro k d a b w K h1 h2; omega
  | succ r ih =>
    intro k d a b w K h1 h2 hP ha hb hw kk
    have hd : ∀ i, i < k → d i ≤ 9 := fun i hi => by
      have := hD.1 i
      rcases hP.1 i hi with e | e <;> omega
    have ht := tkn_lt (c := db) ha.1 hb.1
    have hn := lkN_le k hd
    have hn5 : lkN d k < 10 ^ 5 := Nat.lt_of_lt_of_le hn (Nat.pow_le_pow_right (by decide) h1)
    show PB_X7_leastFrom (P_X7_leastFrom r) (nI k) (nI a) (nI b) (nI w) (nI (lkN d k)) M L K
    unfold PB_X7_leastFrom
    rw [hM.1, tkn_i, sdf_i]
    have hs := sdf_le w (sdf a db ||| b)
    have hwl := hw.1
    refine pk_lt k 5 (fun c1 => ?_) (fun c1 => ?_) rfl rfl (by omega)
    · have o1 : nI k + Int32.ofInt 1 = nI (k + 1) := nI_s k
      have o10 : Int32.ofInt 10 * nI (lkN d k) = nI (lkN (fup d k 0) (k + 1)) := by
        rw [lkN_up, show Int32.ofInt 10 = nI 10 from rfl, pk_mul]; rfl
      rw [o1, o10]
      refine ih (k + 1) (fup d k 0) a b w _ (by omega) (by omega) (LPS_0 hP) (oBt_0 ha) (oBt_0 hb) (wBt_0 hw) (fun v hv hR => ?_)
      refine hl_lf67 hD hdb hM c1 hw hd (fun h a' b' w' K' hh hP' ha' hb' hw' kk' => ih (k + 1) (fup d k h) a' b' w' K' (by omega) (by omega) hP' ha' hb' hw' kk') kk 100000 0 a b v (by omega) (by omega) (Or.inl (LPS_0 hP)) (fun _ => LPS_0 hP) (oBt_0 ha) (oBt_0 hb) hv (LOS_nx hD c1 (fun d' hE => absurd hE.2 (Nat.not_lt_zero _)) hR)
    · have e : k = 5 := by omega
      subst e
      have hE := RES_end hD hP ha hb hw
      refine pk_eq w 0 (fun c2 => kk 0 (by omega) ?_) (fun c2 => pk_eq _ 0 (fun c3 => kk _ (by omega) ?_) (fun c3 => kk 0 (by omega) ?_) rfl rfl (by omega) (by omega)) rfl rfl (by omega) (by omega)
      · rw [if_neg (fun g => g.1 c2)] at hE; exact hE
      · rw [if_pos ⟨c2, c3⟩] at hE; exact hE
      · rw [if_neg (fun g => c3 g.2)] at hE; exact hE
theorem h_leastLocked (hD : LKD cn tk (capM db)) (hdb : db < 4096) (hM : LKM M cn tk db) {K : Int32 → Mem → LMem → Prop} (kk : ∀ v, v < 10 ^ 6 → RES cn tk (capM db) (fun _ => True) v → K (nI v) M L) : P_X7_leastLocked M L K := by
  unfold P_X7_leastLocked
  refine hl_lf hD hdb hM 16 0 (fun _ => 0) 0 0 0 K (by omega) (by omega) ⟨fun i hi => absurd hi (Nat.not_lt_zero i), fun t => Nat.zero_le _⟩ ⟨by decide, fun t => ⟨fun e => ?_, fun e => absurd e (by show ¬ 1 ≤ 0; omega)⟩⟩ ⟨by decide, fun t => ⟨fun e => ?_, fun e => absurd e (by show ¬ 2 ≤ 0; omega)⟩⟩ ⟨by decide, fun t => ⟨fun e => ?_, fun ⟨i, h, _⟩ => absurd h (Nat.not_lt_zero i)⟩⟩ (fun v hv hR => kk v hv ?_)
  · rw [Nat.zero_testBit] at e; exact absurd e Bool.false_ne_true
  · rw [Nat.zero_testBit] at e; exact absurd e Bool.false_ne_true
  · rw [Nat.zero_testBit] at e; exact absurd e Bool.false_ne_true
  · rcases hR with ⟨h1, h2⟩ | ⟨h1, d, h2, h3, h4, h5⟩
    · exact Or.inl ⟨h1, fun d _ => h2 d (fun i hi => absurd hi (Nat.not_lt_zero i))⟩
    · exact Or.inr ⟨h1, d, trivial, h3, h4, fun d' _ => h5 d' (fun i hi => absurd hi (Nat.not_lt_zero i))⟩
end LKC

