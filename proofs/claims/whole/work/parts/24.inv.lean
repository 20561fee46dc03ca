/-! ===== the state, and what holds between the calls ===== -/
abbrev Stt := Hse × (Nat → Nat) × (Nat → Nat) × (Nat → Nat → Nat)
def sH (s : Stt) : Hse := s.1
/-- 0 carries, 1 stoppers, 2 waiting, 3 what can be, 4 tries -/
def sG (s : Stt) (i : Nat) : Nat := s.2.1 i
def sN (s : Stt) (r : Nat) : Nat := s.2.2.1 r
/-- 0 from, 1 to, 2 minutes, 3 due -/
def sC (s : Stt) (f c : Nat) : Nat := s.2.2.2 f c
def SOK (s : Stt) : Prop := HOK (sH s) ∧ qn (sH s) ≤ 12 ∧ (1 ≤ sG s 0 ∧ sG s 0 ≤ 60) ∧ sG s 1 < 256 ∧ sG s 2 ≤ 5 ∧ sG s 3 < 8192 ∧ sG s 4 ≤ 99 ∧ (∀ r, r < 8 → sN s r < 256) ∧ ∀ c, c < sG s 2 → sC s 0 c < 8 ∧ sC s 1 c < 8 ∧ sC s 0 c ≠ sC s 1 c ∧ (1 ≤ sC s 2 c ∧ sC s 2 c ≤ 9) ∧ (1 ≤ sC s 3 c ∧ sC s 3 c ≤ 60)
def KpC (M : Mem) (b : Nat) (s : Stt) : Prop := M (b + 1) 4 = nI (qn (sH s)) ∧ (∀ t, t < qn (sH s) → M (b + 2) t = nI (qa (sH s) t) ∧ M (b + 3) t = nI (qb (sH s) t) ∧ M (b + 4) t = nI (qk (sH s) t) ∧ M (b + 5) t = nI (ql (sH s) t)) ∧ M b 1 = nI (sG s 0) ∧ M b 2 = nI (sG s 1) ∧ M b 8 = nI (sG s 2) ∧ M b 10 = nI (sG s 3) ∧ M b 9 = nI (sG s 4) ∧ (∀ r, r < 8 → M (b + 6) r = nI (sN s r)) ∧ ∀ c, c < sG s 2 → M (b + 7) c = nI (sC s 0 c) ∧ M (b + 8) c = nI (sC s 1 c) ∧ M (b + 9) c = nI (sC s 2 c) ∧ M (b + 10) c = nI (sC s 3 c)
def KpN (M : Mem) (s : Stt) : Prop := M 4 4 = nI (qn (sH s)) ∧ (∀ t, t < qn (sH s) → M 5 t = nI (qa (sH s) t) ∧ M 6 t = nI (qb (sH s) t) ∧ M 7 t = nI (qk (sH s) t) ∧ M 8 t = nI (ql (sH s) t)) ∧ M 3 1 = nI (sG s 0) ∧ M 3 2 = nI (sG s 1) ∧ M 3 8 = nI (sG s 2) ∧ M 3 10 = nI (sG s 3) ∧ M 3 9 = nI (sG s 4) ∧ (∀ r, r < 8 → M 9 r = nI (sN s r)) ∧ ∀ c, c < sG s 2 → M 10 c = nI (sC s 0 c) ∧ M 11 c = nI (sC s 1 c) ∧ M 12 c = nI (sC s 2 c) ∧ M 13 c = nI (sC s 3 c)
theorem KpN_iff {M : Mem} {s : Stt} : KpN M s ↔ KpC M 3 s := Iff.rfl
def KpM (M : Mem) (s : Stt) : Prop := M 74 4 = nI (qn (sH s)) ∧ (∀ t, t < qn (sH s) → M 75 t = nI (qa (sH s) t) ∧ M 76 t = nI (qb (sH s) t) ∧ M 77 t = nI (qk (sH s) t) ∧ M 78 t = nI (ql (sH s) t)) ∧ M 74 5 = nI (sG s 0) ∧ M 74 6 = nI (sG s 1) ∧ M 74 12 = nI (sG s 2) ∧ M 74 13 = nI (sG s 3) ∧ M 74 14 = nI (sG s 4) ∧ (∀ r, r < 8 → M 79 r = nI (sN s r)) ∧ ∀ c, c < sG s 2 → M 80 c = nI (sC s 0 c) ∧ M 81 c = nI (sC s 1 c) ∧ M 82 c = nI (sC s 2 c) ∧ M 83 c = nI (sC s 3 c)
def KpK (M : Mem) (k : Nat) (s : Stt) : Prop := M 108 (100 * k) = nI (qn (sH s)) ∧ (∀ t, t < qn (sH s) → M 108 (100 * k + (6 + 4 * t)) = nI (qa (sH s) t) ∧ M 108 (100 * k + (7 + 4 * t)) = nI (qb (sH s) t) ∧ M 108 (100 * k + (8 + 4 * t)) = nI (qk (sH s) t) ∧ M 108 (100 * k + (9 + 4 * t)) = nI (ql (sH s) t)) ∧ M 108 (100 * k + 1) = nI (sG s 0) ∧ M 108 (100 * k + 2) = nI (sG s 1) ∧ M 108 (100 * k + 3) = nI (sG s 2) ∧ M 108 (100 * k + 4) = nI (sG s 3) ∧ M 108 (100 * k + 5) = nI (sG s 4) ∧ (∀ r, r < 8 → M 108 (100 * k + (54 + r)) = nI (sN s r)) ∧ ∀ c, c < sG s 2 → M 108 (100 * k + (62 + 4 * c)) = nI (sC s 0 c) ∧ M 108 (100 * k + (63 + 4 * c)) = nI (sC s 1 c) ∧ M 108 (100 * k + (64 + 4 * c)) = nI (sC s 2 c) ∧ M 108 (100 * k + (65 + 4 * c)) = nI (sC s 3 c)
def PdO (M : Mem) (np : Nat) (pd : Nat → Nat) : Prop := M 1 1 = nI np ∧ M 74 16 = nI np ∧ np ≤ 60 ∧ ∀ i, i < np → M 2 i = nI (pd i) ∧ M 84 i = nI (pd i) ∧ 33 ≤ pd i ∧ pd i ≤ 126
def ImO (M : Mem) (k b : Nat) : Prop := M 68 1 = nI 0 ∧ ((M 36 k = nI 0 ∧ M 109 k = nI 0) ∨ (M 36 k = nI 1 ∧ M 109 k = nI 1 ∧ ∃ s, SOK s ∧ KpC M b s ∧ KpK M k s))
def INVs (M : Mem) (s : Stt) (np : Nat) (pd : Nat → Nat) : Prop := SOK s ∧ KpC M 3 s ∧ KpM M s ∧ PdO M np pd ∧ ImO M 0 14 ∧ ImO M 1 25
def INV (M : Mem) (_ : LMem) : Prop := ∃ s np pd, INVs M s np pd
theorem KpC.eq {M M1 : Mem} {b : Nat} {s : Stt} (h : KpC M b s) (he : ∀ p i, b ≤ p → p ≤ b + 10 → M1 p i = M p i) : KpC M1 b s := by
  obtain ⟨h1, h2, h3, h4, h5, h6, h7, h8, h9⟩ := h
  refine ⟨(he _ _ (by omega) (by omega)).trans h1, fun t ht => ?_, (he _ _ (by omega) (by omega)).trans h3, (he _ _ (by omega) (by omega)).trans h4, (he _ _ (by omega) (by omega)).trans h5, (he _ _ (by omega) (by omega)).trans h6, (he _ _ (by omega) (by omega)).trans h7, fun r hr => (he _ _ (by omega) (by omega)).trans (h8 r hr), fun c hc => ?_⟩
  · obtain ⟨a1, a2, a3, a4⟩ := h2 t ht
    exact ⟨(he _ _ (by omega) (by omega)).trans a1, (he _ _ (by omega) (by omega)).trans a2, (he _ _ (by omega) (by omega)).trans a3, (he _ _ (by omega) (by omega)).trans a4⟩
  · obtain ⟨a1, a2, a3, a4⟩ := h9 c hc
    exact ⟨(he _ _ (by omega) (by omega)).trans a1, (he _ _ (by omega) (by omega)).trans a2, (he _ _ (by omega) (by omega)).trans a3, (he _ _ (by omega) (by omega)).trans a4⟩
theorem KpM.eq {M M1 : Mem} {s : Stt} (h : KpM M s) (h74 : ∀ i, i = 4 ∨ i = 5 ∨ i = 6 ∨ i = 12 ∨ i = 13 ∨ i = 14 → M1 74 i = M 74 i) (he : ∀ p i, 75 ≤ p → p ≤ 83 → M1 p i = M p i) : KpM M1 s := by
  obtain ⟨h1, h2, h3, h4, h5, h6, h7, h8, h9⟩ := h
  refine ⟨(h74 _ (by omega)).trans h1, fun t ht => ?_, (h74 _ (by omega)).trans h3, (h74 _ (by omega)).trans h4, (h74 _ (by omega)).trans h5, (h74 _ (by omega)).trans h6, (h74 _ (by omega)).trans h7, fun r hr => (he _ _ (by omega) (by omega)).trans (h8 r hr), fun c hc => ?_⟩
  · obtain ⟨a1, a2, a3, a4⟩ := h2 t ht
    exact ⟨(he _ _ (by omega) (by omega)).trans a1, (he _ _ (by omega) (by omega)).trans a2, (he _ _ (by omega) (by omega)).trans a3, (he _ _ (by omega) (by omega)).trans a4⟩
  · obtain ⟨a1, a2, a3, a4⟩ := h9 c hc
    exact ⟨(he _ _ (by omega) (by omega)).trans a1, (he _ _ (by omega) (by omega)).trans a2, (he _ _ (by omega) (by omega)).trans a3, (he _ _ (by omega) (by omega)).trans a4⟩
theorem KpK.eq {M M1 : Mem} {k : Nat} {s : Stt} (h : KpK M k s) (hq : qn (sH s) ≤ 12) (hw : sG s 2 ≤ 5) (he : ∀ i, i < 100 → M1 108 (100 * k + i) = M 108 (100 * k + i)) : KpK M1 k s := by
  obtain ⟨h1, h2, h3, h4, h5, h6, h7, h8, h9⟩ := h
  refine ⟨(he 0 (by omega)).trans h1, fun t ht => ?_, (he _ (by omega)).trans h3, (he _ (by omega)).trans h4, (he _ (by omega)).trans h5, (he _ (by omega)).trans h6, (he _ (by omega)).trans h7, fun r hr => (he _ (by omega)).trans (h8 r hr), fun c hc => ?_⟩
  · obtain ⟨a1, a2, a3, a4⟩ := h2 t ht
    exact ⟨(he _ (by omega)).trans a1, (he _ (by omega)).trans a2, (he _ (by omega)).trans a3, (he _ (by omega)).trans a4⟩
  · obtain ⟨a1, a2, a3, a4⟩ := h9 c hc
    exact ⟨(he _ (by omega)).trans a1, (he _ (by omega)).trans a2, (he _ (by omega)).trans a3, (he _ (by omega)).trans a4⟩
theorem PdO.eq {M M1 : Mem} {np : Nat} {pd : Nat → Nat} (h : PdO M np pd) (h1 : M1 1 1 = M 1 1) (h16 : M1 74 16 = M 74 16) (h2 : ∀ i, M1 2 i = M 2 i) (h84 : ∀ i, M1 84 i = M 84 i) : PdO M1 np pd :=
  ⟨h1.trans h.1, h16.trans h.2.1, h.2.2.1, fun i hi => ⟨(h2 i).trans (h.2.2.2 i hi).1, (h84 i).trans (h.2.2.2 i hi).2.1, (h.2.2.2 i hi).2.2⟩⟩
theorem ImO.eq {M M1 : Mem} {k b : Nat} (h : ImO M k b) (h68 : M1 68 1 = M 68 1) (h36 : M1 36 k = M 36 k) (h109 : M1 109 k = M 109 k) (hb : ∀ p i, b ≤ p → p ≤ b + 10 → M1 p i = M p i) (hk : ∀ i, i < 100 → M1 108 (100 * k + i) = M 108 (100 * k + i)) : ImO M1 k b := by
  obtain ⟨h0, h⟩ := h
  refine ⟨h68.trans h0, ?_⟩
  rcases h with ⟨h1, h2⟩ | ⟨h1, h2, s, h3, h4, h5⟩
  · exact Or.inl ⟨h36.trans h1, h109.trans h2⟩
  · exact Or.inr ⟨h36.trans h1, h109.trans h2, s, h3, h4.eq hb, h5.eq h3.2.1 h3.2.2.2.2.1 hk⟩
/-- scratch: all that no call reads before it is written again -/
def cScr : Nat → Nat → Bool := fun p i => (Nat.ble 37 p && (Nat.ble p 73 && !(Nat.beq p 68 && Nat.beq i 1))) || ((Nat.beq p 74 && (Nat.beq i 20 || (Nat.beq i 21 || (Nat.beq i 31 || (Nat.beq i 32 || (Nat.beq i 33 || (Nat.beq i 36 || (Nat.beq i 48 || Nat.beq i 49)))))))) || (Nat.ble 85 p && Nat.ble p 107))
theorem nbf {a b : Nat} (h : a ≠ b) : Nat.beq a b = false := by
  cases e : Nat.beq a b with
  | false => rfl
  | true => exact absurd (Nat.eq_of_beq_eq_true e) h
theorem nlf {a b : Nat} (h : b < a) : Nat.ble a b = false := by
  cases e : Nat.ble a b with
  | false => rfl
  | true => exact absurd (Nat.le_of_ble_eq_true e) (by omega)
theorem cScr_lo {p i : Nat} (h : p ≤ 36) : cScr p i = false := by
  unfold cScr
  rw [nlf (by omega : p < 37), nbf (by omega : p ≠ 74), nlf (by omega : p < 85)]; rfl
theorem cScr_mid {p i : Nat} (h : 75 ≤ p) (h2 : p ≤ 84) : cScr p i = false := by
  unfold cScr
  rw [nlf (by omega : 73 < p), nbf (by omega : p ≠ 74), nlf (by omega : p < 85)]
  cases Nat.ble 37 p <;> rfl
theorem INVs.scr {M M1 : Mem} {s : Stt} {np : Nat} {pd : Nat → Nat} (h : INVs M s np pd) (hF : Fr cScr M M1) : INVs M1 s np pd := by
  obtain ⟨h1, h2, h3, h4, h5, h6⟩ := h
  have lo : ∀ p i, p ≤ 36 → M1 p i = M p i := fun p i hp => hF p i (cScr_lo hp)
  have mid : ∀ p i, 75 ≤ p → p ≤ 84 → M1 p i = M p i := fun p i a b => hF p i (cScr_mid a b)
  refine ⟨h1, h2.eq (fun p i a b => lo p i (by omega)), h3.eq (fun i hi => hF 74 i ?_) (fun p i a b => mid p i a (by omega)), h4.eq (lo _ _ (by omega)) (hF 74 16 rfl) (fun i => lo _ _ (by omega)) (fun i => mid _ _ (by omega) (by omega)), h5.eq (hF 68 1 rfl) (lo _ _ (by omega)) (hF 109 _ rfl) (fun p i a b => lo p i (by omega)) (fun i _ => hF 108 _ rfl), h6.eq (hF 68 1 rfl) (lo _ _ (by omega)) (hF 109 _ rfl) (fun p i a b => lo p i (by omega)) (fun i _ => hF 108 _ rfl)⟩
  rcases hi with rfl | rfl | rfl | rfl | rfl | rfl <;> rfl
theorem INV.scr {M M1 : Mem} {L L1 : LMem} (h : INV M L) (hF : Fr cScr M M1) : INV M1 L1 := by
  obtain ⟨s, np, pd, h⟩ := h
  exact ⟨s, np, pd, h.scr hF⟩
theorem cRt_scr {M M1 : Mem} (h : Fr cRt M M1) : Fr cScr M M1 := h.mono (fun p i hq => by
  have : ¬ (p = 37 ∨ p = 38 ∨ p = 39 ∨ p = 40) := fun e => by
    rcases e with rfl | rfl | rfl | rfl <;> exact nomatch (show true = false from hq)
  unfold cRt
  rw [nbf (by omega), nbf (by omega), nbf (by omega), nbf (by omega)]; rfl)
theorem cMw_scr {M M1 : Mem} (h : Fr cMw M M1) : Fr cScr M M1 := h.mono (fun p i hq => by
  have h1 : ¬ (p = 85 ∨ p = 86 ∨ p = 87) := fun e => by
    rcases e with rfl | rfl | rfl <;> exact nomatch (show true = false from hq)
  have h2 : ¬ (p = 74 ∧ (i = 20 ∨ i = 21)) := fun e => by
    obtain ⟨rfl, rfl | rfl⟩ := e <;> exact nomatch (show true = false from hq)
  unfold cMw
  rw [nbf (by omega : p ≠ 85), nbf (by omega : p ≠ 86), nbf (by omega : p ≠ 87)]
  by_cases e : p = 74
  · rw [nbf (by omega : i ≠ 20), nbf (by omega : i ≠ 21)]; cases Nat.beq p 74 <;> rfl
  · rw [nbf e]; rfl)
theorem KpC.hc {M : Mem} {s : Stt} (h : KpC M 3 s) : HC M (sH s) := ⟨h.1, h.2.1⟩
theorem KpC.car {M : Mem} {s : Stt} (h : KpC M 3 s) : M 3 1 = nI (sG s 0) := h.2.2.1
theorem KpC.sto {M : Mem} {s : Stt} (h : KpC M 3 s) : M 3 2 = nI (sG s 1) := h.2.2.2.1
theorem KpC.wai {M : Mem} {s : Stt} (h : KpC M 3 s) : M 3 8 = nI (sG s 2) := h.2.2.2.2.1
theorem KpC.can {M : Mem} {s : Stt} (h : KpC M 3 s) : M 3 10 = nI (sG s 3) := h.2.2.2.2.2.1
theorem KpC.tri {M : Mem} {s : Stt} (h : KpC M 3 s) : M 3 9 = nI (sG s 4) := h.2.2.2.2.2.2.1
theorem KpC.kno {M : Mem} {s : Stt} (h : KpC M 3 s) : ∀ r, r < 8 → M 9 r = nI (sN s r) := h.2.2.2.2.2.2.2.1
theorem KpC.cal {M : Mem} {s : Stt} (h : KpC M 3 s) : ∀ c, c < sG s 2 → M 10 c = nI (sC s 0 c) ∧ M 11 c = nI (sC s 1 c) ∧ M 12 c = nI (sC s 2 c) ∧ M 13 c = nI (sC s 3 c) := h.2.2.2.2.2.2.2.2
theorem KpM.hm {M : Mem} {s : Stt} (h : KpM M s) : HM4 M (sH s) := ⟨h.1, h.2.1⟩
theorem KpM.car {M : Mem} {s : Stt} (h : KpM M s) : M 74 5 = nI (sG s 0) := h.2.2.1
theorem KpM.sto {M : Mem} {s : Stt} (h : KpM M s) : M 74 6 = nI (sG s 1) := h.2.2.2.1
theorem KpM.wai {M : Mem} {s : Stt} (h : KpM M s) : M 74 12 = nI (sG s 2) := h.2.2.2.2.1
theorem KpM.can {M : Mem} {s : Stt} (h : KpM M s) : M 74 13 = nI (sG s 3) := h.2.2.2.2.2.1
theorem KpM.tri {M : Mem} {s : Stt} (h : KpM M s) : M 74 14 = nI (sG s 4) := h.2.2.2.2.2.2.1
theorem KpM.kno {M : Mem} {s : Stt} (h : KpM M s) : ∀ r, r < 8 → M 79 r = nI (sN s r) := h.2.2.2.2.2.2.2.1
theorem KpM.cal {M : Mem} {s : Stt} (h : KpM M s) : ∀ c, c < sG s 2 → M 80 c = nI (sC s 0 c) ∧ M 81 c = nI (sC s 1 c) ∧ M 82 c = nI (sC s 2 c) ∧ M 83 c = nI (sC s 3 c) := h.2.2.2.2.2.2.2.2
/-! within, rooms -/
theorem br_0 {v : Int32} {A B : Prop} (h : v = nI 0) (a : A) : (v = 0 → A) ∧ (¬ v = 0 → B) := br_t h a
theorem one_ne : ¬ nI 1 = (0 : Int32) := by decide
theorem br_1 {v : Int32} {A B : Prop} (h : v = nI 1) (b : B) : (v = 0 → A) ∧ (¬ v = 0 → B) := br_f (by rw [h]; exact one_ne) b
theorem wlt (a b : Int32) : a.toInt64 < b.toInt64 ↔ a < b := by rw [Int64.lt_iff_toInt_lt, Int32.lt_iff_toInt_lt, Int32.toInt_toInt64, Int32.toInt_toInt64]
theorem wi_cases (x : Int32) (a b : Nat) (lo hi : Int32) (lo' hi' : Int64) (hab : a ≤ b := by decide) (hb : b < 2 ^ 31 := by decide) (h1 : lo = nI a := by rfl) (h2 : hi = nI b := by rfl) (h3 : lo' = lN a := by rfl) (h4 : hi' = lN b := by rfl) :
    (∃ k, a ≤ k ∧ k ≤ b ∧ x = nI k ∧ (∀ M, f_X9_within M x lo hi = nI 1) ∧ ∀ M, f_X10_in M x.toInt64 lo' hi' = nI 1) ∨ ((x < nI a ∨ nI b < x) ∧ (∀ M, f_X9_within M x lo hi = nI 0) ∧ ∀ M, f_X10_in M x.toInt64 lo' hi' = nI 0) := by
  subst h1 h2 h3 h4
  have e1 : x.toInt64 < lN a ↔ x < nI a := by rw [← nI_l (by omega), wlt]
  have e2 : lN b < x.toInt64 ↔ nI b < x := by rw [← nI_l (by omega), wlt]
  unfold f_X9_within f_X10_in
  simp only [lg_cmp_lt, lg_cmp_gt, e1, e2]
  by_cases c1 : x < nI a
  · exact Or.inr ⟨Or.inl c1, fun _ => by rw [if_pos c1]; rfl, fun _ => by rw [if_pos c1]; rfl⟩
  · by_cases c2 : nI b < x
    · exact Or.inr ⟨Or.inr c2, fun _ => by rw [if_neg c1, if_pos c2]; rfl, fun _ => by rw [if_neg c1, if_pos c2]; rfl⟩
    · have g1 := nI_toInt (n := a) (by omega)
      have g2 := nI_toInt (n := b) (by omega)
      have c1' : ¬ x.toInt < a := fun e => c1 (Int32.lt_iff_toInt_lt.mpr (by rw [g1]; exact e))
      have c2' : ¬ (b : Int) < x.toInt := fun e => c2 (Int32.lt_iff_toInt_lt.mpr (by rw [g2]; exact e))
      obtain ⟨k, hk, rfl⟩ := nI_of (x := x) (fun e => by have := Int32.lt_iff_toInt_lt.mp e; rw [show (0 : Int32).toInt = 0 from rfl] at this; omega)
      rw [nI_toInt hk] at c1' c2'
      exact Or.inl ⟨k, by omega, by omega, rfl, fun _ => by rw [if_neg c1, if_neg c2]; rfl, fun _ => by rw [if_neg c1, if_neg c2]; rfl⟩
theorem ro_cases (x : Int32) : (∃ k, k < 8 ∧ x = nI k ∧ (∀ M, f_X9_isRoom M x = nI 1) ∧ ∀ M, f_X10_isRoom M x = nI 1) ∨ ((∀ M, f_X9_isRoom M x = nI 0) ∧ ∀ M, f_X10_isRoom M x = nI 0) := by
  rcases wi_cases x 0 7 (Int32.ofInt 0) (Int32.ofInt 7) (Int64.ofNat 0) (Int64.ofNat 7) with ⟨k, h1, h2, h3, h4, h5⟩ | ⟨-, h4, h5⟩
  · exact Or.inl ⟨k, by omega, h3, h4, h5⟩
  · exact Or.inr ⟨h4, h5⟩
theorem tw_cases (x y : Int32) : (∃ a b, a < 8 ∧ b < 8 ∧ a ≠ b ∧ x = nI a ∧ y = nI b ∧ (∀ M, f_X9_twoRooms M x y = nI 1) ∧ ∀ M, f_X10_areTwo M x y = nI 1) ∨ ((∀ M, f_X9_twoRooms M x y = nI 0) ∧ ∀ M, f_X10_areTwo M x y = nI 0) := by
  unfold f_X9_twoRooms f_X10_areTwo
  rcases ro_cases x with ⟨a, ha, hx, h1, h2⟩ | ⟨h1, h2⟩
  · rcases ro_cases y with ⟨b, hb, hy, h3, h4⟩ | ⟨h3, h4⟩
    · by_cases e : x = y
      · exact Or.inr ⟨fun M => by rw [h1, h3, if_neg one_ne, if_neg one_ne, if_pos e]; rfl, fun M => by rw [h2, h4, if_neg one_ne, if_neg one_ne, if_pos e]; rfl⟩
      · refine Or.inl ⟨a, b, ha, hb, fun e2 => e (by rw [hx, hy, e2]), hx, hy, fun M => by rw [h1, h3, if_neg one_ne, if_neg one_ne, if_neg e]; rfl, fun M => by rw [h2, h4, if_neg one_ne, if_neg one_ne, if_neg e]; rfl⟩
    · exact Or.inr ⟨fun M => by rw [h1, h3, if_neg one_ne, if_pos o0.symm]; rfl, fun M => by rw [h2, h4, if_neg one_ne, if_pos o0.symm]; rfl⟩
  · exact Or.inr ⟨fun M => by rw [h1, if_pos o0.symm]; rfl, fun M => by rw [h2, if_pos o0.symm]; rfl⟩
