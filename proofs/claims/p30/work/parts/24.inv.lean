/-! ===== the state, and what holds between the calls ===== -/
abbrev Stt := Hse × (Nat → Nat) × (Nat → Nat) × (Nat → Nat → Nat)
def sH (s : Stt) : Hse := s.1
/-- 0 carries, 1 stoppers, 2 waiting, 3 what can be, 4 tries -/
def sG (s : Stt) (i : Nat) : Nat := s.2.1 i
def sN (s : Stt) (r : Nat) : Nat := s.2.2.1 r
/-- 0 from, 1 to, 2 minutes, 3 due -/
def sC (s : Stt) (f c : Nat) : Nat := s.2.2.2 f c
def SOK (s : Stt) : Prop := HOK (sH s) ∧ qn (sH s) ≤ 12 ∧ (1 ≤ sG s 0 ∧ sG s 0 ≤ 60) ∧ sG s 1 < 256 ∧ sG s 2 ≤ 5 ∧ sG s 3 < 8192 ∧ sG s 4 ≤ 99 ∧ (∀ r, r < 8 → sN s r < 256) ∧ ∀ c, c < sG s 2 → sC s 0 c < 8 ∧ sC s 1 c < 8 ∧ sC s 0 c ≠ sC s 1 c ∧ (1 ≤ sC s 2 c ∧ sC s 2 c ≤ 9) ∧ (1 ≤ sC s 3 c ∧ sC s 3 c ≤ 60)
def KpC (M : Mem) (b : Nat) (s : Stt) : Prop := M (b + 1) 4 = nI (qn (sH s)) ∧ (∀ t, t < qn (sH s) → M (b + 2) t = nI (qa (sH s) t) ∧ M (b + 3) t = nI (qb (sH s) t) ∧ M (b + 4) t = nI (qk (sH s) t) ∧ M (b + 5) t = nI (ql (sH s) t)) ∧ M b 1 = nI (sG s 0) ∧ M b 2 = nI (sG s 1) ∧ M b 8 = nI (sG s 2) ∧ M b 10 = nI (sG s 3) ∧ M b 9 = nI (sG s 4) ∧ (∀ r, r < 8 → M (b + 6) r = nI (sN s r)) ∧ ∀ c, c < sG s 2 → M (b + 7) c = nI (sC s 0 c) ∧ M (b + 8) c = nI (sC s 1 c) ∧ M (b + 9) c = nI (sC s 2 c) ∧ M (b + 10) c = nI (sC s 3 c)
def KpN (M : Mem) (s : Stt) : Prop := M 4 4 = nI (qn (sH s)) ∧ (∀ t, t < qn (sH s) → M 5 t = nI (qa (sH s) t) ∧ M 6 t = nI (qb (sH s) t) ∧ M 7 t = nI (qk (sH s) t) ∧ M 8 t = nI (ql (sH s) t)) ∧ M 3 1 = nI (sG s 0) ∧ M 3 2 = nI (sG s 1) ∧ M 3 8 = nI (sG s 2) ∧ M 3 10 = nI (sG s 3) ∧ M 3 9 = nI (sG s 4) ∧ (∀ r, r < 8 → M 9 r = nI (sN s r)) ∧ ∀ c, c < sG s 2 → M 10 c = nI (sC s 0 c) ∧ M 11 c = nI (sC s 1 c) ∧ M 12 c = nI (sC s 2 c) ∧ M 13 c = nI (sC s 3 c)
theorem KpN_iff {M : Mem} {s : Stt} : KpN M s ↔ KpC M 3 s := Iff.rfl
/-- (the third and the last component, and PdO's second ones, are empty here: the lemmas of whole's parts keep their shape) -/
def PdO (M : Mem) (np : Nat) (pd : Nat → Nat) : Prop := M 1 1 = nI np ∧ True ∧ np ≤ 60 ∧ ∀ i, i < np → M 2 i = nI (pd i) ∧ True ∧ 33 ≤ pd i ∧ pd i ≤ 126
def INVs (M : Mem) (s : Stt) (np : Nat) (pd : Nat → Nat) : Prop := SOK s ∧ KpC M 3 s ∧ True ∧ PdO M np pd ∧ M 68 1 = nI 0 ∧ True
theorem KpC.eq {M M1 : Mem} {b : Nat} {s : Stt} (h : KpC M b s) (he : ∀ p i, b ≤ p → p ≤ b + 10 → M1 p i = M p i) : KpC M1 b s := by
  obtain ⟨h1, h2, h3, h4, h5, h6, h7, h8, h9⟩ := h
  refine ⟨(he _ _ (by omega) (by omega)).trans h1, fun t ht => ?_, (he _ _ (by omega) (by omega)).trans h3, (he _ _ (by omega) (by omega)).trans h4, (he _ _ (by omega) (by omega)).trans h5, (he _ _ (by omega) (by omega)).trans h6, (he _ _ (by omega) (by omega)).trans h7, fun r hr => (he _ _ (by omega) (by omega)).trans (h8 r hr), fun c hc => ?_⟩
  · obtain ⟨a1, a2, a3, a4⟩ := h2 t ht
    exact ⟨(he _ _ (by omega) (by omega)).trans a1, (he _ _ (by omega) (by omega)).trans a2, (he _ _ (by omega) (by omega)).trans a3, (he _ _ (by omega) (by omega)).trans a4⟩
  · obtain ⟨a1, a2, a3, a4⟩ := h9 c hc
    exact ⟨(he _ _ (by omega) (by omega)).trans a1, (he _ _ (by omega) (by omega)).trans a2, (he _ _ (by omega) (by omega)).trans a3, (he _ _ (by omega) (by omega)).trans a4⟩
theorem PdO.eq {M M1 : Mem} {np : Nat} {pd : Nat → Nat} (h : PdO M np pd) (h1 : M1 1 1 = M 1 1) (_ : M1 74 16 = M 74 16) (h2 : ∀ i, M1 2 i = M 2 i) (_ : ∀ i, M1 84 i = M 84 i) : PdO M1 np pd :=
  ⟨h1.trans h.1, trivial, h.2.2.1, fun i hi => ⟨(h2 i).trans (h.2.2.2 i hi).1, trivial, (h.2.2.2 i hi).2.2⟩⟩
theorem PdO.eq' {M M1 : Mem} {np : Nat} {pd : Nat → Nat} (h : PdO M np pd) (h1 : M1 1 1 = M 1 1) (h2 : ∀ i, M1 2 i = M 2 i) : PdO M1 np pd :=
  ⟨h1.trans h.1, trivial, h.2.2.1, fun i hi => ⟨(h2 i).trans (h.2.2.2 i hi).1, trivial, (h.2.2.2 i hi).2.2⟩⟩
/-- scratch: all that no call reads before it is written again -/
def cScr : Nat → Nat → Bool := fun p i => Nat.ble 37 p && (Nat.ble p 73 && !(Nat.beq p 68 && Nat.beq i 1))
theorem nbf {a b : Nat} (h : a ≠ b) : Nat.beq a b = false := by
  cases e : Nat.beq a b with
  | false => rfl
  | true => exact absurd (Nat.eq_of_beq_eq_true e) h
theorem nlf {a b : Nat} (h : b < a) : Nat.ble a b = false := by
  cases e : Nat.ble a b with
  | false => rfl
  | true => exact absurd (Nat.le_of_ble_eq_true e) (by omega)
theorem cScr_lo {p i : Nat} (h : p ≤ 36) : cScr p i = false := by
  unfold cScr
  rw [nlf (by omega : p < 37)]; rfl
theorem cScr_hi {p i : Nat} (h : 74 ≤ p) : cScr p i = false := by
  unfold cScr
  rw [nlf (by omega : 73 < p)]
  cases Nat.ble 37 p <;> rfl
theorem INVs.scr {M M1 : Mem} {s : Stt} {np : Nat} {pd : Nat → Nat} (h : INVs M s np pd) (hF : Fr cScr M M1) : INVs M1 s np pd := by
  obtain ⟨h1, h2, h3, h4, h5, h6⟩ := h
  have lo : ∀ p i, p ≤ 36 → M1 p i = M p i := fun p i hp => hF p i (cScr_lo hp)
  exact ⟨h1, h2.eq (fun p i a b => lo p i (by omega)), trivial, h4.eq' (lo _ _ (by omega)) (fun i => lo _ _ (by omega)), (hF 68 1 rfl).trans h5, trivial⟩
theorem cRt_scr {M M1 : Mem} (h : Fr cRt M M1) : Fr cScr M M1 := h.mono (fun p i hq => by
  have : ¬ (p = 37 ∨ p = 38 ∨ p = 39 ∨ p = 40) := fun e => by
    rcases e with rfl | rfl | rfl | rfl <;> exact nomatch (show true = false from hq)
  unfold cRt
  rw [nbf (by omega), nbf (by omega), nbf (by omega), nbf (by omega)]; rfl)
theorem KpC.hc {M : Mem} {s : Stt} (h : KpC M 3 s) : HC M (sH s) := ⟨h.1, h.2.1⟩
theorem KpC.car {M : Mem} {s : Stt} (h : KpC M 3 s) : M 3 1 = nI (sG s 0) := h.2.2.1
theorem KpC.sto {M : Mem} {s : Stt} (h : KpC M 3 s) : M 3 2 = nI (sG s 1) := h.2.2.2.1
theorem KpC.wai {M : Mem} {s : Stt} (h : KpC M 3 s) : M 3 8 = nI (sG s 2) := h.2.2.2.2.1
theorem KpC.can {M : Mem} {s : Stt} (h : KpC M 3 s) : M 3 10 = nI (sG s 3) := h.2.2.2.2.2.1
theorem KpC.tri {M : Mem} {s : Stt} (h : KpC M 3 s) : M 3 9 = nI (sG s 4) := h.2.2.2.2.2.2.1
theorem KpC.kno {M : Mem} {s : Stt} (h : KpC M 3 s) : ∀ r, r < 8 → M 9 r = nI (sN s r) := h.2.2.2.2.2.2.2.1
theorem KpC.cal {M : Mem} {s : Stt} (h : KpC M 3 s) : ∀ c, c < sG s 2 → M 10 c = nI (sC s 0 c) ∧ M 11 c = nI (sC s 1 c) ∧ M 12 c = nI (sC s 2 c) ∧ M 13 c = nI (sC s 3 c) := h.2.2.2.2.2.2.2.2
/-! within, rooms -/
theorem br_0 {v : Int32} {A B : Prop} (h : v = nI 0) (a : A) : (v = 0 → A) ∧ (¬ v = 0 → B) := br_t h a
theorem one_ne : ¬ nI 1 = (0 : Int32) := by decide
theorem br_1 {v : Int32} {A B : Prop} (h : v = nI 1) (b : B) : (v = 0 → A) ∧ (¬ v = 0 → B) := br_f (by rw [h]; exact one_ne) b
theorem wi_1 {k a b : Nat} {x lo hi : Int32} (ha : a ≤ k) (hb : k ≤ b) (h31 : b < 2 ^ 31 := by decide) (hx : x = nI k := by rfl) (h1 : lo = nI a := by rfl) (h2 : hi = nI b := by rfl) (M : Mem) : f_X9_within M x lo hi = nI 1 := by
  subst hx h1 h2
  unfold f_X9_within
  rw [if_neg (nI_nlt ha (by omega)), if_neg (nI_nlt hb h31)]; rfl
theorem ro_1 {k : Nat} (h : k < 8) (M : Mem) : f_X9_isRoom M (nI k) = nI 1 := wi_1 (k := k) (a := 0) (b := 7) (Nat.zero_le _) (by omega) (by decide) rfl rfl rfl M
theorem tw_1 {a b : Nat} (ha : a < 8) (hb : b < 8) (hab : a ≠ b) (M : Mem) : f_X9_twoRooms M (nI a) (nI b) = nI 1 := by
  unfold f_X9_twoRooms
  rw [ro_1 ha, ro_1 hb, if_neg one_ne, if_neg one_ne, if_neg (fun e => hab ((nI_eq (by omega) (by omega)).mp e))]; rfl
