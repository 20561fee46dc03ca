/-! ===== numbers, memory, frames ===== -/
theorem oL (n : Nat) : Int32.ofInt (no_index (OfNat.ofNat n : Int)) = nI (OfNat.ofNat n) := rfl
theorem o0 : (0 : Int32) = nI 0 := rfl
theorem o10 : Int32.ofInt 10 = nI 10 := rfl
theorem nI_s (k : Nat) : nI k + Int32.ofInt 1 = nI (k + 1) := nI_1 k
theorem nI_ne6 {n : Nat} (h : n < 2 ^ 31) : ¬ nI n = Int32.ofInt (-6) := by
  intro e
  have h1 := nI_toInt h
  rw [e] at h1
  have h2 : (Int32.ofInt (-6)).toInt = -6 := by decide
  omega
theorem mp_s (M : Mem) (p i : Nat) (v : Int32) : mput M p i v p i = v := by
  unfold mput; exact if_pos ⟨rfl, rfl⟩
theorem mp_p (M : Mem) {p i q j : Nat} {v : Int32} (h : q ≠ p) : mput M p i v q j = M q j := by
  unfold mput; exact if_neg (fun e => h e.1)
theorem mp_i (M : Mem) {p i j : Nat} {v : Int32} (h : j ≠ i) : mput M p i v p j = M p j := by
  unfold mput; exact if_neg (fun e => h e.2)
theorem mp_ii (M : Mem) {p i j : Nat} {v : Int32} (h : j = i) : mput M p i v p j = v := by
  subst h; exact mp_s M p j v
def Fr (c : Nat → Nat → Bool) (M M' : Mem) : Prop := ∀ p i, c p i = false → M' p i = M p i
theorem Fr.rf (c : Nat → Nat → Bool) (M : Mem) : Fr c M M := fun _ _ _ => rfl
theorem Fr.tr {c : Nat → Nat → Bool} {M M1 M2 : Mem} (h1 : Fr c M M1) (h2 : Fr c M1 M2) : Fr c M M2 := fun p i h => (h2 p i h).trans (h1 p i h)
theorem Fr.put {c : Nat → Nat → Bool} {M M1 : Mem} {p i : Nat} {v : Int32} (h1 : Fr c M M1) (h : c p i = true) : Fr c M (mput M1 p i v) := by
  intro q j hq
  unfold mput
  by_cases e : q = p ∧ j = i
  · rw [e.1, e.2] at hq; rw [h] at hq; cases hq
  · rw [if_neg e]; exact h1 q j hq
theorem Fr.mono {c d : Nat → Nat → Bool} {M M1 : Mem} (h1 : Fr c M M1) (h : ∀ p i, d p i = false → c p i = false) : Fr d M M1 := fun p i hq => h1 p i (h p i hq)
/-! counting -/
def cnt (p : Nat → Bool) : Nat → Nat
  | 0 => 0
  | n + 1 => cnt p n + (if p n = true then 1 else 0)
theorem cnt_le {p q : Nat → Bool} : ∀ n : Nat, (∀ i, i < n → p i = true → q i = true) → cnt p n ≤ cnt q n := by
  intro n
  induction n with
  | zero => intro _; exact Nat.le_refl _
  | succ n ih =>
    intro h
    have h1 := ih (fun i hi => h i (by omega))
    have h2 := h n (by omega)
    unfold cnt
    by_cases hp : p n = true
    · rw [if_pos hp, if_pos (h2 hp)]; omega
    · rw [if_neg hp]; omega
theorem cnt_lt {p q : Nat → Bool} {j : Nat} : ∀ n : Nat, (∀ i, i < n → p i = true → q i = true) → j < n → p j = false → q j = true → cnt p n < cnt q n := by
  intro n
  induction n with
  | zero => intro _ h; omega
  | succ n ih =>
    intro h hj hp hq
    have h2 := h n (by omega)
    unfold cnt
    by_cases e : j = n
    · subst e
      have h1 := cnt_le j (fun i hi => h i (by omega))
      rw [if_neg (by rw [hp]; exact Bool.false_ne_true), if_pos hq]; omega
    · have h1 := ih (fun i hi => h i (by omega)) (by omega) hp hq
      by_cases hp2 : p n = true
      · rw [if_pos hp2, if_pos (h2 hp2)]; omega
      · rw [if_neg hp2]; omega
theorem cnt_all : ∀ n : Nat, cnt (fun _ => true) n = n := by
  intro n
  induction n with
  | zero => rfl
  | succ n ih => unfold cnt; rw [ih, if_pos rfl]
theorem cnt_n {p : Nat → Bool} {j n : Nat} (hj : j < n) (hp : p j = false) : cnt p n < n := by
  have h := cnt_lt (p := p) (q := fun _ => true) n (fun _ _ _ => rfl) hj hp rfl
  rw [cnt_all] at h; exact h
/-! ===== houses and labels ===== -/
abbrev Hse := Nat × (Nat → Nat) × (Nat → Nat) × (Nat → Nat) × (Nat → Nat)
def qn (h : Hse) : Nat := h.1
def qa (h : Hse) (t : Nat) : Nat := h.2.1 t
def qb (h : Hse) (t : Nat) : Nat := h.2.2.1 t
def qk (h : Hse) (t : Nat) : Nat := h.2.2.2.1 t
def ql (h : Hse) (t : Nat) : Nat := h.2.2.2.2 t
def HOK (h : Hse) : Prop := qn h ≤ 13 ∧ ∀ t, t < qn h → qa h t < 8 ∧ qb h t < 8 ∧ qa h t ≠ qb h t ∧ 1 ≤ ql h t ∧ ql h t ≤ 9 ∧ qk h t < 127
def go (h : Hse) (t x : Nat) : Nat := if qk h t = 120 then 8 else if qa h t = x then qb h t else if qb h t = x then (if qk h t = 62 then 8 else qa h t) else 8
def fre (bar : Int32) (t : Nat) : Prop := ((bar >>> (nI t &&& 31)) &&& nI 1) = nI 0
theorem go_le {h : Hse} (H : HOK h) {t x : Nat} (ht : t < qn h) : go h t x ≤ 8 := by
  have h1 := H.2 t ht
  unfold go
  repeat' split
  all_goals omega
theorem go_ne {h : Hse} (H : HOK h) {t x : Nat} (ht : t < qn h) (hx : x < 8) : go h t x ≠ x := by
  have h1 := H.2 t ht
  unfold go
  repeat' split
  all_goals omega
section LAB
variable {h : Hse} {bar : Int32} {to B I : Nat}
def isLab (h : Hse) (bar : Int32) (to B I : Nat) (D : Nat → Nat) : Prop := D to = 0 ∧ (∀ x, x < 8 → D x ≤ I) ∧ (∀ t x, t < qn h → fre bar t → x < 8 → go h t x < 8 → D x ≤ B * ql h t + 1 + D (go h t x)) ∧ (∀ x, x < 8 → x ≠ to → D x = I ∨ ∃ t, t < qn h ∧ fre bar t ∧ go h t x < 8 ∧ D x = B * ql h t + 1 + D (go h t x))
def isPre (h : Hse) (bar : Int32) (to B I : Nat) (D : Nat → Nat) : Prop := D to = 0 ∧ (∀ x, x < 8 → D x ≤ I) ∧ (∀ x, x < 8 → x ≠ to → D x = I ∨ ∃ t, t < qn h ∧ fre bar t ∧ go h t x < 8 ∧ B * ql h t + 1 + D (go h t x) ≤ D x)
theorem lab_pre {D : Nat → Nat} (hD : isLab h bar to B I D) : isPre h bar to B I D := by
  refine ⟨hD.1, hD.2.1, fun x hx hn => ?_⟩
  rcases hD.2.2.2 x hx hn with h1 | ⟨t, h1, h2, h3, h4⟩
  · exact Or.inl h1
  · exact Or.inr ⟨t, h1, h2, h3, by omega⟩
theorem pre_ge {D l : Nat → Nat} (hD : isLab h bar to B I D) (hp : isPre h bar to B I l) : ∀ (N x : Nat), l x < N → x < 8 → D x ≤ l x := by
  intro N
  induction N with
  | zero => intro x h; omega
  | succ N ih =>
    intro x hx h8
    by_cases hto : x = to
    · rw [hto, hD.1]; omega
    · rcases hp.2.2 x h8 hto with h1 | ⟨t, ht, hf, hg, hle⟩
      · rw [h1]; exact hD.2.1 x h8
      · have h1 := ih (go h t x) (by omega) hg
        have h2 := hD.2.2.1 t x ht hf h8 hg
        omega
theorem pre_ge' {D l : Nat → Nat} (hD : isLab h bar to B I D) (hp : isPre h bar to B I l) {x : Nat} (hx : x < 8) : D x ≤ l x := pre_ge hD hp (l x + 1) x (by omega) hx
theorem lab_un {D D' : Nat → Nat} (hD : isLab h bar to B I D) (hD' : isLab h bar to B I D') {x : Nat} (hx : x < 8) : D x = D' x :=
  Nat.le_antisymm (pre_ge' hD (lab_pre hD') hx) (pre_ge' hD' (lab_pre hD) hx)
def sum8 (f : Nat → Nat) : Nat := f 0 + f 1 + f 2 + f 3 + f 4 + f 5 + f 6 + f 7
def fup (f : Nat → Nat) (x v : Nat) : Nat → Nat := fun y => if y = x then v else f y
theorem fup_s (f : Nat → Nat) (x v : Nat) : fup f x v x = v := by unfold fup; exact if_pos rfl
theorem fup_n {f : Nat → Nat} {x v y : Nat} (h : y ≠ x) : fup f x v y = f y := by unfold fup; exact if_neg h
theorem sum8_up {f : Nat → Nat} {x v : Nat} (hx : x < 8) (hv : v < f x) : sum8 (fup f x v) < sum8 f := by
  have h8 : x = 0 ∨ x = 1 ∨ x = 2 ∨ x = 3 ∨ x = 4 ∨ x = 5 ∨ x = 6 ∨ x = 7 := by omega
  unfold sum8 fup
  rcases h8 with rfl | rfl | rfl | rfl | rfl | rfl | rfl | rfl <;> simp <;> omega
theorem pre_up (H : HOK h) {l : Nat → Nat} {t x : Nat} (hp : isPre h bar to B I l) (ht : t < qn h) (hf : fre bar t) (hx : x < 8) (hg : go h t x < 8) (hlt : B * ql h t + 1 + l (go h t x) < l x) : isPre h bar to B I (fup l x (B * ql h t + 1 + l (go h t x))) := by
  have hxt : to ≠ x := fun e => by rw [← e, hp.1] at hlt; omega
  have hne := go_ne H ht hx
  have hall : ∀ y, fup l x (B * ql h t + 1 + l (go h t x)) y ≤ l y := fun y => by
    by_cases e : y = x
    · rw [e, fup_s]; omega
    · rw [fup_n e]; omega
  refine ⟨by rw [fup_n hxt]; exact hp.1, fun y hy => Nat.le_trans (hall y) (hp.2.1 y hy), fun y hy hn => ?_⟩
  by_cases e : y = x
  · subst e
    exact Or.inr ⟨t, ht, hf, hg, by rw [fup_s, fup_n hne]; omega⟩
  · rw [fup_n e]
    rcases hp.2.2 y hy hn with h1 | ⟨t2, a1, a2, a3, a4⟩
    · exact Or.inl h1
    · have h5 := hall (go h t2 y)
      exact Or.inr ⟨t2, a1, a2, a3, by omega⟩
theorem lab_ex (H : HOK h) : ∀ (N : Nat) (l : Nat → Nat), sum8 l < N → isPre h bar to B I l → ∃ D, isLab h bar to B I D := by
  intro N
  induction N with
  | zero => intro l h1; omega
  | succ N ih =>
    intro l h1 hp
    by_cases hx : ∃ t x, t < qn h ∧ fre bar t ∧ x < 8 ∧ go h t x < 8 ∧ B * ql h t + 1 + l (go h t x) < l x
    · obtain ⟨t, x, a1, a2, a3, a4, a5⟩ := hx
      have h2 := sum8_up a3 a5
      exact ih _ (by omega) (pre_up H hp a1 a2 a3 a4 a5)
    · have hfix : ∀ t x, t < qn h → fre bar t → x < 8 → go h t x < 8 → l x ≤ B * ql h t + 1 + l (go h t x) := fun t x a1 a2 a3 a4 => Nat.le_of_not_lt (fun a5 => hx ⟨t, x, a1, a2, a3, a4, a5⟩)
      refine ⟨l, hp.1, hp.2.1, hfix, fun x h8 hn => ?_⟩
      rcases hp.2.2 x h8 hn with h3 | ⟨t, a1, a2, a3, a4⟩
      · exact Or.inl h3
      · have h5 := hfix t x a1 a2 h8 a3
        exact Or.inr ⟨t, a1, a2, a3, by omega⟩
def lab0 (to I : Nat) : Nat → Nat := fun x => if x = to then 0 else I
theorem lab0_pre : isPre h bar to B I (lab0 to I) := by
  refine ⟨by unfold lab0; exact if_pos rfl, fun x _ => by unfold lab0; split <;> omega, fun x _ hn => Or.inl (by unfold lab0; exact if_neg hn)⟩
noncomputable def lab (h : Hse) (bar : Int32) (to : Nat) : Nat → Nat := Classical.epsilon (fun D => isLab h bar to 16 1048576 D)
theorem lab_is (H : HOK h) (bar : Int32) (to : Nat) : isLab h bar to 16 1048576 (lab h bar to) :=
  Classical.epsilon_spec (lab_ex H (sum8 (lab0 to 1048576) + 1) (lab0 to 1048576) (by omega) lab0_pre)
/-! ranks: a room's place among the labels -/
def rk (D : Nat → Nat) (x : Nat) : Nat := cnt (fun y => decide (D y < D x)) 8
theorem rk_lt {D : Nat → Nat} {x y : Nat} (hy : y < 8) (h : D y < D x) : rk D y < rk D x := by
  refine cnt_lt (j := y) 8 (fun i _ hi => ?_) hy ?_ ?_
  · have := of_decide_eq_true hi
    exact decide_eq_true (by omega)
  · exact decide_eq_false (by omega)
  · exact decide_eq_true h
theorem rk_7 {D : Nat → Nat} {x : Nat} (hx : x < 8) : rk D x ≤ 7 := by
  have h := cnt_n (p := fun y => decide (D y < D x)) hx (decide_eq_false (by omega))
  unfold rk; omega
theorem lab_mod (H : HOK h) {D : Nat → Nat} (hD : isLab h bar to 16 1048576 D) : ∀ (N x : Nat), D x < N → x < 8 → D x < 1048576 → D x % 16 ≤ rk D x ∧ D x / 16 ≤ 9 * (D x % 16) := by
  intro N
  induction N with
  | zero => intro x h1; omega
  | succ N ih =>
    intro x h1 hx hI
    by_cases hto : x = to
    · rw [hto, hD.1]; omega
    · rcases hD.2.2.2 x hx hto with h2 | ⟨t, ht, hf, hg, he⟩
      · omega
      · have h3 := ih (go h t x) (by omega) hg (by omega)
        have h4 := rk_lt (D := D) (x := x) hg (by omega)
        have h5 := rk_7 (D := D) hg
        have h6 := H.2 t ht
        have e1 : D x % 16 = D (go h t x) % 16 + 1 := by omega
        have e2 : D x / 16 = ql h t + D (go h t x) / 16 := by omega
        rw [e1, e2]
        omega
theorem lab_fin (H : HOK h) {D : Nat → Nat} (hD : isLab h bar to 16 1048576 D) {x : Nat} (hx : x < 8) (hI : D x < 1048576) : D x % 16 ≤ 7 ∧ D x / 16 ≤ 9 * (D x % 16) := by
  have h1 := lab_mod H hD (D x + 1) x (by omega) hx hI
  have h2 := rk_7 (D := D) hx
  omega
def cv (v : Nat) : Nat := if v < 1048576 then 10 * (v / 16) + v % 16 else 9999
theorem cv_lo {v : Nat} (h : v < 1048576) : cv v = 10 * (v / 16) + v % 16 := by unfold cv; exact if_pos h
theorem cv_hi {v : Nat} (h : ¬ v < 1048576) : cv v = 9999 := by unfold cv; exact if_neg h
theorem lab_10 (H : HOK h) {D : Nat → Nat} (hD : isLab h bar to 16 1048576 D) : isLab h bar to 10 9999 (fun x => cv (D x)) := by
  have hle : ∀ x, x < 8 → cv (D x) ≤ 9999 := fun x hx => by
    by_cases hI : D x < 1048576
    · have h1 := lab_fin H hD hx hI
      rw [cv_lo hI]; omega
    · rw [cv_hi hI]; omega
  refine ⟨by show cv (D to) = 0; rw [hD.1]; rfl, hle, fun t x ht hf hx hg => ?_, fun x hx hn => ?_⟩
  · show cv (D x) ≤ 10 * ql h t + 1 + cv (D (go h t x))
    by_cases hI : D (go h t x) < 1048576
    · have h1 := hD.2.2.1 t x ht hf hx hg
      have h2 := lab_fin H hD hg hI
      have h3 := H.2 t ht
      have hI2 : D x < 1048576 := by omega
      have h4 := lab_fin H hD hx hI2
      rw [cv_lo hI, cv_lo hI2]; omega
    · have h1 := hle x hx
      rw [cv_hi hI]; omega
  · show cv (D x) = 9999 ∨ ∃ t, t < qn h ∧ fre bar t ∧ go h t x < 8 ∧ cv (D x) = 10 * ql h t + 1 + cv (D (go h t x))
    rcases hD.2.2.2 x hx hn with h1 | ⟨t, ht, hf, hg, he⟩
    · exact Or.inl (cv_hi (by omega))
    · by_cases hI : D x < 1048576
      · have hI2 : D (go h t x) < 1048576 := by omega
        have h2 := lab_fin H hD hg hI2
        exact Or.inr ⟨t, ht, hf, hg, by rw [cv_lo hI, cv_lo hI2]; omega⟩
      · exact Or.inl (cv_hi hI)
theorem cv_tight (H : HOK h) {D : Nat → Nat} (hD : isLab h bar to 16 1048576 D) {x t : Nat} (hx : x < 8) (hI : D x < 1048576) (hg : go h t x < 8) : D (go h t x) + (16 * ql h t + 1) = D x ↔ cv (D (go h t x)) + 10 * ql h t + 1 = cv (D x) := by
  have h1 := lab_fin H hD hx hI
  rw [cv_lo hI]
  by_cases hI2 : D (go h t x) < 1048576
  · have h2 := lab_fin H hD hg hI2
    rw [cv_lo hI2]; omega
  · rw [cv_hi hI2]; omega
/-! the way: from each room the least tight tube -/
def tgt (h : Hse) (bar : Int32) (D : Nat → Nat) (x t : Nat) : Prop := t < qn h ∧ fre bar t ∧ go h t x < 8 ∧ D (go h t x) + (16 * ql h t + 1) = D x
def isNx (h : Hse) (bar : Int32) (D : Nat → Nat) (x t : Nat) : Prop := tgt h bar D x t ∧ ∀ t', t' < t → ¬ tgt h bar D x t'
noncomputable def nx (h : Hse) (bar : Int32) (D : Nat → Nat) (x : Nat) : Nat := Classical.epsilon (isNx h bar D x)
theorem isNx_un {D : Nat → Nat} {x t t' : Nat} (h1 : isNx h bar D x t) (h2 : isNx h bar D x t') : t = t' := by
  rcases Nat.lt_trichotomy t t' with e | e | e
  · exact absurd h1.1 (h2.2 t e)
  · exact e
  · exact absurd h2.1 (h1.2 t' e)
theorem nx_eq {D : Nat → Nat} {x t : Nat} (h1 : isNx h bar D x t) : nx h bar D x = t := isNx_un (Classical.epsilon_spec ⟨t, h1⟩) h1
theorem nx_is {D : Nat → Nat} {x : Nat} (hD : isLab h bar to 16 1048576 D) (hx : x < 8) (hn : x ≠ to) (hI : D x < 1048576) : isNx h bar D x (nx h bar D x) := by
  rcases hD.2.2.2 x hx hn with h1 | ⟨t, h1, h2, h3, h4⟩
  · omega
  · obtain ⟨k, a1, a2⟩ := pk_least (tgt h bar D x) ⟨t, h1, h2, h3, by omega⟩
    exact Classical.epsilon_spec ⟨k, a1, a2⟩
noncomputable def rm (h : Hse) (bar : Int32) (D : Nat → Nat) (x : Nat) : Nat → Nat
  | 0 => x
  | i + 1 => go h (nx h bar D (rm h bar D x i)) (rm h bar D x i)
noncomputable def tb (h : Hse) (bar : Int32) (D : Nat → Nat) (x i : Nat) : Nat := nx h bar D (rm h bar D x i)
noncomputable def wl (h : Hse) (bar : Int32) (D : Nat → Nat) (x : Nat) : Nat → Nat
  | 0 => 0
  | i + 1 => wl h bar D x i + ql h (tb h bar D x i)
noncomputable def wb (h : Hse) (bar : Int32) (D : Nat → Nat) (x : Nat) : Nat → Int32
  | 0 => nI 0
  | i + 1 => wb h bar D x i ||| (nI 1 <<< (nI (tb h bar D x i) &&& 31))
theorem rm_in (H : HOK h) {D : Nat → Nat} (hD : isLab h bar to 16 1048576 D) (hto : to < 8) {x : Nat} (hx : x < 8) (hI : D x < 1048576) : ∀ i, i ≤ D x % 16 → rm h bar D x i < 8 ∧ D (rm h bar D x i) < 1048576 ∧ D (rm h bar D x i) % 16 + i = D x % 16 ∧ D (rm h bar D x i) / 16 + wl h bar D x i = D x / 16 ∧ (rm h bar D x i = to ↔ i = D x % 16) := by
  have key : ∀ y, y < 8 → D y < 1048576 → (y = to ↔ D y % 16 = 0) := fun y hy hyI => by
    constructor
    · intro e; rw [e, hD.1]
    · intro e
      by_cases hn : y = to
      · exact hn
      · have h1 := nx_is hD hy hn hyI
        obtain ⟨a1, a2, a3, a4⟩ := h1.1
        have h2 := lab_fin H hD a3 (by omega)
        omega
  intro i
  induction i with
  | zero =>
    intro _
    refine ⟨hx, hI, rfl, rfl, ?_⟩
    rw [show rm h bar D x 0 = x from rfl, key x hx hI]; omega
  | succ i ih =>
    intro hi
    obtain ⟨h1, h2, h3, h4, h5⟩ := ih (by omega)
    have hne : rm h bar D x i ≠ to := fun e => by have := h5.mp e; omega
    obtain ⟨⟨a1, a2, a3, a4⟩, -⟩ := nx_is hD h1 hne h2
    have h6 := lab_fin H hD a3 (by omega)
    have e1 : rm h bar D x (i + 1) = go h (nx h bar D (rm h bar D x i)) (rm h bar D x i) := rfl
    have e2 : wl h bar D x (i + 1) = wl h bar D x i + ql h (nx h bar D (rm h bar D x i)) := rfl
    have hI6 : D (rm h bar D x (i + 1)) < 1048576 := by rw [e1]; omega
    have h8 : rm h bar D x (i + 1) < 8 := by rw [e1]; exact a3
    have h9 : D (rm h bar D x (i + 1)) % 16 + (i + 1) = D x % 16 := by rw [e1]; omega
    refine ⟨h8, hI6, h9, by rw [e1, e2]; omega, ?_⟩
    rw [key _ h8 hI6]; omega
theorem tb_is (H : HOK h) {D : Nat → Nat} (hD : isLab h bar to 16 1048576 D) (hto : to < 8) {x i : Nat} (hx : x < 8) (hI : D x < 1048576) (hi : i < D x % 16) : isNx h bar D (rm h bar D x i) (tb h bar D x i) := by
  obtain ⟨h1, h2, h3, h4, h5⟩ := rm_in H hD hto hx hI i (by omega)
  exact nx_is hD h1 (fun e => by have := h5.mp e; omega) h2
end LAB

