/-! ===== further, bridges ===== -/
noncomputable def bdec (p : Prop) : Bool := @decide p (Classical.propDecidable p)
theorem bdec_t {p : Prop} (h : p) : bdec p = true := @decide_eq_true p (Classical.propDecidable p) h
theorem bdec_f {p : Prop} (h : ¬ p) : bdec p = false := @decide_eq_false p (Classical.propDecidable p) h
def SS (F : Nat → Nat → Nat) : Nat := sm (fun x => sm (fun y => F x y) 8) 8
theorem SS_eq {F G : Nat → Nat → Nat} (h : ∀ x y, x < 8 → y < 8 → F x y = G x y) : SS F = SS G := sm_eq 8 (fun x hx => sm_eq 8 (fun y hy => h x y hx hy))
theorem SS_le {F : Nat → Nat → Nat} (h : ∀ x y, x < 8 → y < 8 → F x y ≤ 99) : SS F ≤ 6336 := by
  have h1 := sm_le (f := fun x => sm (fun y => F x y) 8) (c := 792) 8 (fun x hx => sm_le (c := 99) 8 (fun y hy => h x y hx hy))
  exact h1
theorem SS_64 (F : Nat → Nat → Nat) : sm (fun i => F (i / 8) (i % 8)) 64 = SS F := by
  rw [show (64 : Nat) = 8 * 8 from rfl, sm_8]
  refine sm_eq 8 (fun x hx => sm_eq 8 (fun y hy => ?_))
  show F ((8 * x + y) / 8) ((8 * x + y) % 8) = F x y
  rw [show (8 * x + y) / 8 = x by omega, show (8 * x + y) % 8 = y by omega]
theorem sm_s (f : Nat → Nat) (n : Nat) : sm f (n + 1) = sm f n + f n := rfl
theorem sm_mono (f : Nat → Nat) {i : Nat} : ∀ n : Nat, i ≤ n → sm f i ≤ sm f n := by
  intro n
  induction n with
  | zero => intro h; rw [Nat.le_zero.mp h]; exact Nat.le_refl _
  | succ n ih =>
    intro h
    by_cases e : i = n + 1
    · rw [e]; exact Nat.le_refl _
    · rw [sm_s]
      exact Nat.le_trans (ih (by omega)) (Nat.le_add_right _ _)
section SUM
variable {M : Mem} {L : LMem} {F : Nat → Nat → Nat}
theorem hl_sum (hm : mtx M 71 F) (h99 : ∀ x y, x < 8 → y < 8 → F x y ≤ 99) {K : Int32 → Mem → LMem → Prop} (kk : K (nI (SS F)) M L) :
    ∀ (f i : Nat), i ≤ 64 → 64 < f + i → PL_X1_sum_13 K f (nI (sm (fun i => F (i / 8) (i % 8)) i)) (Int32.ofNat 64) (nI i) M L := by
  intro f
  induction f with
  | zero => intro i h1 h2; omega
  | succ f ih =>
    intro i h1 h2
    unfold PL_X1_sum_13
    refine pk_le 64 i (fun c => ?_) (fun c => ⟨pk_in i 64 c, ?_⟩)
    · rw [show i = 64 by omega, SS_64]; exact kk
    · have e3 : M 71 i = nI (F (i / 8) (i % 8)) := by
        have := hm (i / 8) (i % 8) (by omega) (by omega)
        rw [show 8 * (i / 8) + i % 8 = i by omega] at this
        exact this
      rw [nI_s, nI_clamp (by omega), e3, nI_add]
      exact ih (i + 1) (by omega) (by omega)
theorem h_sum (hm : mtx M 71 F) (h99 : ∀ x y, x < 8 → y < 8 → F x y ≤ 99) {K : Int32 → Mem → LMem → Prop} (kk : K (nI (SS F)) M L) : P_X1_sum M L K := by
  unfold P_X1_sum
  exact hl_sum hm h99 kk 100000 0 (by omega) (by omega)
def wth (F : Nat → Nat → Nat) (car a b l x y : Nat) : Nat := cut car (mn (F x y) (mn (F x a + l + F b y) (F x b + l + F a y)))
theorem wth_99 {car a b l x y : Nat} (hc : car ≤ 60) : wth F car a b l x y ≤ 99 := by
  unfold wth cut; split <;> omega
theorem hl_sumWith_48 (hm : mtx M 71 F) (h99 : ∀ x y, x < 8 → y < 8 → F x y ≤ 99) {car a b l x A : Nat} (hc : car ≤ 60) (ha : a < 8) (hb : b < 8) (hl : l ≤ 9) (hx : x < 8) {v3 : Int32} {K : Int32 → Mem → LMem → Prop} {C : Int32 → Int32 → Int32 → Int32 → Int32 → Int32 → Mem → LMem → Prop} (kk : C (nI a) (nI b) v3 (nI car) (nI (A + sm (fun y => wth F car a b l x y) 8)) (nI (x + 1)) M L) :
    ∀ (f y : Nat), y ≤ 8 → 8 < f + y → PL_X1_sumWith_48 K C f (nI a) (nI b) v3 (nI car) (nI (A + sm (fun y => wth F car a b l x y) y)) (nI x) (nI (F x a + l)) (nI (F x b + l)) (nI y) M L := by
  intro f
  induction f with
  | zero => intro y h1 h2; omega
  | succ f ih =>
    intro y h1 h2
    unfold PL_X1_sumWith_48
    rw [nI_s, nI_s]
    refine pk_le 8 y (fun c => ?_) (fun c => ?_)
    · rw [show y = 8 by omega]; exact kk
    · have b1 := h99 x a hx ha
      have b2 := h99 x b hx hb
      have b3 := h99 a y ha c
      have b4 := h99 b y hb c
      have b5 := h99 x y hx c
      have m1 := mn_le (F x a + l + F b y) (F x b + l + F a y)
      have m2 := mn_le (F x y) (mn (F x a + l + F b y) (F x b + l + F a y))
      have ec : f_X1_carried M (nI (mn (F x y) (mn (F x a + l + F b y) (F x b + l + F a y)))) (nI car) = nI (wth F car a b l x y) := by
        unfold f_X1_carried wth cut
        by_cases e : mn (F x y) (mn (F x a + l + F b y) (F x b + l + F a y)) ≤ car
        · rw [if_pos e, if_neg (nI_nlt e (by omega))]
        · rw [if_neg e, if_pos (nI_lt (by omega) (by omega))]; rfl
      rw [e8, e8, e8, nI_clamp (by omega : 8 * b + y < 2 ^ 31), nI_clamp (by omega : 8 * a + y < 2 ^ 31), nI_clamp (by omega : 8 * x + y < 2 ^ 31), hm b y hb c, hm a y ha c, hm x y hx c, nI_add, nI_add, mn_i (by omega) (by omega), mn_i (by omega) (by omega), ec, nI_add]
      have ih2 := ih (y + 1) (by omega) (by omega)
      rw [sm_s, ← Nat.add_assoc] at ih2
      exact ⟨pk_in (8 * b + y) 64 (by omega), pk_in (8 * a + y) 64 (by omega), pk_in (8 * x + y) 64 (by omega), ih2⟩
theorem hl_sumWith_6 (hm : mtx M 71 F) (h99 : ∀ x y, x < 8 → y < 8 → F x y ≤ 99) {car a b l : Nat} (hc : car ≤ 60) (ha : a < 8) (hb : b < 8) (hl : l ≤ 9) {K : Int32 → Mem → LMem → Prop} (kk : K (nI (SS (wth F car a b l))) M L) :
    ∀ (f x : Nat), x ≤ 8 → 8 < f + x → PL_X1_sumWith_6 K f (nI a) (nI b) (nI l) (nI car) (nI (sm (fun x => sm (fun y => wth F car a b l x y) 8) x)) (nI x) M L := by
  intro f
  induction f with
  | zero => intro x h1 h2; omega
  | succ f ih =>
    intro x h1 h2
    unfold PL_X1_sumWith_6
    refine pk_le 8 x (fun c => ?_) (fun c => ?_)
    · rw [show x = 8 by omega]; exact kk
    · rw [e8, e8, nI_clamp (by omega : 8 * x + a < 2 ^ 31), nI_clamp (by omega : 8 * x + b < 2 ^ 31), hm x a c ha, hm x b c hb, nI_add, nI_add]
      exact ⟨pk_in (8 * x + a) 64 (by omega), pk_in (8 * x + b) 64 (by omega), hl_sumWith_48 hm h99 hc ha hb hl c (ih (x + 1) (by omega) (by omega)) 100000 0 (by omega) (by omega)⟩
theorem h_sumWith (hm : mtx M 71 F) (h99 : ∀ x y, x < 8 → y < 8 → F x y ≤ 99) {car a b l : Nat} (hc : car ≤ 60) (ha : a < 8) (hb : b < 8) (hl : l ≤ 9) {K : Int32 → Mem → LMem → Prop} (kk : K (nI (SS (wth F car a b l))) M L) : P_X1_sumWith (nI a) (nI b) (nI l) (nI car) M L K := by
  unfold P_X1_sumWith
  exact hl_sumWith_6 hm h99 hc ha hb hl kk 100000 0 (by omega) (by omega)
end SUM
theorem dc_99 {h : Hse} {bar : Int32} (H : HOK h) {car : Nat} (hc : car ≤ 60) {x : Nat} (y : Nat) (hx : x < 8) : dc h bar car x y ≤ 99 := cut_99 (dv_99 H y hx) hc
theorem dc_0 {h : Hse} {bar : Int32} (H : HOK h) {car : Nat} (x : Nat) : dc h bar car x x = 0 := by
  unfold dc cut
  rw [dv_0 H, if_pos (by omega)]
section MSUM
variable {M0 : Mem} {h : Hse} {L : LMem} {K : Int32 → Mem → LMem → Prop}
end MSUM
theorem wth_dc {h : Hse} (H : HOK h) (h12 : qn h ≤ 12) {car a b l : Nat} (hc : car ≤ 60) (ha : a < 8) (hb : b < 8) (hab : a ≠ b) (hl : 1 ≤ l ∧ l ≤ 9) : SS (wth (dc h (Int32.ofInt 0) car) car a b l) = SS (dc (hmore h a b l) (Int32.ofInt 0) car) := by
  refine SS_eq (fun x y hx hy => ?_)
  have e := dv_more (bar := Int32.ofInt 0) H h12 ha hb hab hl (fre_0 _ (by omega)) hx hy
  unfold dc at e ⊢
  rw [e]
  exact cut_ov hc (dv_99 H y hx) (dv_99 H a hx) (dv_99 H y hb) (dv_99 H b hx) (dv_99 H y ha) rfl rfl
/-! the best place for it -/
def fin (S : Nat → Nat → Nat) (a : Nat) : Nat → Nat → Int32 × Nat → Int32 × Nat
  | 0, _, st => st
  | g + 1, b, st => fin S a g (b + 1) (if st.1 = Int32.ofInt (-6) ∨ S a b < st.2 then (nI (10 * a + b), S a b) else st)
def fout (S : Nat → Nat → Nat) : Nat → Nat → Int32 × Nat → Int32 × Nat
  | 0, _, st => st
  | g + 1, a, st => fout S g (a + 1) (fin S a (7 - a) (a + 1) st)
def gst (st : Int32 × Nat) : Prop := (st.1 = Int32.ofInt (-6) ∨ ∃ k, k < 100 ∧ st.1 = nI k) ∧ st.2 ≤ 6336
theorem gst_up {S : Nat → Nat → Nat} {a b : Nat} {st : Int32 × Nat} (h : gst st) (hS : S a b ≤ 6336) (ha : a < 8) (hb : b < 8) : gst (if st.1 = Int32.ofInt (-6) ∨ S a b < st.2 then (nI (10 * a + b), S a b) else st) := by
  split
  · exact ⟨Or.inr ⟨10 * a + b, by omega, rfl⟩, hS⟩
  · exact h
theorem fin_g {S : Nat → Nat → Nat} (hS : ∀ a b, a < 8 → b < 8 → S a b ≤ 6336) {a : Nat} (ha : a < 8) : ∀ (g b : Nat) (st : Int32 × Nat), b + g ≤ 8 → gst st → gst (fin S a g b st) := by
  intro g
  induction g with
  | zero => intro b st _ h; exact h
  | succ g ih =>
    intro b st h1 h
    exact ih (b + 1) _ (by omega) (gst_up h (hS a b ha (by omega)) ha (by omega))
section FUR
variable {M : Mem} {h : Hse} {L : LMem} {K : Int32 → Mem → LMem → Prop} {car l : Nat} {v2 : Int32}
noncomputable def SF (h : Hse) (car l a b : Nat) : Nat := SS (wth (dc h (Int32.ofInt 0) car) car a b l)
theorem SF_le (h : Hse) (hc : car ≤ 60) (l a b : Nat) : SF h car l a b ≤ 6336 := SS_le (fun _ _ _ _ => wth_99 hc)
theorem hl_f69 (H : HOK h) (hc : car ≤ 60) (hl : 1 ≤ l ∧ l ≤ 9) (hm : mtx M 71 (dc h (Int32.ofInt 0) car)) (hcar : M 3 1 = nI car) {a : Nat} (ha : a < 8) {C : Int32 → Int32 → Int32 → Int32 → Int32 → Mem → LMem → Prop} {st' : Int32 × Nat} (kk : C (nI l) v2 (nI st'.2) st'.1 (nI (a + 1)) M L) :
    ∀ (f g b : Nat) (st : Int32 × Nat), b + g = 8 → g < f → gst st → st' = fin (SF h car l) a g b st → PL_X9_further_69 K C f (nI l) v2 (nI st.2) st.1 (nI a) (nI b) M L := by
  intro f
  induction f with
  | zero => intro g b st h1 h2; omega
  | succ f ih =>
    intro g b st h1 h2 hg he
    unfold PL_X9_further_69
    rw [nI_s, nI_s]
    refine pk_le 8 b (fun c => ?_) (fun c => ?_)
    · obtain rfl : g = 0 := by omega
      rw [show fin (SF h car l) a 0 b st = st from rfl] at he
      subst he
      exact kk
    · obtain ⟨g, rfl⟩ : ∃ g', g = g' + 1 := ⟨g - 1, by omega⟩
      have hS := SF_le h hc l a b
      rw [hcar]
      refine h_sumWith hm (fun x y hx _ => dc_99 H hc y hx) hc ha c hl.2 ?_
      have e10 : Int32.ofInt 10 * nI a + nI b = nI (10 * a + b) := by rw [o10, pk_mul, nI_add]
      rw [e10]
      have hup := gst_up (S := SF h car l) hg hS ha c
      have ih2 := ih g (b + 1) _ (by omega) (by omega) hup he
      refine br_c (fun c1 => ?_) (fun c1 => ?_)
      · rw [if_pos (Or.inl c1)] at ih2; exact ih2
      · refine pk_le st.2 (SF h car l a b) (fun c2 => ?_) (fun c2 => ?_) rfl rfl (by have := hg.2; omega) (by omega)
        · rw [if_neg (fun e => e.elim c1 (fun e => by omega))] at ih2; exact ih2
        · rw [if_pos (Or.inr c2)] at ih2; exact ih2
theorem hl_f56 (H : HOK h) (hc : car ≤ 60) (hl : 1 ≤ l ∧ l ≤ 9) (hm : mtx M 71 (dc h (Int32.ofInt 0) car)) (hcar : M 3 1 = nI car) {st' : Int32 × Nat} (kk0 : v2 = 0 → K st'.1 M L) (kk1 : ¬ v2 = 0 → K (nI st'.2) M L) :
    ∀ (f g a : Nat) (st : Int32 × Nat), a + g = 8 → g < f → gst st → st' = fout (SF h car l) g a st → PL_X9_further_56 K f (nI l) v2 (nI st.2) st.1 (nI a) M L := by
  intro f
  induction f with
  | zero => intro g a st h1 h2; omega
  | succ f ih =>
    intro g a st h1 h2 hg he
    unfold PL_X9_further_56
    refine pk_le 8 a (fun c => ?_) (fun c => ?_)
    · obtain rfl : g = 0 := by omega
      rw [show fout (SF h car l) 0 a st = st from rfl] at he
      subst he
      exact br_c kk0 kk1
    · obtain ⟨g, rfl⟩ : ∃ g', g = g' + 1 := ⟨g - 1, by omega⟩
      have e1 : nI a + Int32.ofInt 1 = nI (a + 1) := nI_add _ 1
      rw [e1]
      refine hl_f69 H hc hl hm hcar c ?_ 100000 (7 - a) (a + 1) st (by omega) (by omega) hg rfl
      exact ih g (a + 1) _ (by omega) (by omega) (fin_g (fun a b _ _ => SF_le h hc l a b) c _ _ _ (by omega) hg) he
end FUR
section MFU
variable {M0 : Mem} {h : Hse} {L : LMem} {K : Int32 → Mem → LMem → Prop} {car l : Nat} {v2 v5 : Int32}
end MFU
theorem cD70_scr {M M1 : Mem} (h : Fr cD70 M M1) : Fr cScr M M1 := h.mono (fun p i hq => nbf (fun e => by subst e; exact nomatch (show true = false from hq)))
theorem cD72_scr {M M1 : Mem} (h : Fr cD72 M M1) : Fr cScr M M1 := h.mono (fun p i hq => nbf (fun e => by subst e; exact nomatch (show true = false from hq)))
