/-! ===== further, bridges ===== -/
noncomputable def bdec (p : Prop) : Bool := @decide p (Classical.propDecidable p)
theorem bdec_t {p : Prop} (h : p) : bdec p = true := @decide_eq_true p (Classical.propDecidable p) h
theorem bdec_f {p : Prop} (h : ¬ p) : bdec p = false := @decide_eq_false p (Classical.propDecidable p) h
def SS (F : Nat → Nat → Nat) : Nat := sm (fun x => sm (fun y => F x y) 8) 8
theorem SS_eq {F G : Nat → Nat → Nat} (h : ∀ x y, x < 8 → y < 8 → F x y = G x y) : SS F = SS G := sm_eq 8 (fun x hx => sm_eq 8 (fun y hy => h x y hx hy))
theorem SS_le {F : Nat → Nat → Nat} (h : ∀ x y, x < 8 → y < 8 → F x y ≤ 99) : SS F ≤ 6336 := by
  have h1 := sm_le (f := fun x => sm (fun y => F x y) 8) (c := 792) 8 (fun x hx => sm_le (c := 99) 8 (fun y hy => h x y hx hy))
  exact h1
theorem SS_64 (F : Nat → Nat → Nat) : sm (fun i => F (i / 8) (i % 8)) 64 = SS F := by
  rw [show (64 : Nat) = 8 * 8 from rfl, sm_8]
  refine sm_eq 8 (fun x hx => sm_eq 8 (fun y hy => ?_))
  show F ((8 * x + y) / 8) ((8 * x + y) % 8) = F x y
  rw [show (8 * x + y) / 8 = x by omega, show (8 * x + y) % 8 = y by omega]
theorem sm_s (f : Nat → Nat) (n : Nat) : sm f (n + 1) = sm f n + f n := rfl
theorem sm_mono (f : Nat → Nat) {i : Nat} : ∀ n : Nat, i ≤ n → sm f i ≤ sm f n := by
  intro n
  induction n with
  | zero => intro h; rw [Nat.le_zero.mp h]; exact Nat.le_refl _
  | succ n ih =>
    intro h
    by_cases e : i = n + 1
    · rw [e]; exact Nat.le_refl _
    · rw [sm_s]
      exact Nat.le_trans (ih (by omega)) (Nat.le_add_right _ _)
section SUM
variable {M : Mem} {L : LMem} {F : Nat → Nat → Nat}
theorem hl_sum (hm : mtx M 71 F) (h99 : ∀ x y, x < 8 → y < 8 → F x y ≤ 99) {K : Int32 → Mem → LMem → Prop} (kk : K (nI (SS F)) M L) :
    ∀ (f i : Nat), i ≤ 64 → 64 < f + i → PL_X1_sum_13 K f (nI (sm (fun i => F (i / 8) (i % 8)) i)) (Int32.ofNat 64) (nI i) M L := by
  intro f
  induction f with
  | zero => intro i h1 h2; omega
  | succ f ih =>
    intro i h1 h2
    unfold PL_X1_sum_13
    refine pk_le 64 i (fun c => ?_) (fun c => ⟨pk_in i 64 c, ?_⟩)
    · rw [show i = 64 by omega, SS_64]; exact kk
    · have e3 : M 71 i = nI (F (i / 8) (i % 8)) := by
        have := hm (i / 8) (i % 8) (by omega) (by omega)
        rw [show 8 * (i / 8) + i % 8 = i by omega] at this
        exact this
      rw [nI_s, nI_clamp (by omega), e3, nI_add]
      exact ih (i + 1) (by omega) (by omega)
theorem h_sum (hm : mtx M 71 F) (h99 : ∀ x y, x < 8 → y < 8 → F x y ≤ 99) {K : Int32 → Mem → LMem → Prop} (kk : K (nI (SS F)) M L) : P_X1_sum M L K := by
  unfold P_X1_sum
  exact hl_sum hm h99 kk 100000 0 (by omega) (by omega)
def wth (F : Nat → Nat → Nat) (car a b l x y : Nat) : Nat := cut car (mn (F x y) (mn (F x a + l + F b y) (F x b + l + F a y)))
theorem wth_99 {car a b l x y : Nat} (hc : car ≤ 60) : wth F car a b l x y ≤ 99 := by
  unfold wth cut; split <;> omega
theorem hl_sumWith_48 (hm : mtx M 71 F) (h99 : ∀ x y, x < 8 → y < 8 → F x y ≤ 99) {car a b l x A : Nat} (hc : car ≤ 60) (ha : a < 8) (hb : b < 8) (hl : l ≤ 9) (hx : x < 8) {v3 : Int32} {K : Int32 → Mem → LMem → Prop} {C : Int32 → Int32 → Int32 → Int32 → Int32 → Int32 → Mem → LMem → Prop} (kk : C (nI a) (nI b) v3 (nI car) (nI (A + sm (fun y => wth F car a b l x y) 8)) (nI (x + 1)) M L) :
    ∀ (f y : Nat), y ≤ 8 → 8 < f + y → PL_X1_sumWith_48 K C f (nI a) (nI b) v3 (nI car) (nI (A + sm (fun y => wth F car a b l x y) y)) (nI x) (nI (F x a + l)) (nI (F x b + l)) (nI y) M L := by
  intro f
  induction f with
  | zero => intro y h1 h2; omega
  | succ f ih =>
    intro y h1 h2
    unfold PL_X1_sumWith_48
    rw [nI_s, nI_s]
    refine pk_le 8 y (fun c => ?_) (fun c => ?_)
    · rw [show y = 8 by omega]; exact kk
    · have b1 := h99 x a hx ha
      have b2 := h99 x b hx hb
      have b3 := h99 a y ha c
      have b4 := h99 b y hb c
      have b5 := h99 x y hx c
      have m1 := mn_le (F x a + l + F b y) (F x b + l + F a y)
      have m2 := mn_le (F x y) (mn (F x a + l + F b y) (F x b + l + F a y))
      have ec : f_X1_carried M (nI (mn (F x y) (mn (F x a + l + F b y) (F x b + l + F a y)))) (nI car) = nI (wth F car a b l x y) := by
        unfold f_X1_carried wth cut
        by_cases e : mn (F x y) (mn (F x a + l + F b y) (F x b + l + F a y)) ≤ car
        · rw [if_pos e, if_neg (nI_nlt e (by omega))]
        · rw [if_neg e, if_pos (nI_lt (by omega) (by omega))]; rfl
      rw [e8, e8, e8, nI_clamp (by omega : 8 * b + y < 2 ^ 31), nI_clamp (by omega : 8 * a + y < 2 ^ 31), nI_clamp (by omega : 8 * x + y < 2 ^ 31), hm b y hb c, hm a y ha c, hm x y hx c, nI_add, nI_add, mn_i (by omega) (by omega), mn_i (by omega) (by omega), ec, nI_add]
      have ih2 := ih (y + 1) (by omega) (by omega)
      rw [sm_s, ← Nat.add_assoc] at ih2
      exact ⟨pk_in (8 * b + y) 64 (by omega), pk_in (8 * a + y) 64 (by omega), pk_in (8 * x + y) 64 (by omega), ih2⟩
theorem hl_sumWith_6 (hm : mtx M 71 F) (h99 : ∀ x y, x < 8 → y < 8 → F x y ≤ 99) {car a b l : Nat} (hc : car ≤ 60) (ha : a < 8) (hb : b < 8) (hl : l ≤ 9) {K : Int32 → Mem → LMem → Prop} (kk : K (nI (SS (wth F car a b l))) M L) :
    ∀ (f x : Nat), x ≤ 8 → 8 < f + x → PL_X1_sumWith_6 K f (nI a) (nI b) (nI l) (nI car) (nI (sm (fun x => sm (fun y => wth F car a b l x y) 8) x)) (nI x) M L := by
  intro f
  induction f with
  | zero => intro x h1 h2; omega
  | succ f ih =>
    intro x h1 h2
    unfold PL_X1_sumWith_6
    refine pk_le 8 x (fun c => ?_) (fun c => ?_)
    · rw [show x = 8 by omega]; exact kk
    · rw [e8, e8, nI_clamp (by omega : 8 * x + a < 2 ^ 31), nI_clamp (by omega : 8 * x + b < 2 ^ 31), hm x a c ha, hm x b c hb, nI_add, nI_add]
      exact ⟨pk_in (8 * x + a) 64 (by omega), pk_in (8 * x + b) 64 (by omega), hl_sumWith_48 hm h99 hc ha hb hl c (ih (x + 1) (by omega) (by omega)) 100000 0 (by omega) (by omega)⟩
theorem h_sumWith (hm : mtx M 71 F) (h99 : ∀ x y, x < 8 → y < 8 → F x y ≤ 99) {car a b l : Nat} (hc : car ≤ 60) (ha : a < 8) (hb : b < 8) (hl : l ≤ 9) {K : Int32 → Mem → LMem → Prop} (kk : K (nI (SS (wth F car a b l))) M L) : P_X1_sumWith (nI a) (nI b) (nI l) (nI car) M L K := by
  unfold P_X1_sumWith
  exact hl_sumWith_6 hm h99 hc ha hb hl kk 100000 0 (by omega) (by omega)
end SUM
theorem dc_99 {h : Hse} {bar : Int32} (H : HOK h) {car : Nat} (hc : car ≤ 60) {x : Nat} (y : Nat) (hx : x < 8) : dc h bar car x y ≤ 99 := cut_99 (dv_99 H y hx) hc
theorem dc_0 {h : Hse} {bar : Int32} (H : HOK h) {car : Nat} (x : Nat) : dc h bar car x x = 0 := by
  unfold dc cut
  rw [dv_0 H, if_pos (by omega)]
theorem far_dc {M : Mem} {h : Hse} {bar : Int32} {to : Nat} (H : HOK h) (hl : lbl M 85 (fun x => cv (lab h bar to x))) {x car : Nat} (hx : x < 8) (hc : car ≤ 60) (hcar : M 74 5 = nI car) : f_X10_farOf M (nI x) = nI (dc h bar car x to) := by
  have hD := lab_is H bar to
  rw [farOf_eq H hD hl hx hc hcar]
  unfold dc cut
  by_cases c : lab h bar to x < 1048576
  · rw [dv_lo c]
    by_cases c2 : lab h bar to x / 16 ≤ car
    · rw [if_pos c2, if_pos c2]
    · rw [if_neg c2, if_neg c2]
  · rw [dv_hi c, if_neg (by omega), if_neg (by omega)]
section MSUM
variable {M0 : Mem} {h : Hse} {L : LMem} {K : Int32 → Mem → LMem → Prop}
theorem hl_sumOf_18 (H : HOK h) {M : Mem} {to car A : Nat} (hc : car ≤ 60) (hl : lbl M 85 (fun x => cv (lab h (Int32.ofInt 0) to x))) (hcar : M 74 5 = nI car) {C : Int32 → Int32 → Mem → LMem → Prop} (kk : C (nI (A + sm (fun x => dc h (Int32.ofInt 0) car x to) 8)) (nI (to + 1)) M L) (hto : to < 8) :
    ∀ (f x : Nat), x ≤ 8 → 8 < f + x → PL_X10_sumOf_18 K C f (nI (A + sm (fun x => dc h (Int32.ofInt 0) car x to) x)) (nI to) (nI x) M L := by
  intro f
  induction f with
  | zero => intro x h1 h2; omega
  | succ f ih =>
    intro x h1 h2
    unfold PL_X10_sumOf_18
    rw [nI_s, nI_s]
    refine pk_le 8 x (fun c => ?_) (fun c => ?_)
    · rw [show x = 8 by omega]; exact kk
    · have ih2 := ih (x + 1) (by omega) (by omega)
      refine pk_eq x to (fun e => ?_) (fun e => ⟨pk_in x 8 c, ?_⟩)
      · rw [sm_s, e, dc_0 H] at ih2
        rw [e, show Int32.ofInt 0 = nI 0 from rfl, nI_add]
        exact ih2
      · rw [far_dc H hl c hc hcar, nI_add]
        rw [sm_s, ← Nat.add_assoc] at ih2
        exact ih2
theorem hl_sumOf_4 (H : HOK h) (hC : HM M0 h) {car : Nat} (hc : car ≤ 60) (hcar : M0 74 5 = nI car) (kk : ∀ M, Fr cOff M0 M → K (nI (SS (dc h (Int32.ofInt 0) car))) M L) :
    ∀ (f to : Nat) (M : Mem), to ≤ 8 → 8 < f + to → Fr cOff M0 M → PL_X10_sumOf_4 K f (nI (sm (fun to => sm (fun x => dc h (Int32.ofInt 0) car x to) 8) to)) (nI to) M L := by
  intro f
  induction f with
  | zero => intro to M h1 h2; omega
  | succ f ih =>
    intro to M h1 h2 hF
    unfold PL_X10_sumOf_4
    refine pk_le 8 to (fun c => ?_) (fun c => ?_)
    · have e := kk M hF
      unfold SS at e
      rw [sm_swap] at e
      rw [show to = 8 by omega]
      exact e
    · refine h_findOff H (hC.off hF) c (lab_is H _ to) (fun M2 hF2 hl2 => ?_)
      exact hl_sumOf_18 H hc hl2 (((hF.tr hF2) 74 5 rfl).trans hcar) (ih (to + 1) M2 (by omega) (by omega) (hF.tr hF2)) c 100000 0 (by omega) (by omega)
theorem h_sumOf (H : HOK h) (hC : HM M0 h) {car : Nat} (hc : car ≤ 60) (hcar : M0 74 5 = nI car) (kk : ∀ M, Fr cOff M0 M → K (nI (SS (dc h (Int32.ofInt 0) car))) M L) : P_X10_sumOf M0 L K := by
  unfold P_X10_sumOf
  exact hl_sumOf_4 H hC hc hcar kk 100000 0 M0 (by omega) (by omega) (Fr.rf _ _)
end MSUM
theorem wth_dc {h : Hse} (H : HOK h) (h12 : qn h ≤ 12) {car a b l : Nat} (hc : car ≤ 60) (ha : a < 8) (hb : b < 8) (hab : a ≠ b) (hl : 1 ≤ l ∧ l ≤ 9) : SS (wth (dc h (Int32.ofInt 0) car) car a b l) = SS (dc (hmore h a b l) (Int32.ofInt 0) car) := by
  refine SS_eq (fun x y hx hy => ?_)
  have e := dv_more (bar := Int32.ofInt 0) H h12 ha hb hab hl (fre_0 _ (by omega)) hx hy
  unfold dc at e ⊢
  rw [e]
  exact cut_ov hc (dv_99 H y hx) (dv_99 H a hx) (dv_99 H y hb) (dv_99 H b hx) (dv_99 H y ha) rfl rfl
/-! the best place for it -/
def fin (S : Nat → Nat → Nat) (a : Nat) : Nat → Nat → Int32 × Nat → Int32 × Nat
  | 0, _, st => st
  | g + 1, b, st => fin S a g (b + 1) (if st.1 = Int32.ofInt (-6) ∨ S a b < st.2 then (nI (10 * a + b), S a b) else st)
def fout (S : Nat → Nat → Nat) : Nat → Nat → Int32 × Nat → Int32 × Nat
  | 0, _, st => st
  | g + 1, a, st => fout S g (a + 1) (fin S a (7 - a) (a + 1) st)
def gst (st : Int32 × Nat) : Prop := (st.1 = Int32.ofInt (-6) ∨ ∃ k, k < 100 ∧ st.1 = nI k) ∧ st.2 ≤ 6336
theorem gst_up {S : Nat → Nat → Nat} {a b : Nat} {st : Int32 × Nat} (h : gst st) (hS : S a b ≤ 6336) (ha : a < 8) (hb : b < 8) : gst (if st.1 = Int32.ofInt (-6) ∨ S a b < st.2 then (nI (10 * a + b), S a b) else st) := by
  split
  · exact ⟨Or.inr ⟨10 * a + b, by omega, rfl⟩, hS⟩
  · exact h
theorem fin_g {S : Nat → Nat → Nat} (hS : ∀ a b, a < 8 → b < 8 → S a b ≤ 6336) {a : Nat} (ha : a < 8) : ∀ (g b : Nat) (st : Int32 × Nat), b + g ≤ 8 → gst st → gst (fin S a g b st) := by
  intro g
  induction g with
  | zero => intro b st _ h; exact h
  | succ g ih =>
    intro b st h1 h
    exact ih (b + 1) _ (by omega) (gst_up h (hS a b ha (by omega)) ha (by omega))
section FUR
variable {M : Mem} {h : Hse} {L : LMem} {K : Int32 → Mem → LMem → Prop} {car l : Nat} {v2 : Int32}
noncomputable def SF (h : Hse) (car l a b : Nat) : Nat := SS (wth (dc h (Int32.ofInt 0) car) car a b l)
theorem SF_le (h : Hse) (hc : car ≤ 60) (l a b : Nat) : SF h car l a b ≤ 6336 := SS_le (fun _ _ _ _ => wth_99 hc)
theorem hl_f69 (H : HOK h) (hc : car ≤ 60) (hl : 1 ≤ l ∧ l ≤ 9) (hm : mtx M 71 (dc h (Int32.ofInt 0) car)) (hcar : M 3 1 = nI car) {a : Nat} (ha : a < 8) {C : Int32 → Int32 → Int32 → Int32 → Int32 → Mem → LMem → Prop} {st' : Int32 × Nat} (kk : C (nI l) v2 (nI st'.2) st'.1 (nI (a + 1)) M L) :
    ∀ (f g b : Nat) (st : Int32 × Nat), b + g = 8 → g < f → gst st → st' = fin (SF h car l) a g b st → PL_X9_further_69 K C f (nI l) v2 (nI st.2) st.1 (nI a) (nI b) M L := by
  intro f
  induction f with
  | zero => intro g b st h1 h2; omega
  | succ f ih =>
    intro g b st h1 h2 hg he
    unfold PL_X9_further_69
    rw [nI_s, nI_s]
    refine pk_le 8 b (fun c => ?_) (fun c => ?_)
    · obtain rfl : g = 0 := by omega
      rw [show fin (SF h car l) a 0 b st = st from rfl] at he
      subst he
      exact kk
    · obtain ⟨g, rfl⟩ : ∃ g', g = g' + 1 := ⟨g - 1, by omega⟩
      have hS := SF_le h hc l a b
      rw [hcar]
      refine h_sumWith hm (fun x y hx _ => dc_99 H hc y hx) hc ha c hl.2 ?_
      have e10 : Int32.ofInt 10 * nI a + nI b = nI (10 * a + b) := by rw [o10, pk_mul, nI_add]
      rw [e10]
      have hup := gst_up (S := SF h car l) hg hS ha c
      have ih2 := ih g (b + 1) _ (by omega) (by omega) hup he
      refine br_c (fun c1 => ?_) (fun c1 => ?_)
      · rw [if_pos (Or.inl c1)] at ih2; exact ih2
      · refine pk_le st.2 (SF h car l a b) (fun c2 => ?_) (fun c2 => ?_) rfl rfl (by have := hg.2; omega) (by omega)
        · rw [if_neg (fun e => e.elim c1 (fun e => by omega))] at ih2; exact ih2
        · rw [if_pos (Or.inr c2)] at ih2; exact ih2
theorem hl_f56 (H : HOK h) (hc : car ≤ 60) (hl : 1 ≤ l ∧ l ≤ 9) (hm : mtx M 71 (dc h (Int32.ofInt 0) car)) (hcar : M 3 1 = nI car) {st' : Int32 × Nat} (kk0 : v2 = 0 → K st'.1 M L) (kk1 : ¬ v2 = 0 → K (nI st'.2) M L) :
    ∀ (f g a : Nat) (st : Int32 × Nat), a + g = 8 → g < f → gst st → st' = fout (SF h car l) g a st → PL_X9_further_56 K f (nI l) v2 (nI st.2) st.1 (nI a) M L := by
  intro f
  induction f with
  | zero => intro g a st h1 h2; omega
  | succ f ih =>
    intro g a st h1 h2 hg he
    unfold PL_X9_further_56
    refine pk_le 8 a (fun c => ?_) (fun c => ?_)
    · obtain rfl : g = 0 := by omega
      rw [show fout (SF h car l) 0 a st = st from rfl] at he
      subst he
      exact br_c kk0 kk1
    · obtain ⟨g, rfl⟩ : ∃ g', g = g' + 1 := ⟨g - 1, by omega⟩
      have e1 : nI a + Int32.ofInt 1 = nI (a + 1) := nI_add _ 1
      rw [e1]
      refine hl_f69 H hc hl hm hcar c ?_ 100000 (7 - a) (a + 1) st (by omega) (by omega) hg rfl
      exact ih g (a + 1) _ (by omega) (by omega) (fin_g (fun a b _ _ => SF_le h hc l a b) c _ _ _ (by omega) hg) he
end FUR
def cFu (n : Nat) : Nat → Nat → Bool := fun p i => Nat.beq p 85 || ((Nat.ble 75 p && (Nat.ble p 78 && Nat.beq i n)) || (Nat.beq p 74 && Nat.beq i 21))
theorem cFu_o {n p i : Nat} (h1 : p ≠ 85) (h2 : p < 75 ∨ 78 < p ∨ i ≠ n) (h3 : p ≠ 74 ∨ i ≠ 21) : cFu n p i = false := by
  unfold cFu
  rw [nbf h1]
  have e1 : (Nat.ble 75 p && (Nat.ble p 78 && Nat.beq i n)) = false := by
    rcases h2 with h | h | h
    · rw [nlf h]; rfl
    · rw [nlf h]; exact Bool.and_false _
    · rw [nbf h, Bool.and_false, Bool.and_false]
  have e2 : (Nat.beq p 74 && Nat.beq i 21) = false := by
    rcases h3 with h | h
    · rw [nbf h]; rfl
    · rw [nbf h]; exact Bool.and_false _
  rw [e1, e2]; rfl
theorem INVs.fu {M M1 : Mem} {s : Stt} {np : Nat} {pd : Nat → Nat} (hI : INVs M s np pd) (hF : Fr (cFu (qn (sH s))) M M1) : INVs M1 s np pd := by
  obtain ⟨h1, h2, h3, h4, h5, h6⟩ := hI
  have o : ∀ p i, p ≤ 36 → M1 p i = M p i := fun p i hp => hF p i (cFu_o (by omega) (by omega) (by omega))
  have k : ∀ p i, 79 ≤ p → p ≠ 85 → M1 p i = M p i := fun p i hp h85 => hF p i (cFu_o h85 (by omega) (by omega))
  have q : ∀ i, i ≠ 21 → M1 74 i = M 74 i := fun i hi => hF 74 i (cFu_o (by decide) (by omega) (Or.inr hi))
  refine ⟨h1, h2.eq (fun p i a b => o p i (by omega)), ?_, h4.eq (o 1 1 (by decide)) (q 16 (by decide)) (fun i => o 2 i (by decide)) (fun i => k 84 i (by decide) (by decide)), h5.eq (hF 68 1 (cFu_o (by decide) (by omega) (by omega))) (o 36 0 (by decide)) (k 109 0 (by decide) (by decide)) (fun p i a b => o p i (by omega)) (fun i _ => k 108 _ (by decide) (by decide)), h6.eq (hF 68 1 (cFu_o (by decide) (by omega) (by omega))) (o 36 1 (by decide)) (k 109 1 (by decide) (by decide)) (fun p i a b => o p i (by omega)) (fun i _ => k 108 _ (by decide) (by decide))⟩
  obtain ⟨g1, g2, g3, g4, g5, g6, g7, g8, g9⟩ := h3
  refine ⟨(q 4 (by decide)).trans g1, fun t ht => ?_, (q 5 (by decide)).trans g3, (q 6 (by decide)).trans g4, (q 12 (by decide)).trans g5, (q 13 (by decide)).trans g6, (q 14 (by decide)).trans g7, fun r hr => (k 79 r (by decide) (by decide)).trans (g8 r hr), fun c hc => ?_⟩
  · obtain ⟨a1, a2, a3, a4⟩ := g2 t ht
    have w : ∀ p, 75 ≤ p → p ≤ 78 → M1 p t = M p t := fun p a b => hF p t (cFu_o (by omega) (by omega) (by omega))
    exact ⟨(w 75 (by decide) (by decide)).trans a1, (w 76 (by decide) (by decide)).trans a2, (w 77 (by decide) (by decide)).trans a3, (w 78 (by decide) (by decide)).trans a4⟩
  · obtain ⟨a1, a2, a3, a4⟩ := g9 c hc
    exact ⟨(k 80 c (by decide) (by decide)).trans a1, (k 81 c (by decide) (by decide)).trans a2, (k 82 c (by decide) (by decide)).trans a3, (k 83 c (by decide) (by decide)).trans a4⟩
theorem cOff_Fu {n : Nat} {M M1 : Mem} (hF : Fr cOff M M1) : Fr (cFu n) M M1 := hF.mono (fun p i hq => by
  unfold cFu at hq; unfold cOff; revert hq; cases Nat.beq p 85 <;> simp)
section MFU
variable {M0 : Mem} {h : Hse} {L : LMem} {K : Int32 → Mem → LMem → Prop} {car l : Nat} {v2 v5 : Int32}
theorem hl_m88 (H : HOK h) (h12 : qn h ≤ 12) (hC : HM4 M0 h) (hc : car ≤ 60) (hl : 1 ≤ l ∧ l ≤ 9) (hcar : M0 74 5 = nI car) {a : Nat} (ha : a < 8) {C : Int32 → Int32 → Int32 → Int32 → Int32 → Int32 → Mem → LMem → Prop} {st' : Int32 × Nat} (kk : ∀ M, Fr (cFu (qn h)) M0 M → M 74 21 = nI (qn h + 1) → C (nI l) v2 st'.1 (nI st'.2) v5 (nI (a + 1)) M L) :
    ∀ (f g b : Nat) (st : Int32 × Nat) (M : Mem), a < b → b + g = 8 → g < f → gst st → st' = fin (SF h car l) a g b st → Fr (cFu (qn h)) M0 M → M 74 21 = nI (qn h + 1) → PL_X10_further_88 K C f (nI l) v2 st.1 (nI st.2) v5 (nI a) (nI b) M L := by
  intro f
  induction f with
  | zero => intro g b st M h0 h1 h2; omega
  | succ f ih =>
    intro g b st M h0 h1 h2 hg he hF h21
    have h4 : M 74 4 = nI (qn h) := (hF 74 4 (cFu_o (by decide) (by omega) (by omega))).trans hC.1
    unfold PL_X10_further_88
    rw [nI_s, nI_s]
    refine pk_le 8 b (fun c => ?_) (fun c => ?_)
    · obtain rfl : g = 0 := by omega
      rw [show fin (SF h car l) a 0 b st = st from rfl] at he
      subst he
      exact kk M hF h21
    · obtain ⟨g, rfl⟩ : ∃ g', g = g' + 1 := ⟨g - 1, by omega⟩
      have hS := SF_le h hc l a b
      have e10 : Int32.ofInt 10 * nI a + nI b = nI (10 * a + b) := by rw [o10, pk_mul, nI_add]
      rw [h4, nI_clamp (by omega), e10]
      have cn : ∀ p, 75 ≤ p → p ≤ 78 → cFu (qn h) p (qn h) = true := fun p x y => by
        unfold cFu
        rw [Nat.ble_eq_true_of_le x, Nat.ble_eq_true_of_le y, Nat.beq_refl]
        cases Nat.beq p 85 <;> rfl
      have hF2 : Fr (cFu (qn h)) M0 (mput (mput (mput (mput M 75 (qn h) (nI a)) 76 (qn h) (nI b)) 77 (qn h) (Int32.ofInt 45)) 78 (qn h) (nI l)) := (((hF.put (cn 75 (by decide) (by decide))).put (cn 76 (by decide) (by decide))).put (cn 77 (by decide) (by decide))).put (cn 78 (by decide) (by decide))
      have hM2 : HM (mput (mput (mput (mput M 75 (qn h) (nI a)) 76 (qn h) (nI b)) 77 (qn h) (Int32.ofInt 45)) 78 (qn h) (nI l)) (hmore h a b l) := by
        refine ⟨?_, fun t ht => ?_⟩
        · simp (discharger := decide) only [mp_p]; exact h21
        · rw [hm_n] at ht
          simp (discharger := decide) only [mp_p]
          by_cases e : t = qn h
          · subst e
            obtain ⟨n1, n2, n3, n4⟩ := hm_new (h := h) (a := a) (b := b) (l := l)
            rw [n1, n2, n3, n4]
            exact ⟨mp_s _ _ _ _, mp_s _ _ _ _, mp_s _ _ _ _, mp_s _ _ _ _⟩
          · obtain ⟨n1, n2, n3, n4⟩ := hm_old (a := a) (b := b) (l := l) (show t < qn h by omega)
            obtain ⟨a1, a2, a3, a4⟩ := hC.2 t (by omega)
            rw [n1, n2, n3, n4, mp_i _ e, mp_i _ e, mp_i _ e, mp_i _ e]
            simp (discharger := decide) only [mp_p]
            have w : ∀ p, 75 ≤ p → p ≤ 78 → M p t = M0 p t := fun p x y => hF p t (cFu_o (by omega) (by omega) (by omega))
            exact ⟨(w 75 (by decide) (by decide)).trans a1, (w 76 (by decide) (by decide)).trans a2, (w 77 (by decide) (by decide)).trans a3, (w 78 (by decide) (by decide)).trans a4⟩
      refine ⟨pk_in (qn h) 13 (by omega), h_sumOf (hm_ok H h12 ha c (by omega) hl) hM2 hc ((hF2 74 5 (cFu_o (by decide) (by omega) (by omega))).trans hcar) (fun M3 hF3 => ?_)⟩
      rw [← wth_dc H h12 hc ha c (by omega) hl]
      have h21' : M3 74 21 = nI (qn h + 1) := (hF3 74 21 rfl).trans hM2.1
      have hup := gst_up (S := SF h car l) hg hS ha c
      have ih2 := ih g (b + 1) _ M3 (by omega) (by omega) (by omega) hup he (hF2.tr (cOff_Fu hF3)) h21'
      rcases hg.1 with c1 | ⟨k, hk, c1⟩
      · rw [if_pos (Or.inl c1)] at ih2
        exact br_t (by rw [c1]; exact neg6) ih2
      · have c1' : ¬ st.1 = Int32.ofInt (-6) := by rw [c1]; exact nI_ne6 (by omega)
        refine br_f (by rw [c1]; exact nI_pos (by omega)) (pk_le st.2 (SF h car l a b) (fun c2 => ?_) (fun c2 => ?_) rfl rfl (by have := hg.2; omega) (by omega))
        · rw [if_neg (fun e => e.elim c1' (fun e => by omega))] at ih2; exact ih2
        · rw [if_pos (Or.inr c2)] at ih2; exact ih2
theorem hl_m75 (H : HOK h) (h12 : qn h ≤ 12) (hC : HM4 M0 h) (hc : car ≤ 60) (hl : 1 ≤ l ∧ l ≤ 9) (hcar : M0 74 5 = nI car) {st' : Int32 × Nat} (kk0 : v2 = 0 → ∀ M, Fr (cFu (qn h)) M0 M → K st'.1 M L) (kk1 : ¬ v2 = 0 → ∀ M, Fr (cFu (qn h)) M0 M → K (nI st'.2) M L) :
    ∀ (f g a : Nat) (st : Int32 × Nat) (M : Mem), a + g = 8 → g < f → gst st → st' = fout (SF h car l) g a st → Fr (cFu (qn h)) M0 M → M 74 21 = nI (qn h + 1) → PL_X10_further_75 K f (nI l) v2 st.1 (nI st.2) v5 (nI a) M L := by
  intro f
  induction f with
  | zero => intro g a st M h1 h2; omega
  | succ f ih =>
    intro g a st M h1 h2 hg he hF h21
    have h4 : M 74 4 = nI (qn h) := (hF 74 4 (cFu_o (by decide) (by omega) (by omega))).trans hC.1
    unfold PL_X10_further_75
    refine pk_le 8 a (fun c => ?_) (fun c => ?_)
    · obtain rfl : g = 0 := by omega
      rw [show fout (SF h car l) 0 a st = st from rfl] at he
      subst he
      rw [h4, nI_clamp (by omega)]
      have hF2 : Fr (cFu (qn h)) M0 (mput M 75 (qn h) v5) := hF.put (by
        unfold cFu
        rw [Nat.beq_refl]; rfl)
      exact ⟨pk_in (qn h) 13 (by omega), br_c (fun c0 => kk0 c0 _ hF2) (fun c0 => kk1 c0 _ hF2)⟩
    · obtain ⟨g, rfl⟩ : ∃ g', g = g' + 1 := ⟨g - 1, by omega⟩
      have e1 : nI a + Int32.ofInt 1 = nI (a + 1) := nI_add _ 1
      rw [e1]
      refine hl_m88 H h12 hC hc hl hcar c (fun M2 hF2 h21' => ?_) 100000 (7 - a) (a + 1) st M (by omega) (by omega) (by omega) hg rfl hF h21
      exact ih g (a + 1) _ M2 (by omega) (by omega) (fin_g (fun a b _ _ => SF_le h hc l a b) c _ _ _ (by omega) hg) he hF2 h21'
end MFU
theorem cD70_scr {M M1 : Mem} (h : Fr cD70 M M1) : Fr cScr M M1 := h.mono (fun p i hq => nbf (fun e => by subst e; exact nomatch (show true = false from hq)))
theorem cD72_scr {M M1 : Mem} (h : Fr cD72 M M1) : Fr cScr M M1 := h.mono (fun p i hq => nbf (fun e => by subst e; exact nomatch (show true = false from hq)))
theorem op_further : Op_further INV := by
  intro M L x1 x2 hI
  obtain ⟨s, np, pd, hI⟩ := hI
  have hS := hI.1
  have hc60 := hS.2.2.1.2
  have iv : INV M L := ⟨s, np, pd, hI⟩
  show P_X9_further x1 x2 M L (fun r M1 L1 => P_X10_further x1 x2 M1 L1 (fun r2 M2 L2 => r2 = r ∧ INV M2 L2))
  unfold P_X9_further P_X10_further
  rcases wi_cases x1 1 9 (Int32.ofInt 1) (Int32.ofInt 9) (Int64.ofNat 1) (Int64.ofNat 9) with ⟨l, l1, l2, rfl, l3, l4⟩ | ⟨l1, l3, l4⟩
  · rcases wi_cases x2 0 2 (Int32.ofInt 0) (Int32.ofInt 2) (Int64.ofNat 0) (Int64.ofNat 2) with ⟨w, w1, w2, rfl, w3, w4⟩ | ⟨w1, w3, w4⟩
    · refine br_1 (l3 M) (br_1 (w3 M) (h_measure70 hS.1 hS.2.1 hI.2.1.hc hc60 hI.2.1.car (fun M1 hF1 hm1 => ?_)))
      have hI1 := hI.scr (cD70_scr hF1)
      refine br_c (fun c2 => ?_) (fun c2 => ?_)
      · refine h_sum hm1 (fun x y hx _ => dc_99 hS.1 hc60 y hx) (br_1 (l4 _) (br_1 (w4 _) (br_t c2 ?_)))
        refine h_sumOf hS.1 hI1.2.2.1.hm.now hc60 ((mp_i _ (by decide)).trans hI1.2.2.1.car) (fun M2 hF2 => ⟨rfl, s, np, pd, hI1.scr (cMw_scr (((Fr.rf cMw M1).put rfl).tr (cOff_Mw hF2)))⟩)
      · have h4 : M1 74 4 = nI (qn (sH s)) := hI1.2.2.1.hm.1
        have g0 : gst (Int32.ofInt (-6), 0) := ⟨Or.inl rfl, by omega⟩
        have md : ∀ (r : Int32), (nI w = 0 → r = (fout (SF (sH s) (sG s 0) l) 8 0 (Int32.ofInt (-6), 0)).1) → (¬ nI w = 0 → r = nI (fout (SF (sH s) (sG s 0) l) 8 0 (Int32.ofInt (-6), 0)).2) → PL_X10_further_75 (fun r2 M2 L2 => r2 = r ∧ INV M2 L2) 100000 (nI l) (nI w) (Int32.ofInt (-6)) (Int32.ofInt 0) (M1 75 ((M1 74 4).toNatClampNeg)) (Int32.ofInt 0) (mput (mput M1 74 21 (M1 74 4)) 74 21 ((M1 74 4) + (Int32.ofInt 1))) L := by
          intro r r0 r1
          refine hl_m75 (M0 := M1) hS.1 hS.2.1 hI1.2.2.1.hm hc60 ⟨l1, l2⟩ hI1.2.2.1.car (fun c0 M2 hF2 => ⟨(r0 c0).symm, s, np, pd, hI1.fu hF2⟩) (fun c0 M2 hF2 => ⟨(r1 c0).symm, s, np, pd, hI1.fu hF2⟩) 100000 8 0 (Int32.ofInt (-6), 0) _ (by omega) (by omega) g0 rfl (((Fr.rf _ _).put ?_).put ?_) ?_
          · unfold cFu; simp
          · unfold cFu; simp
          · rw [mp_s, h4, nI_s]
        have tail : ∀ (r : Int32), (nI w = 0 → r = (fout (SF (sH s) (sG s 0) l) 8 0 (Int32.ofInt (-6), 0)).1) → (¬ nI w = 0 → r = nI (fout (SF (sH s) (sG s 0) l) 8 0 (Int32.ofInt (-6), 0)).2) → vp_in (M1 74 4) 13 ∧ PL_X10_further_75 (fun r2 M2 L2 => r2 = r ∧ INV M2 L2) 100000 (nI l) (nI w) (Int32.ofInt (-6)) (Int32.ofInt 0) (M1 75 ((M1 74 4).toNatClampNeg)) (Int32.ofInt 0) (mput (mput M1 74 21 (M1 74 4)) 74 21 ((M1 74 4) + (Int32.ofInt 1))) L := fun r r0 r1 => ⟨by rw [h4]; exact pk_in (qn (sH s)) 13 (by have := hS.2.1; omega), md r r0 r1⟩
        refine hl_f56 (st' := fout (SF (sH s) (sG s 0) l) 8 0 (Int32.ofInt (-6), 0)) hS.1 hc60 ⟨l1, l2⟩ hm1 hI1.2.1.car (fun c0 => br_1 (l4 _) (br_1 (w4 _) (br_f c2 (tail _ (fun _ => rfl) (fun c0' => absurd c0 c0'))))) (fun c0 => br_1 (l4 _) (br_1 (w4 _) (br_f c2 (tail _ (fun c0' => absurd c0' c0) (fun _ => rfl))))) 100000 8 0 (Int32.ofInt (-6), 0) (by omega) (by omega) g0 rfl
    · exact br_1 (l3 M) (br_0 (w3 M) (br_1 (l4 _) (br_0 (w4 _) ⟨rfl, iv⟩)))
  · exact br_0 (l3 M) (br_0 (l4 _) ⟨rfl, iv⟩)
