/-! ===== sums ===== -/
def sm (f : Nat → Nat) : Nat → Nat
  | 0 => 0
  | n + 1 => sm f n + f n
theorem sm_eq {f g : Nat → Nat} : ∀ n : Nat, (∀ i, i < n → f i = g i) → sm f n = sm g n := by
  intro n
  induction n with
  | zero => intro _; rfl
  | succ n ih =>
    intro h
    show sm f n + f n = sm g n + g n
    rw [ih (fun i hi => h i (by omega)), h n (by omega)]
theorem sm_add (f g : Nat → Nat) : ∀ n : Nat, sm (fun i => f i + g i) n = sm f n + sm g n := by
  intro n
  induction n with
  | zero => rfl
  | succ n ih =>
    show sm (fun i => f i + g i) n + (f n + g n) = (sm f n + f n) + (sm g n + g n)
    rw [ih]; omega
theorem sm_0 : ∀ n : Nat, sm (fun _ => 0) n = 0 := by
  intro n
  induction n with
  | zero => rfl
  | succ n ih =>
    show sm (fun _ => 0) n + 0 = 0
    rw [ih]
theorem sm_swap (f : Nat → Nat → Nat) (m : Nat) : ∀ n : Nat, sm (fun a => sm (fun b => f a b) m) n = sm (fun b => sm (fun a => f a b) n) m := by
  intro n
  induction n with
  | zero => exact (sm_0 m).symm
  | succ n ih =>
    show sm (fun a => sm (fun b => f a b) m) n + sm (fun b => f n b) m = sm (fun b => sm (fun a => f a b) n + f n b) m
    rw [ih, sm_add]
theorem sm_app (f : Nat → Nat) (n : Nat) : ∀ m : Nat, sm f (n + m) = sm f n + sm (fun i => f (n + i)) m := by
  intro m
  induction m with
  | zero => rfl
  | succ m ih =>
    show sm f (n + m) + f (n + m) = sm f n + (sm (fun i => f (n + i)) m + f (n + m))
    rw [ih]; omega
theorem sm_8 (f : Nat → Nat) : ∀ n : Nat, sm f (8 * n) = sm (fun a => sm (fun b => f (8 * a + b)) 8) n := by
  intro n
  induction n with
  | zero => rfl
  | succ n ih =>
    show sm f (8 * n + 8) = sm (fun a => sm (fun b => f (8 * a + b)) 8) n + sm (fun b => f (8 * n + b)) 8
    rw [sm_app, ih]
theorem sm_le {f : Nat → Nat} {c : Nat} : ∀ n : Nat, (∀ i, i < n → f i ≤ c) → sm f n ≤ c * n := by
  intro n
  induction n with
  | zero => intro _; exact Nat.le_refl _
  | succ n ih =>
    intro h
    have h1 := ih (fun i hi => h i (by omega))
    have h2 := h n (by omega)
    show sm f n + f n ≤ c * n + c
    omega
theorem dv_fre {h : Hse} {b1 b2 : Int32} (H : HOK h) (hb : ∀ t, t < qn h → (fre b1 t → fre b2 t)) {x : Nat} (y : Nat) (hx : x < 8) : dv h b2 x y ≤ dv h b1 x y :=
  dv_ind' H hx (fun u => dv h b2 u y) (dv_0 H y) (fun u hu => dv_99 H y hu) (fun t u h1 h2 h3 h4 => dv_ed H h1 (hb t h1 h2) h3 h4)
theorem cut_99 {car v : Nat} (hv : v ≤ 99) (hc : car ≤ 60) : cut car v ≤ 99 := by
  unfold cut; split <;> omega
/-- a house with a tube more -/
def hmore (h : Hse) (a b l : Nat) : Hse := (qn h + 1, fup h.2.1 (qn h) a, fup h.2.2.1 (qn h) b, fup h.2.2.2.1 (qn h) 45, fup h.2.2.2.2 (qn h) l)
section MORE
variable {h : Hse} {a b l : Nat} {bar : Int32}
theorem hm_n : qn (hmore h a b l) = qn h + 1 := rfl
theorem hm_new : qa (hmore h a b l) (qn h) = a ∧ qb (hmore h a b l) (qn h) = b ∧ qk (hmore h a b l) (qn h) = 45 ∧ ql (hmore h a b l) (qn h) = l := ⟨fup_s _ _ _, fup_s _ _ _, fup_s _ _ _, fup_s _ _ _⟩
theorem hm_old {t : Nat} (ht : t < qn h) : qa (hmore h a b l) t = qa h t ∧ qb (hmore h a b l) t = qb h t ∧ qk (hmore h a b l) t = qk h t ∧ ql (hmore h a b l) t = ql h t := ⟨fup_n (by omega), fup_n (by omega), fup_n (by omega), fup_n (by omega)⟩
theorem hm_go {t : Nat} (ht : t < qn h) (x : Nat) : go (hmore h a b l) t x = go h t x := by
  obtain ⟨h1, h2, h3, h4⟩ := hm_old (a := a) (b := b) (l := l) ht
  unfold go
  rw [h1, h2, h3]
theorem hm_gon (x : Nat) : go (hmore h a b l) (qn h) x = if a = x then b else if b = x then a else 8 := by
  obtain ⟨h1, h2, h3, h4⟩ := hm_new (h := h) (a := a) (b := b) (l := l)
  unfold go
  rw [h1, h2, h3, if_neg (show ¬ (45 : Nat) = 120 by decide), if_neg (show ¬ (45 : Nat) = 62 by decide)]
theorem hm_ok (H : HOK h) (h12 : qn h ≤ 12) (ha : a < 8) (hb : b < 8) (hab : a ≠ b) (hl : 1 ≤ l ∧ l ≤ 9) : HOK (hmore h a b l) := by
  refine ⟨by rw [hm_n]; omega, fun t ht => ?_⟩
  rw [hm_n] at ht
  by_cases e : t = qn h
  · subst e
    obtain ⟨h1, h2, h3, h4⟩ := hm_new (h := h) (a := a) (b := b) (l := l)
    rw [h1, h2, h3, h4]; omega
  · obtain ⟨h1, h2, h3, h4⟩ := hm_old (a := a) (b := b) (l := l) (show t < qn h by omega)
    rw [h1, h2, h3, h4]; exact H.2 t (by omega)
/-- the least of going without it, and over it either way -/
noncomputable def ov (h : Hse) (bar : Int32) (a b l x y : Nat) : Nat := mn (dv h bar x y) (mn (dv h bar x a + l + dv h bar b y) (dv h bar x b + l + dv h bar a y))
theorem ov_le (x y : Nat) : ov h bar a b l x y ≤ dv h bar x y ∧ ov h bar a b l x y ≤ dv h bar x a + l + dv h bar b y ∧ ov h bar a b l x y ≤ dv h bar x b + l + dv h bar a y ∧ (ov h bar a b l x y = dv h bar x y ∨ ov h bar a b l x y = dv h bar x a + l + dv h bar b y ∨ ov h bar a b l x y = dv h bar x b + l + dv h bar a y) := by
  unfold ov
  have h1 := mn_le (dv h bar x y) (mn (dv h bar x a + l + dv h bar b y) (dv h bar x b + l + dv h bar a y))
  have h2 := mn_le (dv h bar x a + l + dv h bar b y) (dv h bar x b + l + dv h bar a y)
  omega
theorem dv_more (H : HOK h) (h12 : qn h ≤ 12) (ha : a < 8) (hb : b < 8) (hab : a ≠ b) (hl : 1 ≤ l ∧ l ≤ 9) (hfn : fre bar (qn h)) {x y : Nat} (hx : x < 8) (hy : y < 8) : dv (hmore h a b l) bar x y = ov h bar a b l x y := by
  have H2 := hm_ok H h12 ha hb hab hl
  have old : ∀ u v, u < 8 → dv (hmore h a b l) bar u v ≤ dv h bar u v := fun u v hu =>
    dv_ind' H hu (fun w => dv (hmore h a b l) bar w v) (dv_0 H2 v) (fun w hw => dv_99 H2 v hw) (fun t w h1 h2 h3 h4 => by
      have := dv_ed (bar := bar) (x := w) (y := v) H2 (t := t) (by rw [hm_n]; omega) h2 h3 (by rw [hm_go h1]; exact h4)
      rw [hm_go h1, (hm_old h1).2.2.2] at this
      exact this)
  have gab : go (hmore h a b l) (qn h) a = b := by rw [hm_gon, if_pos rfl]
  have gba : go (hmore h a b l) (qn h) b = a := by rw [hm_gon, if_neg hab, if_pos rfl]
  have hql : ql (hmore h a b l) (qn h) = l := hm_new.2.2.2
  have nab := dv_ed (bar := bar) (x := a) (y := y) H2 (t := qn h) (by rw [hm_n]; omega) hfn ha (by rw [gab]; exact hb)
  have nba := dv_ed (bar := bar) (x := b) (y := y) H2 (t := qn h) (by rw [hm_n]; omega) hfn hb (by rw [gba]; exact ha)
  rw [gab, hql] at nab
  rw [gba, hql] at nba
  refine Nat.le_antisymm ?_ ?_
  · obtain ⟨-, -, -, h4⟩ := ov_le (h := h) (bar := bar) (a := a) (b := b) (l := l) x y
    have t1 := dv_tri (bar := bar) (z := y) H2 hx ha
    have t2 := dv_tri (bar := bar) (z := y) H2 hx hb
    have o1 := old x a hx
    have o2 := old b y hb
    have o3 := old x b hx
    have o4 := old a y ha
    have o5 := old x y hx
    omega
  · refine dv_ind' H2 hx (fun u => ov h bar a b l u y) ?_ (fun u hu => ?_) (fun t u h1 h2 h3 h4 => ?_)
    · have h1 := (ov_le (h := h) (bar := bar) (a := a) (b := b) (l := l) y y).1
      rw [dv_0 H] at h1
      exact Nat.le_zero.mp h1
    · have h1 := (ov_le (h := h) (bar := bar) (a := a) (b := b) (l := l) u y).1
      have := dv_99 (bar := bar) H y hu
      show ov h bar a b l u y ≤ 99
      omega
    · show ov h bar a b l u y ≤ ql (hmore h a b l) t + ov h bar a b l (go (hmore h a b l) t u) y
      rw [hm_n] at h1
      have p1 := ov_le (h := h) (bar := bar) (a := a) (b := b) (l := l) u y
      by_cases e : t = qn h
      · subst e
        rw [hql]
        rw [hm_gon] at h4 ⊢
        by_cases ea : a = u
        · subst ea
          rw [if_pos rfl]
          have p2 := ov_le (h := h) (bar := bar) (a := a) (b := b) (l := l) b y
          have z1 := dv_0 (bar := bar) H a
          have z2 := dv_0 (bar := bar) H b
          omega
        · by_cases eb : b = u
          · subst eb
            rw [if_neg ea, if_pos rfl]
            have p2 := ov_le (h := h) (bar := bar) (a := a) (b := b) (l := l) a y
            have z1 := dv_0 (bar := bar) H a
            have z2 := dv_0 (bar := bar) H b
            omega
          · rw [if_neg ea, if_neg eb] at h4; omega
      · have ht : t < qn h := by omega
        rw [hm_go ht] at h4 ⊢
        rw [(hm_old ht).2.2.2]
        have q1 := dv_ed (y := y) H ht h2 h3 h4
        have q2 := dv_ed (y := a) H ht h2 h3 h4
        have q3 := dv_ed (y := b) H ht h2 h3 h4
        have p2 := ov_le (h := h) (bar := bar) (a := a) (b := b) (l := l) (go h t u) y
        omega
end MORE
/-- what is carried of it can be read off what is carried -/
theorem cut_ov {car p q r : Nat} {p1 p2 p3 p4 l : Nat} (hc : car ≤ 60) (hp : p ≤ 99) (h1 : p1 ≤ 99) (h2 : p2 ≤ 99) (h3 : p3 ≤ 99) (h4 : p4 ≤ 99) (hq : q = p1 + l + p2) (hr : r = p3 + l + p4) : cut car (mn (cut car p) (mn (cut car p1 + l + cut car p2) (cut car p3 + l + cut car p4))) = cut car (mn p (mn q r)) := by
  subst hq hr
  have c0 : ∀ v, v ≤ 99 → v ≤ cut car v ∧ (v ≤ car → cut car v = v) ∧ (¬ v ≤ car → cut car v = 99) := fun v hv => by
    unfold cut
    by_cases e : v ≤ car
    · rw [if_pos e]; omega
    · rw [if_neg e]; omega
  have a0 := c0 p hp
  have a1 := c0 p1 h1
  have a2 := c0 p2 h2
  have a3 := c0 p3 h3
  have a4 := c0 p4 h4
  have m1 := mn_le (cut car p) (mn (cut car p1 + l + cut car p2) (cut car p3 + l + cut car p4))
  have m2 := mn_le (cut car p1 + l + cut car p2) (cut car p3 + l + cut car p4)
  have m3 := mn_le p (mn (p1 + l + p2) (p3 + l + p4))
  have m4 := mn_le (p1 + l + p2) (p3 + l + p4)
  generalize cut car p = P at *
  generalize cut car p1 = P1 at *
  generalize cut car p2 = P2 at *
  generalize cut car p3 = P3 at *
  generalize cut car p4 = P4 at *
  generalize mn (P1 + l + P2) (P3 + l + P4) = U at *
  generalize mn (p1 + l + p2) (p3 + l + p4) = V at *
  generalize mn P U = X at *
  generalize mn p V = Y at *
  unfold cut
  by_cases e : Y ≤ car
  · have : X = Y := by omega
    rw [this]
  · have : ¬ X ≤ car := by omega
    rw [if_neg e, if_neg this]

