/-! ===== how far, as a matrix ===== -/
noncomputable def dv (h : Hse) (bar : Int32) (x y : Nat) : Nat := if lab h bar y x < 1048576 then lab h bar y x / 16 else 99
section DV
variable {h : Hse} {bar : Int32}
theorem dv_lo {x y : Nat} (c : lab h bar y x < 1048576) : dv h bar x y = lab h bar y x / 16 := if_pos c
theorem dv_hi {x y : Nat} (c : ¬ lab h bar y x < 1048576) : dv h bar x y = 99 := if_neg c
theorem dv_99 (H : HOK h) {x : Nat} (y : Nat) (hx : x < 8) : dv h bar x y ≤ 99 := by
  by_cases c : lab h bar y x < 1048576
  · have := lab_fin H (lab_is H bar y) hx c
    rw [dv_lo c]; omega
  · rw [dv_hi c]; omega
theorem dv_63 (H : HOK h) {x y : Nat} (hx : x < 8) (c : lab h bar y x < 1048576) : dv h bar x y ≤ 63 := by
  have := lab_fin H (lab_is H bar y) hx c
  rw [dv_lo c]; omega
theorem dv_0 (H : HOK h) (y : Nat) : dv h bar y y = 0 := by
  have e := (lab_is H bar y).1
  rw [dv_lo (by rw [e]; decide), e]
theorem dv_ed (H : HOK h) {x y t : Nat} (ht : t < qn h) (hf : fre bar t) (hx : x < 8) (hg : go h t x < 8) : dv h bar x y ≤ ql h t + dv h bar (go h t x) y := by
  have hD := lab_is H bar y
  have h1 := hD.2.2.1 t x ht hf hx hg
  have h9 := H.2 t ht
  by_cases c : lab h bar y (go h t x) < 1048576
  · have h2 := lab_fin H hD hg c
    have c2 : lab h bar y x < 1048576 := by omega
    have h3 := lab_fin H hD hx c2
    rw [dv_lo c, dv_lo c2]; omega
  · have := dv_99 (bar := bar) H y hx
    rw [dv_hi c]; omega
theorem dv_ti (H : HOK h) {x y : Nat} (hx : x < 8) (hn : x ≠ y) (c : lab h bar y x < 1048576) : ∃ t, t < qn h ∧ fre bar t ∧ go h t x < 8 ∧ lab h bar y (go h t x) < lab h bar y x ∧ dv h bar x y = ql h t + dv h bar (go h t x) y := by
  have hD := lab_is H bar y
  rcases hD.2.2.2 x hx hn with h1 | ⟨t, h1, h2, h3, h4⟩
  · omega
  · have c2 : lab h bar y (go h t x) < 1048576 := by omega
    have h5 := lab_fin H hD h3 c2
    exact ⟨t, h1, h2, h3, by omega, by rw [dv_lo c, dv_lo c2]; omega⟩
/-- what bounds by every tube bounds the way -/
theorem dv_ind (H : HOK h) {y : Nat} (F : Nat → Nat) (h0 : F y = 0) (h99 : ∀ x, x < 8 → F x ≤ 99) (hs : ∀ t x, t < qn h → fre bar t → x < 8 → go h t x < 8 → F x ≤ ql h t + F (go h t x)) : ∀ (N x : Nat), lab h bar y x < N → x < 8 → F x ≤ dv h bar x y := by
  intro N
  induction N with
  | zero => intro x h1; omega
  | succ N ih =>
    intro x h1 hx
    by_cases c : lab h bar y x < 1048576
    · by_cases e : x = y
      · rw [e, h0]; omega
      · obtain ⟨t, a1, a2, a3, a4, a5⟩ := dv_ti H hx e c
        have h2 := ih _ (by omega) a3
        have h3 := hs t x a1 a2 hx a3
        omega
    · rw [dv_hi c]; exact h99 x hx
theorem dv_ind' (H : HOK h) {x y : Nat} (hx : x < 8) (F : Nat → Nat) (h0 : F y = 0) (h99 : ∀ x, x < 8 → F x ≤ 99) (hs : ∀ t x, t < qn h → fre bar t → x < 8 → go h t x < 8 → F x ≤ ql h t + F (go h t x)) : F x ≤ dv h bar x y := dv_ind H F h0 h99 hs (lab h bar y x + 1) x (by omega) hx
theorem dv_tri (H : HOK h) {x y z : Nat} (hx : x < 8) (hy : y < 8) : dv h bar x z ≤ dv h bar x y + dv h bar y z := by
  have h1 := dv_ind' (bar := bar) (y := y) H hx (fun u => dv h bar u z - dv h bar y z) (Nat.sub_self _) (fun u hu => by have := dv_99 (bar := bar) H z hu; omega) (fun t u ht hf hu hg => by
    have := dv_ed (y := z) H ht hf hu hg
    show dv h bar u z - dv h bar y z ≤ ql h t + (dv h bar (go h t u) z - dv h bar y z)
    omega)
  have h2 : dv h bar x z - dv h bar y z ≤ dv h bar x y := h1
  omega
end DV
/-! Floyd and Warshall -/
theorem fw_low {h : Hse} {bar : Int32} (H : HOK h) {F : Nat → Nat → Nat} (hx : ∀ x, x < 8 → F x x = 0) (h99 : ∀ x y, x < 8 → y < 8 → F x y ≤ 99) (he : ∀ t x, t < qn h → fre bar t → x < 8 → go h t x < 8 → F x (go h t x) ≤ ql h t) (ht : ∀ x y z, x < 8 → y < 8 → z < 8 → F x z ≤ F x y + F y z) {x y : Nat} (hx8 : x < 8) (hy8 : y < 8) : F x y ≤ dv h bar x y :=
  dv_ind' H hx8 (fun u => F u y) (hx y hy8) (fun u hu => h99 u y hu hy8) (fun t u h1 h2 h3 h4 => Nat.le_trans (ht u (go h t u) y h3 h4 hy8) (Nat.add_le_add_right (he t u h1 h2 h3 h4) _))
def mn (a b : Nat) : Nat := if b < a then b else a
theorem mn_le (a b : Nat) : mn a b ≤ a ∧ mn a b ≤ b ∧ (mn a b = a ∨ mn a b = b) := by
  unfold mn; split <;> omega
/-- behind the phases below k: lengths of ways, and no way round over a lesser room is shorter -/
def FW (h : Hse) (bar : Int32) (k : Nat) (F : Nat → Nat → Nat) : Prop := (∀ x, x < 8 → F x x = 0) ∧ (∀ x y, x < 8 → y < 8 → F x y ≤ 99) ∧ (∀ t x, t < qn h → fre bar t → x < 8 → go h t x < 8 → F x (go h t x) ≤ ql h t) ∧ (∀ x y, x < 8 → y < 8 → dv h bar x y ≤ F x y) ∧ ∀ x y z, x < 8 → y < k → z < 8 → F x z ≤ F x y + F y z
theorem FW_step {h : Hse} {bar : Int32} (H : HOK h) {k : Nat} {F G : Nat → Nat → Nat} (hk : k < 8) (hF : FW h bar k F) (hG : ∀ x z, x < 8 → z < 8 → G x z = mn (F x z) (F x k + F k z)) : FW h bar (k + 1) G := by
  obtain ⟨f1, f2, f3, f4, f5⟩ := hF
  have hle : ∀ x z, x < 8 → z < 8 → G x z ≤ F x z ∧ G x z ≤ F x k + F k z ∧ (G x z = F x z ∨ G x z = F x k + F k z) := fun x z hx hz => by rw [hG x z hx hz]; exact mn_le _ _
  refine ⟨fun x hx => ?_, fun x y hx hy => ?_, fun t x h1 h2 h3 h4 => ?_, fun x y hx hy => ?_, fun x y z hx hy hz => ?_⟩
  · have := (hle x x hx hx).1
    have := f1 x hx
    omega
  · have := (hle x y hx hy).1
    have := f2 x y hx hy
    omega
  · have := (hle x _ h3 h4).1
    have := f3 t x h1 h2 h3 h4
    omega
  · have h1 := f4 x y hx hy
    have h2 := f4 x k hx hk
    have h3 := f4 k y hk hy
    have h4 := dv_tri (bar := bar) (z := y) H hx hk
    have h5 := (hle x y hx hy).2.2
    omega
  · have a1 := hle x z hx hz
    have y8 : y < 8 := by omega
    have a2 := hle x y hx y8
    have a3 := hle y z y8 hz
    by_cases e : y = k
    · subst e
      have h0 := f1 y hk
      omega
    · have b1 := f5 x y z hx (by omega) hz
      have b2 := f5 k y z hk (by omega) hz
      have b3 := f5 x y k hx (by omega) hk
      omega
theorem FW_end {h : Hse} {bar : Int32} (H : HOK h) {F : Nat → Nat → Nat} (hF : FW h bar 8 F) {x y : Nat} (hx : x < 8) (hy : y < 8) : F x y = dv h bar x y :=
  Nat.le_antisymm (fw_low H hF.1 hF.2.1 hF.2.2.1 hF.2.2.2.2 hx hy) (hF.2.2.2.1 x y hx hy)
def mtx (M : Mem) (p : Nat) (F : Nat → Nat → Nat) : Prop := ∀ x y, x < 8 → y < 8 → M p (8 * x + y) = nI (F x y)
def fu2 (F : Nat → Nat → Nat) (a b v : Nat) : Nat → Nat → Nat := fun x y => if x = a ∧ y = b then v else F x y
theorem fu2_s (F : Nat → Nat → Nat) (a b v : Nat) : fu2 F a b v a b = v := if_pos ⟨rfl, rfl⟩
theorem fu2_n {F : Nat → Nat → Nat} {a b v x y : Nat} (h : x ≠ a ∨ y ≠ b) : fu2 F a b v x y = F x y := if_neg (fun e => h.elim (fun c => c e.1) (fun c => c e.2))
theorem mtx_up {M : Mem} {p a b v : Nat} {F : Nat → Nat → Nat} {w : Int32} (h : mtx M p F) (hb : b < 8) (hw : w = nI v) : mtx (mput M p (8 * a + b) w) p (fu2 F a b v) := by
  intro x y hx hy
  by_cases e : x = a ∧ y = b
  · rw [e.1, e.2, mp_s, fu2_s]; exact hw
  · rw [mp_i _ (by omega), fu2_n (by omega)]; exact h x y hx hy
theorem mn_i {a b : Nat} (ha : a < 2 ^ 31) (hb : b < 2 ^ 31) : (if nI b < nI a then nI b else nI a) = nI (mn a b) := by
  unfold mn
  by_cases c : b < a
  · rw [if_pos (nI_lt c ha), if_pos c]
  · rw [if_neg (nI_nlt (by omega) hb), if_neg c]
theorem e8 (a b : Nat) : Int32.ofInt 8 * nI a + nI b = nI (8 * a + b) := by
  rw [show Int32.ofInt 8 = nI 8 from rfl, pk_mul, nI_add]
/-- laying one tube -/
def lay (h : Hse) (t : Nat) (F : Nat → Nat → Nat) : Nat → Nat → Nat := if qk h t = 120 then F else if qk h t = 62 then fu2 F (qa h t) (qb h t) (mn (F (qa h t) (qb h t)) (ql h t)) else fu2 (fu2 F (qa h t) (qb h t) (mn (F (qa h t) (qb h t)) (ql h t))) (qb h t) (qa h t) (mn (fu2 F (qa h t) (qb h t) (mn (F (qa h t) (qb h t)) (ql h t)) (qb h t) (qa h t)) (ql h t))
def LY (h : Hse) (bar : Int32) (j : Nat) (F : Nat → Nat → Nat) : Prop := (∀ x, x < 8 → F x x = 0) ∧ (∀ x y, x < 8 → y < 8 → F x y ≤ 99) ∧ (∀ t x, t < j → fre bar t → x < 8 → go h t x < 8 → F x (go h t x) ≤ ql h t) ∧ ∀ x y, x < 8 → y < 8 → dv h bar x y ≤ F x y
theorem fu2_mn {F : Nat → Nat → Nat} {a b v : Nat} (x y : Nat) : fu2 F a b (mn (F a b) v) x y ≤ F x y := by
  by_cases e : x = a ∧ y = b
  · rw [e.1, e.2, fu2_s]; exact (mn_le _ _).1
  · rw [fu2_n (by omega)]; omega
theorem LY_up {h : Hse} {bar : Int32} (H : HOK h) {j : Nat} {F : Nat → Nat → Nat} {t a : Nat} (hF : LY h bar j F) (ht : t < qn h) (hf : fre bar t) (ha : a < 8) (hg : go h t a < 8) : LY h bar j (fu2 F a (go h t a) (mn (F a (go h t a)) (ql h t))) ∧ fu2 F a (go h t a) (mn (F a (go h t a)) (ql h t)) a (go h t a) ≤ ql h t := by
  obtain ⟨f1, f2, f3, f4⟩ := hF
  have hne := go_ne H ht ha
  refine ⟨⟨fun x hx => ?_, fun x y hx hy => Nat.le_trans (fu2_mn x y) (f2 x y hx hy), fun t' x h1 h2 h3 h4 => Nat.le_trans (fu2_mn x _) (f3 t' x h1 h2 h3 h4), fun x y hx hy => ?_⟩, ?_⟩
  · rw [fu2_n (by omega)]; exact f1 x hx
  · by_cases e : x = a ∧ y = go h t a
    · rw [e.1, e.2, fu2_s]
      have h1 := f4 a (go h t a) ha hg
      have h2 := dv_ed (y := go h t a) H ht hf ha hg
      rw [dv_0 H] at h2
      rcases (mn_le (F a (go h t a)) (ql h t)).2.2 with e2 | e2 <;> rw [e2] <;> omega
    · rw [fu2_n (by omega)]; exact f4 x y hx hy
  · rw [fu2_s]; exact (mn_le _ _).2.1
theorem LY_lay {h : Hse} {bar : Int32} (H : HOK h) {j : Nat} {F : Nat → Nat → Nat} (hF : LY h bar j F) (hj : j < qn h) (hf : fre bar j) : LY h bar (j + 1) (lay h j F) := by
  have hq := H.2 j hj
  have ga := go_a (h := h) j
  have gb := go_b H hj
  have ext : ∀ G, LY h bar j G → (go h j (qa h j) < 8 → G (qa h j) (go h j (qa h j)) ≤ ql h j) → (go h j (qb h j) < 8 → G (qb h j) (go h j (qb h j)) ≤ ql h j) → LY h bar (j + 1) G := by
    intro G hG e1 e2
    refine ⟨hG.1, hG.2.1, fun t x h1 h2 h3 h4 => ?_, hG.2.2.2⟩
    by_cases e : t = j
    · subst e
      by_cases ea : x = qa h t
      · subst ea; exact e1 h4
      · by_cases eb : x = qb h t
        · subst eb; exact e2 h4
        · rw [go_x (fun e => ea e.symm) (fun e => eb e.symm)] at h4; omega
    · exact hG.2.2.1 t x (by omega) h2 h3 h4
  unfold lay
  by_cases c1 : qk h j = 120
  · rw [if_pos c1] at ga gb ⊢
    exact ext F hF (by omega) (by omega)
  · rw [if_neg c1] at ga gb ⊢
    have u1 := LY_up H hF hj hf hq.1 (by rw [ga]; exact hq.2.1)
    rw [ga] at u1
    by_cases c2 : qk h j = 62
    · rw [if_pos c2] at gb ⊢
      refine ext _ u1.1 (fun _ => by rw [ga]; exact u1.2) (by omega)
    · rw [if_neg c2] at gb ⊢
      have u2 := LY_up H u1.1 hj hf hq.2.1 (by rw [gb]; exact hq.1)
      rw [gb] at u2
      refine ext _ u2.1 (fun _ => ?_) (fun _ => by rw [gb]; exact u2.2)
      rw [ga]
      exact Nat.le_trans (fu2_mn _ _) u1.2
theorem LY_FW {h : Hse} {bar : Int32} {F : Nat → Nat → Nat} (hF : LY h bar (qn h) F) : FW h bar 0 F := ⟨hF.1, hF.2.1, hF.2.2.1, hF.2.2.2, fun x y z _ hy => by omega⟩
def fw0 (x y : Nat) : Nat := if x = y then 0 else 99
theorem LY_0 {h : Hse} {bar : Int32} (H : HOK h) : LY h bar 0 fw0 := by
  refine ⟨fun x _ => if_pos rfl, fun x y _ _ => by unfold fw0; split <;> omega, fun t x h1 => by omega, fun x y hx hy => ?_⟩
  unfold fw0
  by_cases e : x = y
  · subst e; rw [if_pos rfl, dv_0 H]; omega
  · rw [if_neg e]; exact dv_99 H y hx
/-- the matrix as it is carried -/
def cut (car v : Nat) : Nat := if v ≤ car then v else 99
noncomputable def dc (h : Hse) (bar : Int32) (car x y : Nat) : Nat := cut car (dv h bar x y)

section FWC70
variable {M0 : Mem} {h : Hse} {bar : Int32} {L : LMem} {K : Mem → LMem → Prop}
def cD70 : Nat → Nat → Bool := fun p _ => Nat.beq p 71
theorem HC.d70 {M M1 : Mem} (hC : HC M h) (hF : Fr cD70 M M1) : HC M1 h := hC.fr hF rfl (fun _ => rfl) (fun _ => rfl) (fun _ => rfl) (fun _ => rfl)
theorem lay_spec70 {M : Mem} {F : Nat → Nat → Nat} (H : HOK h) (hC : HC M h) (hm : mtx M 71 F) (h99 : ∀ x y, x < 8 → y < 8 → F x y ≤ 99) {t : Nat} (ht : t < qn h) : mtx (g_X1_layTube_70 M (nI t)) 71 (lay h t F) ∧ Fr cD70 M (g_X1_layTube_70 M (nI t)) := by
  have hq := H.2 t ht
  have h13 := H.1
  obtain ⟨a1, a2, a3, a4⟩ := hC.2 t ht
  have et : (nI t).toNatClampNeg = t := nI_clamp (by omega)
  have c1 : (nI (8 * qa h t + qb h t)).toNatClampNeg = 8 * qa h t + qb h t := nI_clamp (by omega)
  have c2 : (nI (8 * qb h t + qa h t)).toNatClampNeg = 8 * qb h t + qa h t := nI_clamp (by omega)
  have b1 := h99 _ _ hq.1 hq.2.1
  have b2 := h99 _ _ hq.2.1 hq.1
  unfold g_X1_layTube_70 lay
  simp only [et, a1, a2, a3, a4, e8, c1, c2]
  rw [hm _ _ hq.1 hq.2.1, mn_i (by omega) (by omega)]
  by_cases k1 : qk h t = 120
  · rw [if_pos k1, if_pos (by rw [k1]; rfl)]
    exact ⟨hm, Fr.rf _ _⟩
  · rw [if_neg k1, if_neg (show ¬ nI (qk h t) = Int32.ofInt 120 from fun e => k1 ((nI_eq (b := 120) (by omega) (by omega)).mp e))]
    have m1 := mtx_up (w := nI (mn (F (qa h t) (qb h t)) (ql h t))) hm hq.2.1 rfl (a := qa h t)
    by_cases k2 : qk h t = 62
    · rw [if_pos k2, if_pos (by rw [k2]; rfl)]
      exact ⟨m1, (Fr.rf _ _).put rfl⟩
    · rw [if_neg k2, if_neg (show ¬ nI (qk h t) = Int32.ofInt 62 from fun e => k2 ((nI_eq (b := 62) (by omega) (by omega)).mp e))]
      have b3 := fu2_mn (F := F) (a := qa h t) (b := qb h t) (v := ql h t) (qb h t) (qa h t)
      rw [m1 _ _ hq.2.1 hq.1, mn_i (by omega) (by omega)]
      exact ⟨mtx_up m1 hq.1 rfl, ((Fr.rf _ _).put rfl).put rfl⟩
theorem hl_goBy70_10 {k x : Nat} (hk : k < 8) (hx : x < 8) {F : Nat → Nat → Nat} (h99 : ∀ x y, x < 8 → y < 8 → F x y ≤ 99) (h0 : F k k = 0) {C : Int32 → Int32 → Mem → LMem → Prop} (kk : ∀ M G, Fr cD70 M0 M → mtx M 71 G → (∀ u z, u < 8 → z < 8 → G u z = if u < x + 1 then mn (F u z) (F u k + F k z) else F u z) → C (nI k) (nI (x + 1)) M L) :
    ∀ (f y : Nat) (M : Mem) (G : Nat → Nat → Nat), y ≤ 8 → 8 < f + y → Fr cD70 M0 M → mtx M 71 G → (∀ u z, u < 8 → z < 8 → G u z = if u < x ∨ (u = x ∧ z < y) then mn (F u z) (F u k + F k z) else F u z) → PL_X1_goBy_70_10 K C f (nI k) (nI x) (nI y) M L := by
  intro f
  induction f with
  | zero => intro y M G h1 h2; omega
  | succ f ih =>
    intro y M G h1 h2 hF hm hG
    unfold PL_X1_goBy_70_10
    rw [nI_s, nI_s]
    refine pk_le 8 y (fun c => ?_) (fun c => ?_)
    · refine kk M G hF hm (fun u z hu hz => ?_)
      rw [hG u z hu hz]
      by_cases e : u < x + 1
      · rw [if_pos e, if_pos (by omega)]
      · rw [if_neg e, if_neg (by omega)]
    · have e1 : G x k = F x k := by
        rw [hG x k hx hk]
        split
        · unfold mn; rw [h0, if_neg (by omega)]
        · rfl
      have e2 : G k y = F k y := by
        rw [hG k y hk c]
        split
        · unfold mn; rw [h0, if_neg (by omega)]
        · rfl
      have e3 : G x y = F x y := by rw [hG x y hx c, if_neg (by omega)]
      have b1 := h99 x k hx hk
      have b2 := h99 k y hk c
      have b3 := h99 x y hx c
      rw [e8, e8, e8, nI_clamp (by omega : 8 * x + k < 2 ^ 31), nI_clamp (by omega : 8 * k + y < 2 ^ 31), nI_clamp (by omega : 8 * x + y < 2 ^ 31), hm x k hx hk, hm k y hk c, hm x y hx c, e1, e2, e3, nI_add, mn_i (by omega) (by omega)]
      refine ⟨pk_in (8 * x + k) 64 (by omega), pk_in (8 * k + y) 64 (by omega), pk_in (8 * x + y) 64 (by omega), ih (y + 1) _ (fu2 G x y (mn (F x y) (F x k + F k y))) (by omega) (by omega) (hF.put rfl) (mtx_up hm c rfl) (fun u z hu hz => ?_)⟩
      by_cases e : u = x ∧ z = y
      · rw [e.1, e.2, fu2_s, if_pos (by omega)]
      · rw [fu2_n (by omega), hG u z hu hz]
        by_cases e5 : u < x ∨ (u = x ∧ z < y)
        · rw [if_pos e5, if_pos (by omega)]
        · rw [if_neg e5, if_neg (by omega)]
theorem hl_goBy70_2 {k : Nat} (hk : k < 8) {F : Nat → Nat → Nat} (h99 : ∀ x y, x < 8 → y < 8 → F x y ≤ 99) (h0 : F k k = 0) (kk : ∀ M G, Fr cD70 M0 M → mtx M 71 G → (∀ u z, u < 8 → z < 8 → G u z = mn (F u z) (F u k + F k z)) → K M L) :
    ∀ (f x : Nat) (M : Mem) (G : Nat → Nat → Nat), x ≤ 8 → 8 < f + x → Fr cD70 M0 M → mtx M 71 G → (∀ u z, u < 8 → z < 8 → G u z = if u < x then mn (F u z) (F u k + F k z) else F u z) → PL_X1_goBy_70_2 K f (nI k) (nI x) M L := by
  intro f
  induction f with
  | zero => intro x M G h1 h2; omega
  | succ f ih =>
    intro x M G h1 h2 hF hm hG
    unfold PL_X1_goBy_70_2
    refine pk_le 8 x (fun c => ?_) (fun c => ?_)
    · refine kk M G hF hm (fun u z hu hz => ?_)
      rw [hG u z hu hz, if_pos (by omega)]
    · refine hl_goBy70_10 (M0 := M) hk c h99 h0 (fun M2 G2 hF2 hm2 hG2 => ih (x + 1) M2 G2 (by omega) (by omega) (hF.tr hF2) hm2 hG2) 100000 0 M G (by omega) (by omega) (Fr.rf _ _) hm (fun u z hu hz => ?_)
      rw [hG u z hu hz]
      by_cases e : u < x
      · rw [if_pos e, if_pos (by omega)]
      · rw [if_neg e, if_neg (by omega)]
theorem h_goBy70 {M : Mem} {k : Nat} (hk : k < 8) {F : Nat → Nat → Nat} (h99 : ∀ x y, x < 8 → y < 8 → F x y ≤ 99) (h0 : F k k = 0) (hm : mtx M 71 F) (kk : ∀ M2 G, Fr cD70 M M2 → mtx M2 71 G → (∀ u z, u < 8 → z < 8 → G u z = mn (F u z) (F u k + F k z)) → K M2 L) : P_X1_goBy_70 (nI k) M L K := by
  unfold P_X1_goBy_70
  exact hl_goBy70_2 hk h99 h0 kk 100000 0 M F (by omega) (by omega) (Fr.rf _ _) hm (fun u z hu hz => by rw [if_neg (by omega)])
theorem hl_measure70_93 {v2 : Int32} {F : Nat → Nat → Nat} {car : Nat} (h99 : ∀ x y, x < 8 → y < 8 → F x y ≤ 99) (hc : car ≤ 60) (hcar : M0 3 1 = nI car) (kk : ∀ M, Fr cD70 M0 M → mtx M 71 (fun x y => cut car (F x y)) → K M L) :
    ∀ (f i : Nat) (M : Mem) (G : Nat → Nat → Nat), i ≤ 64 → 64 < f + i → Fr cD70 M0 M → mtx M 71 G → (∀ x y, x < 8 → y < 8 → G x y = if 8 * x + y < i then cut car (F x y) else F x y) → PL_X1_measure_70_93 K f v2 (nI i) M L := by
  intro f
  induction f with
  | zero => intro i M G h1 h2; omega
  | succ f ih =>
    intro i M G h1 h2 hF hm hG
    unfold PL_X1_measure_70_93
    refine pk_le 64 i (fun c => ?_) (fun c => ⟨pk_in i 64 c, ?_⟩)
    · refine kk M hF (fun x y hx hy => ?_)
      rw [hm x y hx hy, hG x y hx hy, if_pos (by omega)]
    · have hx : i / 8 < 8 := by omega
      have hy : i % 8 < 8 := by omega
      have ei : 8 * (i / 8) + i % 8 = i := by omega
      have e3 : M 71 i = nI (F (i / 8) (i % 8)) := by
        have := hm _ _ hx hy
        rw [ei] at this
        rw [this, hG _ _ hx hy, if_neg (by omega)]
      have b := h99 _ _ hx hy
      have e4 : f_X1_carried M (nI (F (i / 8) (i % 8))) (M 3 1) = nI (cut car (F (i / 8) (i % 8))) := by
        unfold f_X1_carried cut
        rw [hF 3 1 rfl, hcar]
        by_cases e : F (i / 8) (i % 8) ≤ car
        · rw [if_pos e, if_neg (nI_nlt e (by omega))]
        · rw [if_neg e, if_pos (nI_lt (by omega) (by omega))]; rfl
      rw [nI_s, nI_clamp (by omega), e3, e4]
      have hm2 := mtx_up (a := i / 8) (v := cut car (F (i / 8) (i % 8))) hm hy rfl
      rw [ei] at hm2
      refine ih (i + 1) _ _ (by omega) (by omega) (hF.put rfl) hm2 (fun x y hx' hy' => ?_)
      by_cases e : x = i / 8 ∧ y = i % 8
      · rw [e.1, e.2, fu2_s, if_pos (by omega)]
      · rw [fu2_n (by omega), hG x y hx' hy']
        by_cases e5 : 8 * x + y < i
        · rw [if_pos e5, if_pos (by omega)]
        · rw [if_neg e5, if_neg (by omega)]
theorem hl_measure70_74 (H : HOK h) {v2 : Int32} {car : Nat} (hc : car ≤ 60) (hcar : M0 3 1 = nI car) (kk : ∀ M, Fr cD70 M0 M → mtx M 71 (dc h bar car) → K M L) :
    ∀ (f k : Nat) (M : Mem) (F : Nat → Nat → Nat), k ≤ 8 → 8 < f + k → Fr cD70 M0 M → mtx M 71 F → FW h bar k F → PL_X1_measure_70_74 K f v2 (nI k) M L := by
  intro f
  induction f with
  | zero => intro k M F h1 h2; omega
  | succ f ih =>
    intro k M F h1 h2 hF hm hW
    unfold PL_X1_measure_70_74
    refine pk_le 8 k (fun c => ?_) (fun c => ?_)
    · have e : k = 8 := by omega
      subst e
      refine hl_measure70_93 (M0 := M) hW.2.1 hc ((hF 3 1 rfl).trans hcar) (fun M2 hF2 hm2 => kk M2 (hF.tr hF2) (fun x y hx hy => ?_)) 100000 0 M F (by omega) (by omega) (Fr.rf _ _) hm (fun x y _ _ => by rw [if_neg (by omega)])
      rw [hm2 x y hx hy]
      show nI (cut car (F x y)) = nI (dc h bar car x y)
      unfold dc
      rw [FW_end H hW hx hy]
    · refine h_goBy70 c hW.2.1 (hW.1 k c) hm (fun M2 G hF2 hm2 hG => ?_)
      rw [nI_s]
      exact ih (k + 1) M2 G (by omega) (by omega) (hF.tr hF2) hm2 (FW_step H c hW hG)
theorem hl_measure70_38 (H : HOK h) (h12 : qn h ≤ 12) (hC : HC M0 h) {car : Nat} (hc : car ≤ 60) (hcar : M0 3 1 = nI car) (kk : ∀ M, Fr cD70 M0 M → mtx M 71 (dc h bar car) → K M L) :
    ∀ (f j : Nat) (M : Mem) (F : Nat → Nat → Nat), j ≤ qn h → qn h < f + j → Fr cD70 M0 M → mtx M 71 F → LY h bar j F → PL_X1_measure_70_38 K f bar (nI j) M L := by
  intro f
  induction f with
  | zero => intro j M F h1 h2; omega
  | succ f ih =>
    intro j M F h1 h2 hF hm hY
    have hC1 := hC.d70 hF
    unfold PL_X1_measure_70_38
    refine pk_le (qn h) j (fun c => ?_) (fun c => ?_) hC1.1
    · have e : j = qn h := by omega
      subst e
      exact hl_measure70_74 H hc hcar kk 100000 0 M F (by omega) (by omega) hF hm (LY_FW hY)
    · have hq := H.2 j c
      obtain ⟨a1, a2, a3, a4⟩ := hC1.2 j c
      rw [nI_s]
      refine br_c (fun c2 => ?_) (fun c2 => ?_)
      · obtain ⟨b1, b2⟩ := lay_spec70 H hC1 hm hY.2.1 c
        refine ⟨pk_in j 12 (by omega), fun _ => ?_, fun _ _ => ?_, ih (j + 1) _ _ (by omega) (by omega) (hF.tr b2) b1 (LY_lay H hY c c2)⟩
        · rw [nI_clamp (by omega), a1, a2, e8]; exact pk_in (8 * qa h j + qb h j) 64 (by omega)
        · rw [nI_clamp (by omega), a1, a2, e8]; exact pk_in (8 * qb h j + qa h j) 64 (by omega)
      · refine ih (j + 1) M F (by omega) (by omega) hF hm ⟨hY.1, hY.2.1, fun t x g1 g2 g3 g4 => ?_, hY.2.2.2⟩
        by_cases e : t = j
        · subst e; exact absurd g2 c2
        · exact hY.2.2.1 t x (by omega) g2 g3 g4
theorem hl_measure70_2 (H : HOK h) (h12 : qn h ≤ 12) (hC : HC M0 h) {car : Nat} (hc : car ≤ 60) (hcar : M0 3 1 = nI car) (kk : ∀ M, Fr cD70 M0 M → mtx M 71 (dc h bar car) → K M L) :
    ∀ (f i : Nat) (M : Mem), i ≤ 64 → 64 < f + i → Fr cD70 M0 M → (∀ q, q < i → M 71 q = nI (if q % 9 = 0 then 0 else 99)) → PL_X1_measure_70_2 K f bar (nI i) M L := by
  intro f
  induction f with
  | zero => intro i M h1 h2; omega
  | succ f ih =>
    intro i M h1 h2 hF hm
    unfold PL_X1_measure_70_2
    refine pk_le 64 i (fun c => ?_) (fun c => ?_)
    · refine hl_measure70_38 H h12 hC hc hcar kk 100000 0 M fw0 (by omega) (by omega) hF (fun x y hx hy => ?_) (LY_0 H)
      rw [hm _ (by omega)]
      unfold fw0
      by_cases e : x = y
      · rw [if_pos e, if_pos (by omega)]
      · rw [if_neg e, if_neg (by omega)]
    · have er : nI i - nI i / Int32.ofInt 9 * Int32.ofInt 9 = nI (i % 9) := pk_rem (d := 9) (by omega) (by decide) (by decide)
      rw [er, nI_s, nI_clamp (by omega)]
      refine pk_eq (i % 9) 0 (fun c2 => ⟨pk_in i 64 c, ih (i + 1) _ (by omega) (by omega) (hF.put rfl) (fun q hq => ?_)⟩) (fun c2 => ⟨pk_in i 64 c, ih (i + 1) _ (by omega) (by omega) (hF.put rfl) (fun q hq => ?_)⟩) rfl rfl (by omega) (by omega)
      · by_cases e : q = i
        · rw [e, mp_s, if_pos c2]; rfl
        · rw [mp_i _ e]; exact hm q (by omega)
      · by_cases e : q = i
        · rw [e, mp_s, if_neg c2]; rfl
        · rw [mp_i _ e]; exact hm q (by omega)
theorem h_measure70 (H : HOK h) (h12 : qn h ≤ 12) (hC : HC M0 h) {car : Nat} (hc : car ≤ 60) (hcar : M0 3 1 = nI car) (kk : ∀ M, Fr cD70 M0 M → mtx M 71 (dc h bar car) → K M L) : P_X1_measure_70 bar M0 L K := by
  unfold P_X1_measure_70
  exact hl_measure70_2 H h12 hC hc hcar kk 100000 0 M0 (by omega) (by omega) (Fr.rf _ _) (fun q hq => by omega)
end FWC70

section FWC72
variable {M0 : Mem} {h : Hse} {bar : Int32} {L : LMem} {K : Mem → LMem → Prop}
def cD72 : Nat → Nat → Bool := fun p _ => Nat.beq p 73
theorem HC.d72 {M M1 : Mem} (hC : HC M h) (hF : Fr cD72 M M1) : HC M1 h := hC.fr hF rfl (fun _ => rfl) (fun _ => rfl) (fun _ => rfl) (fun _ => rfl)
theorem lay_spec72 {M : Mem} {F : Nat → Nat → Nat} (H : HOK h) (hC : HC M h) (hm : mtx M 73 F) (h99 : ∀ x y, x < 8 → y < 8 → F x y ≤ 99) {t : Nat} (ht : t < qn h) : mtx (g_X1_layTube_72 M (nI t)) 73 (lay h t F) ∧ Fr cD72 M (g_X1_layTube_72 M (nI t)) := by
  have hq := H.2 t ht
  have h13 := H.1
  obtain ⟨a1, a2, a3, a4⟩ := hC.2 t ht
  have et : (nI t).toNatClampNeg = t := nI_clamp (by omega)
  have c1 : (nI (8 * qa h t + qb h t)).toNatClampNeg = 8 * qa h t + qb h t := nI_clamp (by omega)
  have c2 : (nI (8 * qb h t + qa h t)).toNatClampNeg = 8 * qb h t + qa h t := nI_clamp (by omega)
  have b1 := h99 _ _ hq.1 hq.2.1
  have b2 := h99 _ _ hq.2.1 hq.1
  unfold g_X1_layTube_72 lay
  simp only [et, a1, a2, a3, a4, e8, c1, c2]
  rw [hm _ _ hq.1 hq.2.1, mn_i (by omega) (by omega)]
  by_cases k1 : qk h t = 120
  · rw [if_pos k1, if_pos (by rw [k1]; rfl)]
    exact ⟨hm, Fr.rf _ _⟩
  · rw [if_neg k1, if_neg (show ¬ nI (qk h t) = Int32.ofInt 120 from fun e => k1 ((nI_eq (b := 120) (by omega) (by omega)).mp e))]
    have m1 := mtx_up (w := nI (mn (F (qa h t) (qb h t)) (ql h t))) hm hq.2.1 rfl (a := qa h t)
    by_cases k2 : qk h t = 62
    · rw [if_pos k2, if_pos (by rw [k2]; rfl)]
      exact ⟨m1, (Fr.rf _ _).put rfl⟩
    · rw [if_neg k2, if_neg (show ¬ nI (qk h t) = Int32.ofInt 62 from fun e => k2 ((nI_eq (b := 62) (by omega) (by omega)).mp e))]
      have b3 := fu2_mn (F := F) (a := qa h t) (b := qb h t) (v := ql h t) (qb h t) (qa h t)
      rw [m1 _ _ hq.2.1 hq.1, mn_i (by omega) (by omega)]
      exact ⟨mtx_up m1 hq.1 rfl, ((Fr.rf _ _).put rfl).put rfl⟩
theorem hl_goBy72_10 {k x : Nat} (hk : k < 8) (hx : x < 8) {F : Nat → Nat → Nat} (h99 : ∀ x y, x < 8 → y < 8 → F x y ≤ 99) (h0 : F k k = 0) {C : Int32 → Int32 → Mem → LMem → Prop} (kk : ∀ M G, Fr cD72 M0 M → mtx M 73 G → (∀ u z, u < 8 → z < 8 → G u z = if u < x + 1 then mn (F u z) (F u k + F k z) else F u z) → C (nI k) (nI (x + 1)) M L) :
    ∀ (f y : Nat) (M : Mem) (G : Nat → Nat → Nat), y ≤ 8 → 8 < f + y → Fr cD72 M0 M → mtx M 73 G → (∀ u z, u < 8 → z < 8 → G u z = if u < x ∨ (u = x ∧ z < y) then mn (F u z) (F u k + F k z) else F u z) → PL_X1_goBy_72_10 K C f (nI k) (nI x) (nI y) M L := by
  intro f
  induction f with
  | zero => intro y M G h1 h2; omega
  | succ f ih =>
    intro y M G h1 h2 hF hm hG
    unfold PL_X1_goBy_72_10
    rw [nI_s, nI_s]
    refine pk_le 8 y (fun c => ?_) (fun c => ?_)
    · refine kk M G hF hm (fun u z hu hz => ?_)
      rw [hG u z hu hz]
      by_cases e : u < x + 1
      · rw [if_pos e, if_pos (by omega)]
      · rw [if_neg e, if_neg (by omega)]
    · have e1 : G x k = F x k := by
        rw [hG x k hx hk]
        split
        · unfold mn; rw [h0, if_neg (by omega)]
        · rfl
      have e2 : G k y = F k y := by
        rw [hG k y hk c]
        split
        · unfold mn; rw [h0, if_neg (by omega)]
        · rfl
      have e3 : G x y = F x y := by rw [hG x y hx c, if_neg (by omega)]
      have b1 := h99 x k hx hk
      have b2 := h99 k y hk c
      have b3 := h99 x y hx c
      rw [e8, e8, e8, nI_clamp (by omega : 8 * x + k < 2 ^ 31), nI_clamp (by omega : 8 * k + y < 2 ^ 31), nI_clamp (by omega : 8 * x + y < 2 ^ 31), hm x k hx hk, hm k y hk c, hm x y hx c, e1, e2, e3, nI_add, mn_i (by omega) (by omega)]
      refine ⟨pk_in (8 * x + k) 64 (by omega), pk_in (8 * k + y) 64 (by omega), pk_in (8 * x + y) 64 (by omega), ih (y + 1) _ (fu2 G x y (mn (F x y) (F x k + F k y))) (by omega) (by omega) (hF.put rfl) (mtx_up hm c rfl) (fun u z hu hz => ?_)⟩
      by_cases e : u = x ∧ z = y
      · rw [e.1, e.2, fu2_s, if_pos (by omega)]
      · rw [fu2_n (by omega), hG u z hu hz]
        by_cases e5 : u < x ∨ (u = x ∧ z < y)
        · rw [if_pos e5, if_pos (by omega)]
        · rw [if_neg e5, if_neg (by omega)]
theorem hl_goBy72_2 {k : Nat} (hk : k < 8) {F : Nat → Nat → Nat} (h99 : ∀ x y, x < 8 → y < 8 → F x y ≤ 99) (h0 : F k k = 0) (kk : ∀ M G, Fr cD72 M0 M → mtx M 73 G → (∀ u z, u < 8 → z < 8 → G u z = mn (F u z) (F u k + F k z)) → K M L) :
    ∀ (f x : Nat) (M : Mem) (G : Nat → Nat → Nat), x ≤ 8 → 8 < f + x → Fr cD72 M0 M → mtx M 73 G → (∀ u z, u < 8 → z < 8 → G u z = if u < x then mn (F u z) (F u k + F k z) else F u z) → PL_X1_goBy_72_2 K f (nI k) (nI x) M L := by
  intro f
  induction f with
  | zero => intro x M G h1 h2; omega
  | succ f ih =>
    intro x M G h1 h2 hF hm hG
    unfold PL_X1_goBy_72_2
    refine pk_le 8 x (fun c => ?_) (fun c => ?_)
    · refine kk M G hF hm (fun u z hu hz => ?_)
      rw [hG u z hu hz, if_pos (by omega)]
    · refine hl_goBy72_10 (M0 := M) hk c h99 h0 (fun M2 G2 hF2 hm2 hG2 => ih (x + 1) M2 G2 (by omega) (by omega) (hF.tr hF2) hm2 hG2) 100000 0 M G (by omega) (by omega) (Fr.rf _ _) hm (fun u z hu hz => ?_)
      rw [hG u z hu hz]
      by_cases e : u < x
      · rw [if_pos e, if_pos (by omega)]
      · rw [if_neg e, if_neg (by omega)]
theorem h_goBy72 {M : Mem} {k : Nat} (hk : k < 8) {F : Nat → Nat → Nat} (h99 : ∀ x y, x < 8 → y < 8 → F x y ≤ 99) (h0 : F k k = 0) (hm : mtx M 73 F) (kk : ∀ M2 G, Fr cD72 M M2 → mtx M2 73 G → (∀ u z, u < 8 → z < 8 → G u z = mn (F u z) (F u k + F k z)) → K M2 L) : P_X1_goBy_72 (nI k) M L K := by
  unfold P_X1_goBy_72
  exact hl_goBy72_2 hk h99 h0 kk 100000 0 M F (by omega) (by omega) (Fr.rf _ _) hm (fun u z hu hz => by rw [if_neg (by omega)])
theorem hl_measure72_93 {v2 : Int32} {F : Nat → Nat → Nat} {car : Nat} (h99 : ∀ x y, x < 8 → y < 8 → F x y ≤ 99) (hc : car ≤ 60) (hcar : M0 3 1 = nI car) (kk : ∀ M, Fr cD72 M0 M → mtx M 73 (fun x y => cut car (F x y)) → K M L) :
    ∀ (f i : Nat) (M : Mem) (G : Nat → Nat → Nat), i ≤ 64 → 64 < f + i → Fr cD72 M0 M → mtx M 73 G → (∀ x y, x < 8 → y < 8 → G x y = if 8 * x + y < i then cut car (F x y) else F x y) → PL_X1_measure_72_93 K f v2 (nI i) M L := by
  intro f
  induction f with
  | zero => intro i M G h1 h2; omega
  | succ f ih =>
    intro i M G h1 h2 hF hm hG
    unfold PL_X1_measure_72_93
    refine pk_le 64 i (fun c => ?_) (fun c => ⟨pk_in i 64 c, ?_⟩)
    · refine kk M hF (fun x y hx hy => ?_)
      rw [hm x y hx hy, hG x y hx hy, if_pos (by omega)]
    · have hx : i / 8 < 8 := by omega
      have hy : i % 8 < 8 := by omega
      have ei : 8 * (i / 8) + i % 8 = i := by omega
      have e3 : M 73 i = nI (F (i / 8) (i % 8)) := by
        have := hm _ _ hx hy
        rw [ei] at this
        rw [this, hG _ _ hx hy, if_neg (by omega)]
      have b := h99 _ _ hx hy
      have e4 : f_X1_carried M (nI (F (i / 8) (i % 8))) (M 3 1) = nI (cut car (F (i / 8) (i % 8))) := by
        unfold f_X1_carried cut
        rw [hF 3 1 rfl, hcar]
        by_cases e : F (i / 8) (i % 8) ≤ car
        · rw [if_pos e, if_neg (nI_nlt e (by omega))]
        · rw [if_neg e, if_pos (nI_lt (by omega) (by omega))]; rfl
      rw [nI_s, nI_clamp (by omega), e3, e4]
      have hm2 := mtx_up (a := i / 8) (v := cut car (F (i / 8) (i % 8))) hm hy rfl
      rw [ei] at hm2
      refine ih (i + 1) _ _ (by omega) (by omega) (hF.put rfl) hm2 (fun x y hx' hy' => ?_)
      by_cases e : x = i / 8 ∧ y = i % 8
      · rw [e.1, e.2, fu2_s, if_pos (by omega)]
      · rw [fu2_n (by omega), hG x y hx' hy']
        by_cases e5 : 8 * x + y < i
        · rw [if_pos e5, if_pos (by omega)]
        · rw [if_neg e5, if_neg (by omega)]
theorem hl_measure72_74 (H : HOK h) {v2 : Int32} {car : Nat} (hc : car ≤ 60) (hcar : M0 3 1 = nI car) (kk : ∀ M, Fr cD72 M0 M → mtx M 73 (dc h bar car) → K M L) :
    ∀ (f k : Nat) (M : Mem) (F : Nat → Nat → Nat), k ≤ 8 → 8 < f + k → Fr cD72 M0 M → mtx M 73 F → FW h bar k F → PL_X1_measure_72_74 K f v2 (nI k) M L := by
  intro f
  induction f with
  | zero => intro k M F h1 h2; omega
  | succ f ih =>
    intro k M F h1 h2 hF hm hW
    unfold PL_X1_measure_72_74
    refine pk_le 8 k (fun c => ?_) (fun c => ?_)
    · have e : k = 8 := by omega
      subst e
      refine hl_measure72_93 (M0 := M) hW.2.1 hc ((hF 3 1 rfl).trans hcar) (fun M2 hF2 hm2 => kk M2 (hF.tr hF2) (fun x y hx hy => ?_)) 100000 0 M F (by omega) (by omega) (Fr.rf _ _) hm (fun x y _ _ => by rw [if_neg (by omega)])
      rw [hm2 x y hx hy]
      show nI (cut car (F x y)) = nI (dc h bar car x y)
      unfold dc
      rw [FW_end H hW hx hy]
    · refine h_goBy72 c hW.2.1 (hW.1 k c) hm (fun M2 G hF2 hm2 hG => ?_)
      rw [nI_s]
      exact ih (k + 1) M2 G (by omega) (by omega) (hF.tr hF2) hm2 (FW_step H c hW hG)
theorem hl_measure72_38 (H : HOK h) (h12 : qn h ≤ 12) (hC : HC M0 h) {car : Nat} (hc : car ≤ 60) (hcar : M0 3 1 = nI car) (kk : ∀ M, Fr cD72 M0 M → mtx M 73 (dc h bar car) → K M L) :
    ∀ (f j : Nat) (M : Mem) (F : Nat → Nat → Nat), j ≤ qn h → qn h < f + j → Fr cD72 M0 M → mtx M 73 F → LY h bar j F → PL_X1_measure_72_38 K f bar (nI j) M L := by
  intro f
  induction f with
  | zero => intro j M F h1 h2; omega
  | succ f ih =>
    intro j M F h1 h2 hF hm hY
    have hC1 := hC.d72 hF
    unfold PL_X1_measure_72_38
    refine pk_le (qn h) j (fun c => ?_) (fun c => ?_) hC1.1
    · have e : j = qn h := by omega
      subst e
      exact hl_measure72_74 H hc hcar kk 100000 0 M F (by omega) (by omega) hF hm (LY_FW hY)
    · have hq := H.2 j c
      obtain ⟨a1, a2, a3, a4⟩ := hC1.2 j c
      rw [nI_s]
      refine br_c (fun c2 => ?_) (fun c2 => ?_)
      · obtain ⟨b1, b2⟩ := lay_spec72 H hC1 hm hY.2.1 c
        refine ⟨pk_in j 12 (by omega), fun _ => ?_, fun _ _ => ?_, ih (j + 1) _ _ (by omega) (by omega) (hF.tr b2) b1 (LY_lay H hY c c2)⟩
        · rw [nI_clamp (by omega), a1, a2, e8]; exact pk_in (8 * qa h j + qb h j) 64 (by omega)
        · rw [nI_clamp (by omega), a1, a2, e8]; exact pk_in (8 * qb h j + qa h j) 64 (by omega)
      · refine ih (j + 1) M F (by omega) (by omega) hF hm ⟨hY.1, hY.2.1, fun t x g1 g2 g3 g4 => ?_, hY.2.2.2⟩
        by_cases e : t = j
        · subst e; exact absurd g2 c2
        · exact hY.2.2.1 t x (by omega) g2 g3 g4
theorem hl_measure72_2 (H : HOK h) (h12 : qn h ≤ 12) (hC : HC M0 h) {car : Nat} (hc : car ≤ 60) (hcar : M0 3 1 = nI car) (kk : ∀ M, Fr cD72 M0 M → mtx M 73 (dc h bar car) → K M L) :
    ∀ (f i : Nat) (M : Mem), i ≤ 64 → 64 < f + i → Fr cD72 M0 M → (∀ q, q < i → M 73 q = nI (if q % 9 = 0 then 0 else 99)) → PL_X1_measure_72_2 K f bar (nI i) M L := by
  intro f
  induction f with
  | zero => intro i M h1 h2; omega
  | succ f ih =>
    intro i M h1 h2 hF hm
    unfold PL_X1_measure_72_2
    refine pk_le 64 i (fun c => ?_) (fun c => ?_)
    · refine hl_measure72_38 H h12 hC hc hcar kk 100000 0 M fw0 (by omega) (by omega) hF (fun x y hx hy => ?_) (LY_0 H)
      rw [hm _ (by omega)]
      unfold fw0
      by_cases e : x = y
      · rw [if_pos e, if_pos (by omega)]
      · rw [if_neg e, if_neg (by omega)]
    · have er : nI i - nI i / Int32.ofInt 9 * Int32.ofInt 9 = nI (i % 9) := pk_rem (d := 9) (by omega) (by decide) (by decide)
      rw [er, nI_s, nI_clamp (by omega)]
      refine pk_eq (i % 9) 0 (fun c2 => ⟨pk_in i 64 c, ih (i + 1) _ (by omega) (by omega) (hF.put rfl) (fun q hq => ?_)⟩) (fun c2 => ⟨pk_in i 64 c, ih (i + 1) _ (by omega) (by omega) (hF.put rfl) (fun q hq => ?_)⟩) rfl rfl (by omega) (by omega)
      · by_cases e : q = i
        · rw [e, mp_s, if_pos c2]; rfl
        · rw [mp_i _ e]; exact hm q (by omega)
      · by_cases e : q = i
        · rw [e, mp_s, if_neg c2]; rfl
        · rw [mp_i _ e]; exact hm q (by omega)
theorem h_measure72 (H : HOK h) (h12 : qn h ≤ 12) (hC : HC M0 h) {car : Nat} (hc : car ≤ 60) (hcar : M0 3 1 = nI car) (kk : ∀ M, Fr cD72 M0 M → mtx M 73 (dc h bar car) → K M L) : P_X1_measure_72 bar M0 L K := by
  unfold P_X1_measure_72
  exact hl_measure72_2 H h12 hC hc hcar kk 100000 0 M0 (by omega) (by omega) (Fr.rf _ _) (fun q hq => by omega)
end FWC72


