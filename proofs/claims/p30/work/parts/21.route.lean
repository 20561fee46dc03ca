/-! ===== relaxing, abstractly ===== -/
theorem go_a {h : Hse} (t : Nat) : go h t (qa h t) = if qk h t = 120 then 8 else qb h t := by
  unfold go
  rw [if_pos (rfl : qa h t = qa h t)]
theorem go_b {h : Hse} (H : HOK h) {t : Nat} (ht : t < qn h) : go h t (qb h t) = if qk h t = 120 then 8 else if qk h t = 62 then 8 else qa h t := by
  unfold go
  rw [if_neg (H.2 t ht).2.2.1, if_pos (rfl : qb h t = qb h t)]
theorem go_x {h : Hse} {t x : Nat} (h1 : qa h t ≠ x) (h2 : qb h t ≠ x) : go h t x = 8 := by
  unfold go
  rw [if_neg h1, if_neg h2]
  split <;> rfl
def rlx (h : Hse) (B t x : Nat) (l : Nat → Nat) : Nat → Nat := if go h t x < 8 then (if B * ql h t + 1 + l (go h t x) < l x then fup l x (B * ql h t + 1 + l (go h t x)) else l) else l
section RLX
variable {h : Hse} {bar : Int32} {to B I : Nat}
theorem rlx_le (t x : Nat) (l : Nat → Nat) (y : Nat) : rlx h B t x l y ≤ l y := by
  unfold rlx
  repeat' split
  · by_cases e : y = x
    · rw [e, fup_s]; omega
    · rw [fup_n e]; omega
  · omega
  · omega
theorem rlx_ed (H : HOK h) {t x : Nat} (ht : t < qn h) (hx : x < 8) (l : Nat → Nat) (hg : go h t x < 8) : rlx h B t x l x ≤ B * ql h t + 1 + l (go h t x) := by
  unfold rlx
  rw [if_pos hg]
  split
  · rw [fup_s]; omega
  · omega
theorem rlx_pre (H : HOK h) {l : Nat → Nat} {t x : Nat} (hp : isPre h bar to B I l) (ht : t < qn h) (hf : fre bar t) (hx : x < 8) : isPre h bar to B I (rlx h B t x l) := by
  unfold rlx
  split
  · next hg =>
    split
    · next hlt => exact pre_up H hp ht hf hx hg hlt
    · exact hp
  · exact hp
def rl2 (h : Hse) (B t : Nat) (l : Nat → Nat) : Nat → Nat := rlx h B t (qb h t) (rlx h B t (qa h t) l)
/-- within a round that began with l0, at tube j -/
def RI (h : Hse) (bar : Int32) (to B I : Nat) (l0 : Nat → Nat) (j : Nat) (l : Nat → Nat) : Prop := isPre h bar to B I l ∧ (∀ x, x < 8 → l x ≤ l0 x) ∧ ∀ t, t < j → fre bar t → ∀ x, x < 8 → go h t x < 8 → l x ≤ B * ql h t + 1 + l0 (go h t x)
theorem RI_0 {l0 : Nat → Nat} (hp : isPre h bar to B I l0) : RI h bar to B I l0 0 l0 := ⟨hp, fun _ _ => Nat.le_refl _, fun t ht => by omega⟩
theorem RI_skip {l0 l : Nat → Nat} {j : Nat} (hR : RI h bar to B I l0 j l) (hf : ¬ fre bar j) : RI h bar to B I l0 (j + 1) l := by
  refine ⟨hR.1, hR.2.1, fun t ht hft => ?_⟩
  by_cases e : t = j
  · subst e; exact absurd hft hf
  · exact hR.2.2 t (by omega) hft
theorem RI_step (H : HOK h) {l0 l : Nat → Nat} {j : Nat} (hR : RI h bar to B I l0 j l) (hj : j < qn h) (hf : fre bar j) : RI h bar to B I l0 (j + 1) (rl2 h B j l) := by
  obtain ⟨hp, hle, hed⟩ := hR
  obtain ⟨ha, hb, hab, -⟩ := H.2 j hj
  have h1 := rlx_pre H hp hj hf ha
  have h2 := rlx_pre H h1 hj hf hb
  have hl : ∀ y, rl2 h B j l y ≤ l y := fun y => Nat.le_trans (rlx_le j (qb h j) _ y) (rlx_le j (qa h j) l y)
  refine ⟨h2, fun x hx => Nat.le_trans (hl x) (hle x hx), fun t ht hft x hx hg => ?_⟩
  by_cases e : t = j
  · subst e
    have h3 := hle _ hg
    by_cases ea : x = qa h t
    · subst ea
      have h4 := rlx_ed (B := B) H hj ha l hg
      have h5 := rlx_le (B := B) t (qb h t) (rlx h B t (qa h t) l) (qa h t) (h := h)
      unfold rl2; omega
    · by_cases eb : x = qb h t
      · subst eb
        have h4 := rlx_ed (B := B) H hj hb (rlx h B t (qa h t) l) hg
        have h5 := rlx_le (B := B) t (qa h t) l (go h t (qb h t)) (h := h)
        unfold rl2; omega
      · rw [go_x (fun e => ea e.symm) (fun e => eb e.symm)] at hg; omega
  · have h3 := hed t (by omega) hft x hx hg
    have h4 := hl x
    omega
/-- behind k rounds -/
def KI (h : Hse) (bar : Int32) (to B I : Nat) (D : Nat → Nat) (k : Nat) (l : Nat → Nat) : Prop := isPre h bar to B I l ∧ ∀ x, x < 8 → rk D x ≤ k → l x ≤ D x
theorem KI_0 {D : Nat → Nat} (hD : isLab h bar to B I D) : KI h bar to B I D 0 (lab0 to I) := by
  refine ⟨lab0_pre, fun x hx hr => ?_⟩
  by_cases e : x = to
  · subst e; unfold lab0; rw [if_pos rfl]; omega
  · rcases hD.2.2.2 x hx e with h1 | ⟨t, h1, h2, h3, h4⟩
    · unfold lab0; rw [if_neg e]; omega
    · have := rk_lt (D := D) (x := x) h3 (by omega)
      omega
theorem KI_step {D l0 l : Nat → Nat} {k : Nat} (hD : isLab h bar to B I D) (hK : KI h bar to B I D k l0) (hR : RI h bar to B I l0 (qn h) l) : KI h bar to B I D (k + 1) l := by
  refine ⟨hR.1, fun x hx hr => ?_⟩
  by_cases e : x = to
  · subst e; rw [hR.1.1]; omega
  · rcases hD.2.2.2 x hx e with h1 | ⟨t, h1, h2, h3, h4⟩
    · have := hR.1.2.1 x hx
      omega
    · have h5 := rk_lt (D := D) (x := x) h3 (by omega)
      have h6 := hK.2 _ h3 (by omega)
      have h7 := hR.2.2 t h1 h2 x hx h3
      omega
theorem KI_end {D l : Nat → Nat} {k : Nat} (hD : isLab h bar to B I D) (hK : KI h bar to B I D k l) (hk : 7 ≤ k) : ∀ x, x < 8 → l x = D x := fun x hx =>
  Nat.le_antisymm (hK.2 x hx (Nat.le_trans (rk_7 hx) hk)) (pre_ge' hD hK.1 hx)
theorem RI_fix {D l0 l : Nat → Nat} (hD : isLab h bar to B I D) (hR : RI h bar to B I l0 (qn h) l) (he : ∀ x, x < 8 → l x = l0 x) : ∀ x, x < 8 → l x = D x := by
  have hfix : ∀ t x, t < qn h → fre bar t → x < 8 → go h t x < 8 → l x ≤ B * ql h t + 1 + l (go h t x) := fun t x a1 a2 a3 a4 => by
    have := hR.2.2 t a1 a2 x a3 a4
    rw [he _ a4]; exact this
  have hl : isLab h bar to B I l := by
    refine ⟨hR.1.1, hR.1.2.1, hfix, fun x hx hn => ?_⟩
    rcases hR.1.2.2 x hx hn with h1 | ⟨t, a1, a2, a3, a4⟩
    · exact Or.inl h1
    · have := hfix t x a1 a2 hx a3
      exact Or.inr ⟨t, a1, a2, a3, by omega⟩
  exact fun x hx => lab_un hl hD hx
end RLX
/-! ===== the class's house and route ===== -/
def lbl (M : Mem) (p : Nat) (D : Nat → Nat) : Prop := ∀ x, x < 8 → M p x = nI (D x)
theorem lbl_up {M : Mem} {p a v : Nat} {D : Nat → Nat} {w : Int32} (h : lbl M p D) (hw : w = nI v) : lbl (mput M p a w) p (fup D a v) := by
  intro x hx
  by_cases e : x = a
  · rw [e, mp_s, fup_s]; exact hw
  · rw [mp_i M e, fup_n e]; exact h x hx
def HC (M : Mem) (h : Hse) : Prop := M 4 4 = nI (qn h) ∧ ∀ t, t < qn h → M 5 t = nI (qa h t) ∧ M 6 t = nI (qb h t) ∧ M 7 t = nI (qk h t) ∧ M 8 t = nI (ql h t)
theorem HC.fr {M M1 : Mem} {h : Hse} {c : Nat → Nat → Bool} (hC : HC M h) (hF : Fr c M M1) (h4 : c 4 4 = false) (h5 : ∀ t, c 5 t = false) (h6 : ∀ t, c 6 t = false) (h7 : ∀ t, c 7 t = false) (h8 : ∀ t, c 8 t = false) : HC M1 h := by
  refine ⟨(hF 4 4 h4).trans hC.1, fun t ht => ?_⟩
  obtain ⟨a1, a2, a3, a4⟩ := hC.2 t ht
  exact ⟨(hF 5 t (h5 t)).trans a1, (hF 6 t (h6 t)).trans a2, (hF 7 t (h7 t)).trans a3, (hF 8 t (h8 t)).trans a4⟩
def cAim : Nat → Nat → Bool := fun p _ => Nat.beq p 38
def cWlk : Nat → Nat → Bool := fun p _ => Nat.beq p 37 || (Nat.beq p 39 || Nat.beq p 40)
def cRt : Nat → Nat → Bool := fun p _ => Nat.beq p 38 || (Nat.beq p 37 || (Nat.beq p 39 || Nat.beq p 40))
theorem cAim_Rt {M M1 : Mem} (h : Fr cAim M M1) : Fr cRt M M1 := h.mono (fun p _ hq => by
  unfold cRt at hq; unfold cAim; revert hq; cases Nat.beq p 38 <;> simp)
theorem cWlk_Rt {M M1 : Mem} (h : Fr cWlk M M1) : Fr cRt M M1 := h.mono (fun p _ hq => by
  unfold cRt at hq; unfold cWlk; revert hq; cases Nat.beq p 38 <;> simp)
theorem HC.aim {M M1 : Mem} {h : Hse} (hC : HC M h) (hF : Fr cAim M M1) : HC M1 h := hC.fr hF rfl (fun _ => rfl) (fun _ => rfl) (fun _ => rfl) (fun _ => rfl)
theorem HC.wlk {M M1 : Mem} {h : Hse} (hC : HC M h) (hF : Fr cWlk M M1) : HC M1 h := hC.fr hF rfl (fun _ => rfl) (fun _ => rfl) (fun _ => rfl) (fun _ => rfl)
theorem HC.rt {M M1 : Mem} {h : Hse} (hC : HC M h) (hF : Fr cRt M M1) : HC M1 h := hC.fr hF rfl (fun _ => rfl) (fun _ => rfl) (fun _ => rfl) (fun _ => rfl)
theorem sh4 (n : Nat) (h : n * 16 < 2 ^ 32) : nI n <<< ((Int32.ofInt 4) &&& 31) = nI (n * 16) := pk_shlN _ 4 (by decide) h
theorem shr4 (n : Nat) (h : n < 2 ^ 31) : nI n >>> ((Int32.ofInt 4) &&& 31) = nI (n / 16) := pk_shrN h _ 4 (by decide)
section RTE
variable {M : Mem} {h : Hse} {bar : Int32} {L : LMem}
theorem step_eq (H : HOK h) (hC : HC M h) {t : Nat} (ht : t < qn h) : f_X6_stepOf M (nI t) = nI (16 * ql h t + 1) := by
  have h1 := H.2 t ht
  have h2 := H.1
  unfold f_X6_stepOf
  rw [nI_clamp (by omega), (hC.2 t ht).2.2.2, sh4 _ (by omega), Nat.mul_comm, nI_s]
theorem beyond_eq (H : HOK h) (hC : HC M h) {t x : Nat} (ht : t < qn h) (hx : x < 8) : f_X2_beyond M (nI t) (nI x) = if go h t x = 8 then Int32.ofInt (-6) else nI (go h t x) := by
  have h1 := H.2 t ht
  have h2 := H.1
  obtain ⟨a1, a2, a3, a4⟩ := hC.2 t ht
  unfold f_X2_beyond go
  simp (discharger := omega) only [nI_clamp, a1, a2, a3, oL, nI_eq]
  by_cases c1 : qk h t = 120
  · simp only [if_pos c1]; rfl
  · by_cases c2 : qa h t = x
    · simp only [if_neg c1, if_pos c2]; rw [if_neg (by omega)]
    · by_cases c3 : qb h t = x
      · by_cases c4 : qk h t = 62
        · simp only [if_neg c1, if_neg c2, if_pos c3, if_pos c4]; rfl
        · simp only [if_neg c1, if_neg c2, if_pos c3, if_neg c4]; rw [if_neg (by omega)]
      · simp only [if_neg c1, if_neg c2, if_neg c3]; rfl
theorem bn_spec (H : HOK h) (hC : HC M h) {l : Nat → Nat} (hl : lbl M 38 l) {t : Nat} (ht : t < qn h) (hI : ∀ x, x < 8 → l x ≤ 1048576) : lbl (g_X6_bringsNearer M (nI t)) 38 (rl2 h 16 t l) ∧ Fr cAim M (g_X6_bringsNearer M (nI t)) ∧ (f_X6_bringsNearer M (nI t) = nI 0 → rl2 h 16 t l = l) := by
  have h1 := H.2 t ht
  have h2 := H.1
  obtain ⟨a1, a2, a3, a4⟩ := hC.2 t ht
  have ha := hl (qa h t) h1.1
  have hb := hl (qb h t) h1.2.1
  have ia := hI (qa h t) h1.1
  have ib := hI (qb h t) h1.2.1
  have hf : f_X6_bringsNearer M (nI t) = if qk h t = 120 then nI 0 else if l (qa h t) ≤ l (qb h t) + (16 * ql h t + 1) then (if qk h t = 62 then nI 0 else if l (qb h t) ≤ l (qa h t) + (16 * ql h t + 1) then nI 0 else nI 1) else nI 1 := by
    unfold f_X6_bringsNearer
    rw [step_eq H hC ht]
    simp (discharger := omega) only [nI_clamp, a1, a2, a3, ha, hb, oL, nI_eq, nI_add, nI_leI]
  have hg : g_X6_bringsNearer M (nI t) = if qk h t = 120 then M else if l (qa h t) ≤ l (qb h t) + (16 * ql h t + 1) then (if qk h t = 62 then M else if l (qb h t) ≤ l (qa h t) + (16 * ql h t + 1) then M else mput M 38 (qb h t) (nI (l (qa h t) + (16 * ql h t + 1)))) else mput M 38 (qa h t) (nI (l (qb h t) + (16 * ql h t + 1))) := by
    unfold g_X6_bringsNearer
    rw [step_eq H hC ht]
    simp (discharger := omega) only [nI_clamp, a1, a2, a3, ha, hb, oL, nI_eq, nI_add, nI_leI]
  rw [hf, hg]
  have ga := go_a (h := h) t
  have gb := go_b H ht
  by_cases c1 : qk h t = 120
  · have e : rl2 h 16 t l = l := by
      unfold rl2 rlx
      rw [ga, gb, if_pos c1, if_pos c1, if_neg (by omega), if_neg (by omega)]
    rw [if_pos c1, if_pos c1, e]
    exact ⟨hl, Fr.rf _ _, fun _ => rfl⟩
  · by_cases c2 : l (qa h t) ≤ l (qb h t) + (16 * ql h t + 1)
    · have e1 : rlx h 16 t (qa h t) l = l := by
        unfold rlx
        rw [ga, if_neg c1, if_pos h1.2.1, if_neg (by omega)]
      rw [if_neg c1, if_neg c1, if_pos c2, if_pos c2]
      by_cases c3 : qk h t = 62
      · have e : rl2 h 16 t l = l := by
          unfold rl2
          rw [e1]
          unfold rlx
          rw [gb, if_neg c1, if_pos c3, if_neg (by omega)]
        rw [if_pos c3, if_pos c3, e]
        exact ⟨hl, Fr.rf _ _, fun _ => rfl⟩
      · rw [if_neg c3, if_neg c3]
        by_cases c4 : l (qb h t) ≤ l (qa h t) + (16 * ql h t + 1)
        · have e : rl2 h 16 t l = l := by
            unfold rl2
            rw [e1]
            unfold rlx
            rw [gb, if_neg c1, if_neg c3, if_pos h1.1, if_neg (by omega)]
          rw [if_pos c4, if_pos c4, e]
          exact ⟨hl, Fr.rf _ _, fun _ => rfl⟩
        · have e : rl2 h 16 t l = fup l (qb h t) (16 * ql h t + 1 + l (qa h t)) := by
            unfold rl2
            rw [e1]
            unfold rlx
            rw [gb, if_neg c1, if_neg c3, if_pos h1.1, if_pos (by omega)]
          rw [if_neg c4, if_neg c4, e]
          exact ⟨lbl_up hl (by rw [Nat.add_comm]), (Fr.rf _ _).put rfl, fun e0 => absurd ((nI_eq (by omega) (by omega)).mp e0) (by omega)⟩
    · have e1 : rlx h 16 t (qa h t) l = fup l (qa h t) (16 * ql h t + 1 + l (qb h t)) := by
        unfold rlx
        rw [ga, if_neg c1, if_pos h1.2.1, if_pos (by omega)]
      have e : rl2 h 16 t l = fup l (qa h t) (16 * ql h t + 1 + l (qb h t)) := by
        unfold rl2
        rw [e1]
        unfold rlx
        rw [gb, if_neg c1]
        by_cases c3 : qk h t = 62
        · rw [if_pos c3, if_neg (by omega)]
        · rw [if_neg c3, if_pos h1.1, fup_s, fup_n (fun e => h1.2.2.1 e.symm), if_neg (by omega)]
      rw [if_neg c1, if_neg c1, if_neg c2, if_neg c2, e]
      exact ⟨lbl_up hl (by rw [Nat.add_comm]), (Fr.rf _ _).put rfl, fun e0 => absurd ((nI_eq (by omega) (by omega)).mp e0) (by omega)⟩
end RTE
section AIM
variable {M0 : Mem} {h : Hse} {bar : Int32} {L : LMem} {to : Nat} {K : Mem → LMem → Prop}
theorem hl_aim_59 (H : HOK h) (h12 : qn h ≤ 12) (hC : HC M0 h) {C : Int32 → Int32 → Int32 → Int32 → Mem → LMem → Prop} {v2 v5 : Int32} {l0 : Nat → Nat} (kk : ∀ (M : Mem) (l : Nat → Nat) (v4 : Int32), Fr cAim M0 M → lbl M 38 l → RI h bar to 16 1048576 l0 (qn h) l → (v4 = nI 0 → ∀ x, x < 8 → l x = l0 x) → C v2 bar v4 (v5 + Int32.ofInt 1) M L) :
    ∀ (f j : Nat) (M : Mem) (l : Nat → Nat) (v4 : Int32), j ≤ qn h → qn h < f + j → Fr cAim M0 M → lbl M 38 l → RI h bar to 16 1048576 l0 j l → (v4 = nI 0 → ∀ x, x < 8 → l x = l0 x) → PL_X6_aim_59 K C f v2 bar v4 v5 (nI j) M L := by
  intro f
  induction f with
  | zero => intro j M l v4 h1 h2; omega
  | succ f ih =>
    intro j M l v4 h1 h2 hF hl hR hv
    have hC1 := hC.aim hF
    unfold PL_X6_aim_59
    refine pk_le (qn h) j (fun c => ?_) (fun c => ?_) hC1.1
    · have e : j = qn h := by omega
      subst e
      exact kk M l v4 hF hl hR hv
    · have hq := H.2 j c
      obtain ⟨a1, a2, a3, a4⟩ := hC1.2 j c
      refine br_c (fun c2 => ?_) (fun c2 => ?_)
      · obtain ⟨b1, b2, b3⟩ := bn_spec H hC1 hl c hR.1.2.1
        refine ⟨pk_in j 12 (by omega), pk_in j 12 (by omega), fun _ => ?_, fun _ => ?_, ?_⟩
        · rw [nI_clamp (by omega), a2]; exact pk_in _ 8 hq.2.1
        · rw [nI_clamp (by omega), a1]; exact pk_in _ 8 hq.1
        · have hR2 := RI_step H hR c c2
          refine br_c (fun c3 => ?_) (fun c3 => ?_)
          · rw [nI_s]
            refine ih (j + 1) _ _ v4 (by omega) (by omega) (hF.tr b2) b1 hR2 (fun e x hx => ?_)
            rw [b3 c3]; exact hv e x hx
          · rw [nI_s]
            refine ih (j + 1) _ _ (Int32.ofInt 1) (by omega) (by omega) (hF.tr b2) b1 hR2 (fun e => ?_)
            exact absurd e (by decide)
      · rw [nI_s]
        exact ih (j + 1) M l v4 (by omega) (by omega) hF hl (RI_skip hR c2) hv
theorem hl_aim_41 (H : HOK h) (h12 : qn h ≤ 12) (hC : HC M0 h) {v2 : Int32} {D : Nat → Nat} (hD : isLab h bar to 16 1048576 D) (kk : ∀ (M : Mem), Fr cAim M0 M → lbl M 38 D → K M L) :
    ∀ (f k : Nat) (M : Mem) (l : Nat → Nat) (v4 : Int32), k ≤ 8 → 8 < f + k → Fr cAim M0 M → lbl M 38 l → KI h bar to 16 1048576 D k l → (v4 = nI 0 → ∀ x, x < 8 → l x = D x) → PL_X6_aim_41 K f v2 bar v4 (nI k) M L := by
  intro f
  induction f with
  | zero => intro k M l v4 h1 h2; omega
  | succ f ih =>
    intro k M l v4 h1 h2 hF hl hK hv
    unfold PL_X6_aim_41
    refine pk_le 8 k (fun c => ?_) (fun c => ?_)
    · have e := KI_end hD hK (by omega)
      exact kk M hF (fun x hx => by rw [hl x hx, e x hx])
    · refine br_c (fun c2 => ?_) (fun c2 => ?_)
      · exact kk M hF (fun x hx => by rw [hl x hx, hv c2 x hx])
      · refine hl_aim_59 (l0 := l) H h12 hC (fun M' l' v4' hF' hl' hR' hv' => ?_) 100000 0 M l (Int32.ofInt 0) (by omega) (by omega) hF hl (RI_0 hK.1) (fun _ _ _ => rfl)
        rw [nI_s]
        exact ih (k + 1) M' l' v4' (by omega) (by omega) hF' hl' (KI_step hD hK hR') (fun e => RI_fix hD hR' (hv' e))
theorem hl_aim_3 (H : HOK h) (h12 : qn h ≤ 12) (hC : HC M0 h) (hto : to < 8) {D : Nat → Nat} (hD : isLab h bar to 16 1048576 D) (kk : ∀ (M : Mem), Fr cAim M0 M → lbl M 38 D → K M L) :
    ∀ (f k : Nat) (M : Mem), k ≤ 8 → 8 < f + k → Fr cAim M0 M → (∀ x, x < k → M 38 x = nI (lab0 to 1048576 x)) → PL_X6_aim_3 K f (nI to) bar (nI k) M L := by
  intro f
  induction f with
  | zero => intro k M h1 h2; omega
  | succ f ih =>
    intro k M h1 h2 hF hl
    unfold PL_X6_aim_3
    refine pk_le 8 k (fun c => ?_) (fun c => ?_)
    · exact hl_aim_41 H h12 hC hD kk 100000 0 M (lab0 to 1048576) (Int32.ofInt 1) (by omega) (by omega) hF (fun x hx => hl x (by omega)) (KI_0 hD) (fun e => absurd e (by decide))
    · have hin : vp_in (nI k) 8 := pk_in k 8 c
      refine pk_eq k to (fun c2 => ⟨hin, ?_⟩) (fun c2 => ⟨hin, ?_⟩)
      · rw [nI_s, nI_clamp (by omega)]
        refine ih (k + 1) _ (by omega) (by omega) (hF.put rfl) (fun x hx => ?_)
        by_cases e : x = k
        · subst e; rw [mp_s]; unfold lab0; rw [if_pos c2]; rfl
        · rw [mp_i _ e]; exact hl x (by omega)
      · rw [nI_s, nI_clamp (by omega)]
        refine ih (k + 1) _ (by omega) (by omega) (hF.put rfl) (fun x hx => ?_)
        by_cases e : x = k
        · subst e; rw [mp_s]; unfold lab0; rw [if_neg c2]; rfl
        · rw [mp_i _ e]; exact hl x (by omega)
theorem h_aim (H : HOK h) (h12 : qn h ≤ 12) (hC : HC M0 h) (hto : to < 8) {D : Nat → Nat} (hD : isLab h bar to 16 1048576 D) (kk : ∀ (M : Mem), Fr cAim M0 M → lbl M 38 D → K M L) : P_X6_aim (nI to) bar M0 L K := by
  unfold P_X6_aim
  exact hl_aim_3 H h12 hC hto hD kk 100000 0 M0 (by omega) (by omega) (Fr.rf _ _) (fun x hx => by omega)
end AIM
section WLK
variable {M0 : Mem} {h : Hse} {bar : Int32} {L : LMem} {to : Nat} {K : Int32 → Mem → LMem → Prop} {D : Nat → Nat}
theorem hl_nextTube {M : Mem} (H : HOK h) (h12 : qn h ≤ 12) (hC : HC M h) (hl : lbl M 38 D) (hI : ∀ x, x < 8 → D x ≤ 1048576) {x t0 : Nat} (hx : x < 8) (hN : isNx h bar D x t0) (kk : K (nI t0) M L) :
    ∀ (f j : Nat), j ≤ t0 → t0 < f + j → PL_X6_nextTube_3 K f (nI x) bar (nI j) M L := by
  intro f
  induction f with
  | zero => intro j h1 h2; omega
  | succ f ih =>
    intro j h1 h2
    have hn := hN.1.1
    have go1 : ¬ tgt h bar D x j → PL_X6_nextTube_3 K f (nI x) bar (nI (j + 1)) M L := fun hno => by
      have : j ≠ t0 := fun e => hno (by rw [e]; exact hN.1)
      exact ih (j + 1) (by omega) (by omega)
    unfold PL_X6_nextTube_3
    refine pk_le (qn h) j (fun c => by omega) (fun c => ?_) hC.1
    refine ⟨pk_in j 12 (by omega), br_c (fun c2 => ?_) (fun c2 => ?_)⟩
    · rw [beyond_eq H hC c hx, nI_s]
      by_cases c3 : go h j x = 8
      · rw [if_pos c3]
        exact br_t rfl (go1 (fun e => by have := e.2.2.1; omega))
      · have hg : go h j x < 8 := by have := go_le H c (x := x); omega
        rw [if_neg c3]
        refine br_f (nI_ne6 (by omega)) ⟨pk_in _ 8 hg, pk_in _ 8 hx, ?_⟩
        have b1 := hI _ hg
        have b2 := hI _ hx
        have b3 := H.2 j c
        rw [nI_clamp (by omega), nI_clamp (by omega), hl _ hg, hl _ hx, step_eq H hC c, nI_add]
        refine pk_eq _ _ (fun c4 => ?_) (fun c4 => ?_) rfl rfl (by omega) (by omega)
        · have ht : tgt h bar D x j := ⟨c, c2, hg, c4⟩
          have e : j = t0 := by
            rcases Nat.lt_or_ge j t0 with e | e
            · exact absurd ht (hN.2 j e)
            · omega
          rw [e]; exact kk
        · exact go1 (fun e => c4 e.2.2.2)
    · rw [nI_s]
      exact go1 (fun e => c2 e.2.1)
theorem h_nextTube {M : Mem} (H : HOK h) (h12 : qn h ≤ 12) (hC : HC M h) (hl : lbl M 38 D) (hI : ∀ x, x < 8 → D x ≤ 1048576) {x t0 : Nat} (hx : x < 8) (hN : isNx h bar D x t0) (kk : K (nI t0) M L) : P_X6_nextTube (nI x) bar M L K := by
  have h3 := hN.1.1
  unfold P_X6_nextTube
  exact hl_nextTube H h12 hC hl hI hx hN kk 100000 0 (by omega) (by omega)
/-- the route's picture: the first i steps of the way from x -/
def RT (M : Mem) (h : Hse) (bar : Int32) (D : Nat → Nat) (x i : Nat) : Prop := M 37 3 = nI i ∧ M 37 4 = nI (wl h bar D x i) ∧ M 37 5 = wb h bar D x i ∧ (∀ j, j < i → M 39 j = nI (tb h bar D x j)) ∧ ∀ j, j ≤ i → M 40 j = nI (rm h bar D x j)
theorem hl_walk (H : HOK h) (h12 : qn h ≤ 12) (hC : HC M0 h) (hto : to < 8) (hD : isLab h bar to 16 1048576 D) (hl : lbl M0 38 D) {x : Nat} (hx : x < 8) (hI : D x < 1048576) {v2 : Int32} (kk : ∀ M : Mem, Fr cWlk M0 M → RT M h bar D x (D x % 16) → K (nI 1) M L) :
    ∀ (f i : Nat) (M : Mem), i ≤ D x % 16 → 8 < f + i → Fr cWlk M0 M → RT M h bar D x i → PL_X6_walk_45 K f v2 (nI to) bar (nI (rm h bar D x i)) (nI (i + 1)) M L := by
  intro f
  induction f with
  | zero =>
    intro i M h1 h2
    have := lab_fin H hD hx hI
    omega
  | succ f ih =>
    intro i M h1 h2 hF hR
    have h7 := lab_fin H hD hx hI
    obtain ⟨r1, r2, r3, r4, r5⟩ := rm_in H hD hto hx hI i h1
    unfold PL_X6_walk_45
    have hend : rm h bar D x i = to → K (Int32.ofInt 1) M L := fun e => by
      have e2 := r5.mp e
      subst e2
      exact kk M hF hR
    refine pk_le 8 (i + 1) (fun c => ?_) (fun c => ?_)
    · refine pk_eq _ to hend (fun c2 => ?_)
      exact absurd (r5.mpr (by omega)) c2
    · refine pk_eq _ to hend (fun c2 => ?_)
      have hlt : i < D x % 16 := by
        rcases Nat.lt_or_ge i (D x % 16) with e | e
        · exact e
        · exact absurd (r5.mpr (by omega)) c2
      have hN := tb_is H hD hto hx hI hlt
      have hC1 := hC.wlk hF
      have hl1 : lbl M 38 D := fun y hy => (hF 38 y rfl).trans (hl y hy)
      have hT := hN.1
      refine h_nextTube H h12 hC1 hl1 hD.2.1 r1 hN ?_
      obtain ⟨q1, q2, q3, q4, q5⟩ := hR
      have htn : tb h bar D x i < 12 := by have := hT.1; omega
      have hb : f_X2_beyond M (nI (tb h bar D x i)) (nI (rm h bar D x i)) = nI (rm h bar D x (i + 1)) := by
        rw [beyond_eq H hC1 hT.1 r1, if_neg (by have := hT.2.2.1; omega)]; rfl
      refine br_f (nI_ne6 (by omega)) ⟨pk_in _ 12 htn, ?_, pk_in _ 8 (by omega), pk_in _ 12 htn, ?_⟩
      · rw [q1]; exact pk_in i 8 (by omega)
      · rw [hb, q1, q2, q3, nI_s, nI_clamp (by omega), nI_clamp (by omega), nI_clamp (by omega), (hC1.2 _ hT.1).2.2.2, nI_add]
        refine ih (i + 1) _ (by omega) (by omega) (((((hF.put rfl).put rfl).put rfl).put rfl).put rfl) ⟨?_, ?_, ?_, fun j hj => ?_, fun j hj => ?_⟩
        · simp (discharger := decide) only [mp_i, mp_p, mp_s]
        · simp (discharger := decide) only [mp_i, mp_p, mp_s]; rfl
        · simp (discharger := decide) only [mp_i, mp_p, mp_s]; rfl
        · simp (discharger := decide) only [mp_p]
          by_cases e : j = i
          · rw [e, mp_s]
          · rw [mp_i _ e]; exact q4 j (by omega)
        · simp (discharger := decide) only [mp_p]
          by_cases e : j = i + 1
          · rw [e, mp_s]
          · rw [mp_i _ e]
            simp (discharger := decide) only [mp_p]
            exact q5 j (by omega)
theorem h_walk (H : HOK h) (h12 : qn h ≤ 12) (hC : HC M0 h) (hto : to < 8) (hD : isLab h bar to 16 1048576 D) (hl : lbl M0 38 D) {x car : Nat} (hx : x < 8) (hcar : M0 3 1 = nI car) (hc60 : car ≤ 60) (kk1 : D x / 16 ≤ car → ∀ M : Mem, Fr cWlk M0 M → RT M h bar D x (D x % 16) → K (nI 1) M L) (kk0 : car < D x / 16 → ∀ M : Mem, Fr cWlk M0 M → K (nI 0) M L) : P_X6_walk (nI x) (nI to) bar M0 L K := by
  have hB := hD.2.1 x hx
  unfold P_X6_walk
  refine ⟨pk_in _ 8 hx, ?_⟩
  rw [nI_clamp (by omega), hl x hx, shr4 _ (by omega), hcar]
  have hF : Fr cWlk M0 (mput (mput (mput (mput M0 37 3 (Int32.ofInt 0)) 37 4 (Int32.ofInt 0)) 37 5 (Int32.ofInt 0)) 40 ((Int32.ofInt 0).toNatClampNeg) (nI x)) := ((((Fr.rf _ _).put rfl).put rfl).put rfl).put rfl
  refine pk_le _ _ (fun c => ?_) (fun c => kk0 c _ hF) rfl rfl (by omega) (by omega)
  refine hl_walk H h12 hC hto hD hl hx (by omega) (kk1 c) 100000 0 _ (by omega) (by omega) hF ⟨?_, ?_, ?_, fun j hj => by omega, fun j hj => ?_⟩
  · simp (discharger := decide) only [mp_i, mp_p, mp_s]; rfl
  · simp (discharger := decide) only [mp_i, mp_p, mp_s]; rfl
  · simp (discharger := decide) only [mp_i, mp_p, mp_s]; rfl
  · have e : j = 0 := by omega
    subst e
    exact mp_s _ _ _ _
theorem h_find (H : HOK h) (h12 : qn h ≤ 12) (hC : HC M0 h) (hto : to < 8) (hD : isLab h bar to 16 1048576 D) {x car : Nat} (hx : x < 8) (hcar : M0 3 1 = nI car) (hc60 : car ≤ 60) (kk1 : D x / 16 ≤ car → ∀ M : Mem, Fr cRt M0 M → RT M h bar D x (D x % 16) → K (nI 1) M L) (kk0 : car < D x / 16 → ∀ M : Mem, Fr cRt M0 M → K (nI 0) M L) : P_X6_find (nI x) (nI to) bar M0 L K := by
  unfold P_X6_find
  refine h_aim H h12 hC hto hD (fun M hF hl => ?_)
  refine h_walk H h12 (hC.aim hF) hto hD hl hx ((hF 3 1 rfl).trans hcar) hc60 (fun c M' hF' hR => ⟨Or.inr rfl, kk1 c M' ((cAim_Rt hF).tr (cWlk_Rt hF')) hR⟩) (fun c M' hF' => ⟨Or.inl rfl, kk0 c M' ((cAim_Rt hF).tr (cWlk_Rt hF'))⟩)
end WLK

