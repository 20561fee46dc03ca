/-! ===== the model's ways ===== -/
def HM (M : Mem) (h : Hse) : Prop := M 74 21 = nI (qn h) ∧ ∀ t, t < qn h → M 75 t = nI (qa h t) ∧ M 76 t = nI (qb h t) ∧ M 77 t = nI (qk h t) ∧ M 78 t = nI (ql h t)
def HM4 (M : Mem) (h : Hse) : Prop := M 74 4 = nI (qn h) ∧ ∀ t, t < qn h → M 75 t = nI (qa h t) ∧ M 76 t = nI (qb h t) ∧ M 77 t = nI (qk h t) ∧ M 78 t = nI (ql h t)
theorem HM.fr {M M1 : Mem} {h : Hse} {c : Nat → Nat → Bool} (hC : HM M h) (hF : Fr c M M1) (h4 : c 74 21 = false) (h5 : ∀ t, c 75 t = false) (h6 : ∀ t, c 76 t = false) (h7 : ∀ t, c 77 t = false) (h8 : ∀ t, c 78 t = false) : HM M1 h := by
  refine ⟨(hF 74 21 h4).trans hC.1, fun t ht => ?_⟩
  obtain ⟨a1, a2, a3, a4⟩ := hC.2 t ht
  exact ⟨(hF 75 t (h5 t)).trans a1, (hF 76 t (h6 t)).trans a2, (hF 77 t (h7 t)).trans a3, (hF 78 t (h8 t)).trans a4⟩
theorem HM4.fr {M M1 : Mem} {h : Hse} {c : Nat → Nat → Bool} (hC : HM4 M h) (hF : Fr c M M1) (h4 : c 74 4 = false) (h5 : ∀ t, c 75 t = false) (h6 : ∀ t, c 76 t = false) (h7 : ∀ t, c 77 t = false) (h8 : ∀ t, c 78 t = false) : HM4 M1 h := by
  refine ⟨(hF 74 4 h4).trans hC.1, fun t ht => ?_⟩
  obtain ⟨a1, a2, a3, a4⟩ := hC.2 t ht
  exact ⟨(hF 75 t (h5 t)).trans a1, (hF 76 t (h6 t)).trans a2, (hF 77 t (h7 t)).trans a3, (hF 78 t (h8 t)).trans a4⟩
theorem HM4.now {M : Mem} {h : Hse} (hC : HM4 M h) : HM (mput M 74 21 (M 74 4)) h := by
  refine ⟨by rw [mp_s]; exact hC.1, fun t ht => ?_⟩
  obtain ⟨a1, a2, a3, a4⟩ := hC.2 t ht
  rw [mp_p _ (by decide), mp_p _ (by decide), mp_p _ (by decide), mp_p _ (by decide)]
  exact ⟨a1, a2, a3, a4⟩
def cOff : Nat → Nat → Bool := fun p _ => Nat.beq p 85
def cMw : Nat → Nat → Bool := fun p i => Nat.beq p 85 || (Nat.beq p 86 || (Nat.beq p 87 || (Nat.beq p 74 && (Nat.beq i 20 || Nat.beq i 21))))
def cM2 : Nat → Nat → Bool := fun p i => Nat.beq p 86 || (Nat.beq p 87 || (Nat.beq p 74 && Nat.beq i 20))
theorem cOff_Mw {M M1 : Mem} (h : Fr cOff M M1) : Fr cMw M M1 := h.mono (fun p i hq => by
  unfold cMw at hq; unfold cOff; revert hq; cases Nat.beq p 85 <;> simp)
theorem cM2_Mw {M M1 : Mem} (h : Fr cM2 M M1) : Fr cMw M M1 := h.mono (fun p i hq => by
  unfold cMw at hq; unfold cM2; revert hq; cases Nat.beq p 85 <;> cases Nat.beq p 86 <;> cases Nat.beq p 87 <;> cases Nat.beq p 74 <;> cases Nat.beq i 20 <;> simp)
theorem HM.off {M M1 : Mem} {h : Hse} (hC : HM M h) (hF : Fr cOff M M1) : HM M1 h := hC.fr hF rfl (fun _ => rfl) (fun _ => rfl) (fun _ => rfl) (fun _ => rfl)
theorem HM.m2 {M M1 : Mem} {h : Hse} (hC : HM M h) (hF : Fr cM2 M M1) : HM M1 h := hC.fr hF rfl (fun _ => rfl) (fun _ => rfl) (fun _ => rfl) (fun _ => rfl)
theorem HM4.mw {M M1 : Mem} {h : Hse} (hC : HM4 M h) (hF : Fr cMw M M1) : HM4 M1 h := hC.fr hF rfl (fun _ => rfl) (fun _ => rfl) (fun _ => rfl) (fun _ => rfl)
theorem neg6 : Int32.ofInt (-6) < (0 : Int32) := by decide
theorem fre_01 (x : Int32) : x &&& nI 1 = nI 0 ∨ x &&& nI 1 = nI 1 := by
  obtain ⟨j, h1, h2⟩ := pk_andE x (m := nI 1) 1 (by decide)
  have e : j = 0 ∨ j = 1 := by omega
  rcases e with rfl | rfl
  · exact Or.inl h2
  · exact Or.inr h2
section MWY
variable {M : Mem} {h : Hse} {bar : Int32} {L : LMem}
theorem leads_eq (H : HOK h) (hC : HM M h) {t x : Nat} (ht : t < qn h) (hx : x < 8) : f_X10_leads M (nI t) (nI x) = if go h t x = 8 then Int32.ofInt (-6) else nI (go h t x) := by
  have h1 := H.2 t ht
  have h2 := H.1
  obtain ⟨a1, a2, a3, a4⟩ := hC.2 t ht
  unfold f_X10_leads go
  simp (discharger := omega) only [nI_clamp, a1, a2, a3, oL, nI_eq]
  by_cases c1 : qk h t = 120
  · simp only [if_pos c1]; rfl
  · by_cases c2 : qa h t = x
    · simp only [if_neg c1, if_pos c2]; rw [if_neg (by omega)]
    · by_cases c3 : qb h t = x
      · by_cases c4 : qk h t = 62
        · simp only [if_neg c1, if_neg c2, if_pos c3, if_pos c4]; rfl
        · simp only [if_neg c1, if_neg c2, if_pos c3, if_neg c4]; rw [if_neg (by omega)]
      · simp only [if_neg c1, if_neg c2, if_neg c3]; rfl
theorem leads_in (H : HOK h) (hC : HM M h) {t x : Nat} (ht : t < qn h) (hx : x < 8) : ¬ (f_X10_leads M (nI t) (nI x)) < 0 → vp_in (f_X10_leads M (nI t) (nI x)) 8 := by
  have hg := go_le H ht (x := x)
  rw [leads_eq H hC ht hx]
  by_cases e : go h t x = 8
  · rw [if_pos e]; exact fun c => absurd neg6 c
  · rw [if_neg e]; exact fun _ => pk_in (go h t x) 8 (by omega)
theorem near_spec (H : HOK h) (hC : HM M h) {l : Nat → Nat} (hl : lbl M 85 l) {t x : Nat} (ht : t < qn h) (hx : x < 8) (hI : ∀ x, x < 8 → l x ≤ 9999) : lbl (g_X10_nearer M (nI t) (nI x)) 85 (rlx h 10 t x l) ∧ Fr cOff M (g_X10_nearer M (nI t) (nI x)) := by
  have h1 := H.2 t ht
  have h2 := H.1
  obtain ⟨a1, a2, a3, a4⟩ := hC.2 t ht
  have hg := go_le H ht (x := x)
  unfold g_X10_nearer rlx
  rw [leads_eq H hC ht hx]
  by_cases c1 : go h t x = 8
  · rw [if_pos c1, if_pos neg6, if_neg (by omega)]
    exact ⟨hl, Fr.rf _ _⟩
  · have h3 : go h t x < 8 := by omega
    have b1 := hI _ h3
    have b2 := hI _ hx
    rw [if_neg c1, if_neg (nI_pos (by omega)), nI_clamp (by omega), nI_clamp (by omega), nI_clamp (by omega), hl _ h3, hl _ hx, a4, o10, pk_mul, nI_add, nI_s, if_pos h3]
    by_cases c2 : l x ≤ l (go h t x) + 10 * ql h t + 1
    · rw [if_pos ((nI_leI (by omega) (by omega)).mpr c2), if_neg (by omega)]
      exact ⟨hl, Fr.rf _ _⟩
    · rw [if_neg (fun e => c2 ((nI_leI (by omega) (by omega)).mp e)), if_pos (by omega)]
      exact ⟨lbl_up hl (by congr 1; omega), (Fr.rf _ _).put rfl⟩
end MWY
section MOF
variable {M0 : Mem} {h : Hse} {bar : Int32} {L : LMem} {to : Nat} {K : Mem → LMem → Prop}
theorem hl_findOff_43 (H : HOK h) (hC : HM M0 h) {C : Int32 → Int32 → Int32 → Mem → LMem → Prop} {v1 v3 : Int32} {l0 : Nat → Nat} (kk : ∀ (M : Mem) (l : Nat → Nat), Fr cOff M0 M → lbl M 85 l → RI h bar to 10 9999 l0 (qn h) l → C v1 bar (v3 + Int32.ofInt 1) M L) :
    ∀ (f j : Nat) (M : Mem) (l : Nat → Nat), j ≤ qn h → qn h < f + j → Fr cOff M0 M → lbl M 85 l → RI h bar to 10 9999 l0 j l → PL_X10_findOff_43 K C f v1 bar v3 (nI j) M L := by
  intro f
  induction f with
  | zero => intro j M l h1 h2; omega
  | succ f ih =>
    intro j M l h1 h2 hF hl hR
    have hC1 := hC.off hF
    have h13 := H.1
    unfold PL_X10_findOff_43
    refine pk_le (qn h) j (fun c => ?_) (fun c => ?_) hC1.1
    · have e : j = qn h := by omega
      subst e
      exact kk M l hF hl hR
    · have hq := H.2 j c
      obtain ⟨a1, a2, a3, a4⟩ := hC1.2 j c
      refine br_c (fun c2 => ?_) (fun c2 => ?_)
      · have hin : vp_in (nI j) 13 := pk_in j 13 (by omega)
        have e1 : (nI j).toNatClampNeg = j := nI_clamp (by omega)
        rw [e1, a1]
        obtain ⟨b1, b2⟩ := near_spec H hC1 hl c hq.1 hR.1.2.1
        have hC2 := hC1.off b2
        have hp2 := rlx_pre (B := 10) H hR.1 c c2 hq.1
        rw [(hC2.2 j c).2.1]
        obtain ⟨b3, b4⟩ := near_spec H hC2 b1 c hq.2.1 hp2.2.1
        refine ⟨hin, hin, leads_in H hC1 c hq.1, hin, pk_in _ 8 hq.1, leads_in H hC2 c hq.2.1, pk_in _ 8 hq.2.1, ?_⟩
        rw [nI_s]
        exact ih (j + 1) _ _ (by omega) (by omega) ((hF.tr b2).tr b4) b3 (RI_step H hR c c2)
      · rw [nI_s]
        exact ih (j + 1) M l (by omega) (by omega) hF hl (RI_skip hR c2)
theorem hl_findOff_34 (H : HOK h) (hC : HM M0 h) {v1 : Int32} {D : Nat → Nat} (hD : isLab h bar to 10 9999 D) (kk : ∀ (M : Mem), Fr cOff M0 M → lbl M 85 D → K M L) :
    ∀ (f k : Nat) (M : Mem) (l : Nat → Nat), k ≤ 8 → 8 < f + k → Fr cOff M0 M → lbl M 85 l → KI h bar to 10 9999 D k l → PL_X10_findOff_34 K f v1 bar (nI k) M L := by
  intro f
  induction f with
  | zero => intro k M l h1 h2; omega
  | succ f ih =>
    intro k M l h1 h2 hF hl hK
    have h13 := H.1
    unfold PL_X10_findOff_34
    refine pk_le 8 k (fun c => ?_) (fun c => ?_)
    · have e := KI_end hD hK (by omega)
      exact kk M hF (fun x hx => by rw [hl x hx, e x hx])
    · refine hl_findOff_43 (l0 := l) H hC (fun M' l' hF' hl' hR' => ?_) 100000 0 M l (by omega) (by omega) hF hl (RI_0 hK.1)
      rw [nI_s]
      exact ih (k + 1) M' l' (by omega) (by omega) hF' hl' (KI_step hD hK hR')
theorem hl_findOff_2 (H : HOK h) (hC : HM M0 h) {D : Nat → Nat} (hD : isLab h bar to 10 9999 D) (kk : ∀ (M : Mem), Fr cOff M0 M → lbl M 85 D → K M L) :
    ∀ (f k : Nat) (M : Mem), k ≤ 8 → 8 < f + k → to < 8 → Fr cOff M0 M → (∀ x, x < k → M 85 x = nI (lab0 to 9999 x)) → PL_X10_findOff_2 K f (nI to) bar (nI k) M L := by
  intro f
  induction f with
  | zero => intro k M h1 h2; omega
  | succ f ih =>
    intro k M h1 h2 hto hF hl
    unfold PL_X10_findOff_2
    refine pk_le 8 k (fun c => ?_) (fun c => ?_)
    · exact hl_findOff_34 H hC hD kk 100000 0 M (lab0 to 9999) (by omega) (by omega) hF (fun x hx => hl x (by omega)) (KI_0 hD)
    · have hin : vp_in (nI k) 8 := pk_in k 8 c
      refine pk_eq k to (fun c2 => ⟨hin, ?_⟩) (fun c2 => ⟨hin, ?_⟩)
      · rw [nI_s, nI_clamp (by omega)]
        refine ih (k + 1) _ (by omega) (by omega) hto (hF.put rfl) (fun x hx => ?_)
        by_cases e : x = k
        · subst e; rw [mp_s]; unfold lab0; rw [if_pos c2]; rfl
        · rw [mp_i _ e]; exact hl x (by omega)
      · rw [nI_s, nI_clamp (by omega)]
        refine ih (k + 1) _ (by omega) (by omega) hto (hF.put rfl) (fun x hx => ?_)
        by_cases e : x = k
        · subst e; rw [mp_s]; unfold lab0; rw [if_neg c2]; rfl
        · rw [mp_i _ e]; exact hl x (by omega)
theorem h_findOff (H : HOK h) (hC : HM M0 h) (hto : to < 8) {D : Nat → Nat} (hD : isLab h bar to 16 1048576 D) (kk : ∀ (M : Mem), Fr cOff M0 M → lbl M 85 (fun x => cv (D x)) → K M L) : P_X10_findOff (nI to) bar M0 L K := by
  unfold P_X10_findOff
  exact hl_findOff_2 H hC (lab_10 H hD) kk 100000 0 M0 (by omega) (by omega) hto (Fr.rf _ _) (fun x hx => by omega)
end MOF
section MLW
variable {M0 : Mem} {h : Hse} {bar : Int32} {L : LMem} {to : Nat} {K : Int32 → Mem → LMem → Prop} {D : Nat → Nat}
def MT (M : Mem) (h : Hse) (bar : Int32) (D : Nat → Nat) (x i : Nat) : Prop := M 74 20 = nI i ∧ (∀ j, j < i → M 86 j = nI (tb h bar D x j)) ∧ ∀ j, j ≤ i → M 87 j = nI (rm h bar D x j)
theorem hl_layWay_56 {M : Mem} (H : HOK h) (hC : HM M h) (hD : isLab h bar to 16 1048576 D) (hl : lbl M 85 (fun x => cv (D x))) {C : Int32 → Int32 → Int32 → Int32 → Mem → LMem → Prop} {v1 v2 : Int32} {x t0 i : Nat} (hx : x < 8) (hI : D x < 1048576) (hi : M 74 20 = nI i) (hi7 : i < 8) (hN : isNx h bar D x t0)
    (kk : C v1 v2 bar (nI (go h t0 x)) (mput (mput (mput M 86 i (nI t0)) 74 20 (nI (i + 1))) 87 (i + 1) (nI (go h t0 x))) L) :
    ∀ (f j : Nat), j ≤ t0 → t0 < f + j → PL_X10_layWay_56 K C f v1 v2 bar (nI x) (nI j) M L := by
  intro f
  induction f with
  | zero => intro j h1 h2; omega
  | succ f ih =>
    intro j h1 h2
    have hn := hN.1.1
    have h13 := H.1
    have go1 : ¬ tgt h bar D x j → PL_X10_layWay_56 K C f v1 v2 bar (nI x) (nI (j + 1)) M L := fun hno => by
      have : j ≠ t0 := fun e => hno (by rw [e]; exact hN.1)
      exact ih (j + 1) (by omega) (by omega)
    have c : j < qn h := by omega
    have hin : vp_in (nI j) 13 := pk_in j 13 (by omega)
    have b3 := H.2 j c
    unfold PL_X10_layWay_56
    rw [nI_s]
    refine br_c (fun c2 => ?_) (fun c2 => ⟨hin, ?_⟩)
    · refine go1 (fun e => ?_)
      have e1 := e.2.1
      unfold fre at e1
      have e2 : nI 0 = nI 1 := e1.symm.trans c2
      exact absurd e2 (by decide)
    · have hf : fre bar j := by
        rcases fre_01 (bar >>> (nI j &&& 31)) with e | e
        · exact e
        · exact absurd e c2
      rw [leads_eq H hC c hx]
      by_cases c3 : go h j x = 8
      · rw [if_pos c3]
        exact br_t neg6 (go1 (fun e => by have := e.2.2.1; omega))
      · have hg : go h j x < 8 := by have := go_le H c (x := x); omega
        rw [if_neg c3]
        refine br_f (nI_pos (by omega)) ⟨pk_in _ 8 hg, hin, pk_in _ 8 hx, ?_⟩
        have e1 : (nI j).toNatClampNeg = j := nI_clamp (by omega)
        have e2 : (nI x).toNatClampNeg = x := nI_clamp (by omega)
        have e3 : (nI (go h j x)).toNatClampNeg = go h j x := nI_clamp (by omega)
        have e4 : (nI i).toNatClampNeg = i := nI_clamp (by omega)
        have e5 : (nI (i + 1)).toNatClampNeg = i + 1 := nI_clamp (by omega)
        have hlx : M 85 x = nI (cv (D x)) := hl x hx
        have hlg : M 85 (go h j x) = nI (cv (D (go h j x))) := hl _ hg
        have hb1 := (lab_10 H hD).2.1 x hx
        have hb2 := (lab_10 H hD).2.1 _ hg
        have hb3 : cv (D x) ≤ 9999 := hb1
        have hb4 : cv (D (go h j x)) ≤ 9999 := hb2
        have hct := cv_tight H hD hx hI hg
        rw [hi, nI_s, e1, e2, e3, e4, e5, hlx, hlg, (hC.2 j c).2.2.2, o10, pk_mul, nI_add, nI_s]
        refine pk_eq _ _ (fun c4 => ?_) (fun c4 => ?_) rfl rfl (by omega) (by omega)
        · have ht : tgt h bar D x j := ⟨c, hf, hg, hct.mpr c4⟩
          have e : j = t0 := by
            rcases Nat.lt_or_ge j t0 with e | e
            · exact absurd ht (hN.2 j e)
            · omega
          subst e
          exact ⟨pk_in i 8 (by omega), pk_in (i + 1) 9 (by omega), kk⟩
        · exact go1 (fun e => c4 (hct.mp e.2.2.2))
theorem hl_layWay_47 (H : HOK h) (hC : HM M0 h) (hto : to < 8) (hD : isLab h bar to 16 1048576 D) (hl : lbl M0 85 (fun x => cv (D x))) {x : Nat} (hx : x < 8) (hI : D x < 1048576) {v1 : Int32} (kk : ∀ M : Mem, Fr cM2 M0 M → MT M h bar D x (D x % 16) → K (nI 1) M L) :
    ∀ (f i : Nat) (M : Mem), i ≤ D x % 16 → 8 < f + i → Fr cM2 M0 M → MT M h bar D x i → PL_X10_layWay_47 K f v1 (nI to) bar (nI (rm h bar D x i)) M L := by
  intro f
  induction f with
  | zero =>
    intro i M h1 h2
    have := lab_fin H hD hx hI
    omega
  | succ f ih =>
    intro i M h1 h2 hF hR
    have h13 := H.1
    have h7 := lab_fin H hD hx hI
    obtain ⟨r1, r2, r3, r4, r5⟩ := rm_in H hD hto hx hI i h1
    unfold PL_X10_layWay_47
    refine pk_eq _ to (fun c => ?_) (fun c2 => ?_)
    · have e2 := r5.mp c
      subst e2
      exact kk M hF hR
    · have hlt : i < D x % 16 := by
        rcases Nat.lt_or_ge i (D x % 16) with e | e
        · exact e
        · exact absurd (r5.mpr (by omega)) c2
      have hN := tb_is H hD hto hx hI hlt
      have hC1 := hC.m2 hF
      have hl1 : lbl M 85 (fun x => cv (D x)) := fun y hy => (hF 85 y rfl).trans (hl y hy)
      obtain ⟨q1, q4, q5⟩ := hR
      have htn := hN.1.1
      refine hl_layWay_56 H hC1 hD hl1 r1 r2 q1 (by omega) hN ?_ 100000 0 (by omega) (by omega)
      refine ih (i + 1) _ (by omega) (by omega) (((hF.put rfl).put rfl).put rfl) ⟨?_, fun j hj => ?_, fun j hj => ?_⟩
      · simp (discharger := decide) only [mp_i, mp_p, mp_s]
      · simp (discharger := decide) only [mp_p]
        by_cases e : j = i
        · rw [e, mp_s]
        · rw [mp_i _ e]; exact q4 j (by omega)
      · by_cases e : j = i + 1
        · rw [e, mp_s]; rfl
        · rw [mp_i _ e]
          simp (discharger := decide) only [mp_p]
          exact q5 j (by omega)
theorem h_layWay (H : HOK h) (hC : HM4 M0 h) (hto : to < 8) (hD : isLab h bar to 16 1048576 D) {x car : Nat} (hx : x < 8) (hcar : M0 74 5 = nI car) (hc60 : car ≤ 60) (kk1 : D x / 16 ≤ car → ∀ M : Mem, Fr cMw M0 M → M 74 21 = nI (qn h) → MT M h bar D x (D x % 16) → K (nI 1) M L) (kk0 : car < D x / 16 → ∀ M : Mem, Fr cMw M0 M → M 74 20 = nI 0 → K (nI 0) M L) : P_X10_layWay (nI x) (nI to) bar M0 L K := by
  have hB := hD.2.1 x hx
  unfold P_X10_layWay
  refine h_findOff H hC.now hto hD (fun M hF hl => ?_)
  have hF0 : Fr cMw M0 M := ((Fr.rf cMw M0).put rfl).tr (cOff_Mw hF)
  have hlx : M 85 x = nI (cv (D x)) := hl x hx
  have hb3 : cv (D x) ≤ 9999 := (lab_10 H hD).2.1 x hx
  have hcar' : M 74 5 = nI car := (hF0 74 5 rfl).trans hcar
  have hC1 : HM M h := hC.now.off hF
  refine ⟨pk_in _ 8 hx, ?_⟩
  rw [nI_clamp (by omega), hlx, o10, pk_div (by omega) (by omega) (by omega), hcar']
  have hF2 : Fr cM2 M (mput (mput M 74 20 (Int32.ofInt 0)) 87 ((Int32.ofInt 0).toNatClampNeg) (nI x)) := ((Fr.rf _ _).put rfl).put rfl
  refine pk_le _ _ (fun c => ?_) (fun c => ?_) rfl rfl (by omega) (by omega)
  · have hI : D x < 1048576 := by
      rcases Nat.lt_or_ge (D x) 1048576 with e | e
      · exact e
      · rw [cv_hi (by omega)] at c; omega
    have h7 := lab_fin H hD hx hI
    rw [cv_lo hI] at c
    refine hl_layWay_47 H (hC1.m2 hF2) hto hD (fun y hy => (hF2 85 y rfl).trans (hl y hy)) hx hI (fun M' hF' hR => kk1 (by omega) M' (hF0.tr ((cM2_Mw hF2).tr (cM2_Mw hF'))) (((hC1.m2 hF2).m2 hF').1) hR) 100000 0 _ (by omega) (by omega) (Fr.rf _ _) ⟨?_, fun j hj => by omega, fun j hj => ?_⟩
    · simp (discharger := decide) only [mp_i, mp_p, mp_s]; rfl
    · have e : j = 0 := by omega
      subst e
      exact mp_s _ _ _ _
  · have hn : car < D x / 16 := by
      rcases Nat.lt_or_ge (D x) 1048576 with e | e
      · have h7 := lab_fin H hD hx e
        rw [cv_lo e] at c; omega
      · omega
    refine kk0 hn _ (hF0.tr (cM2_Mw hF2)) ?_
    simp (discharger := decide) only [mp_i, mp_p, mp_s]; rfl
end MLW
