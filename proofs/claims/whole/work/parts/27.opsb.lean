/-! ===== calls that change a little ===== -/
def cNow : Nat → Nat → Bool := fun p i => Nat.ble p 13 || (Nat.ble 37 p && (Nat.ble p 107 && !(Nat.beq p 68 && Nat.beq i 1)))
theorem cNow_mid {p i : Nat} (h : 14 ≤ p) (h2 : p ≤ 36) : cNow p i = false := by
  unfold cNow
  rw [nlf (by omega : 13 < p), nlf (by omega : p < 37)]; rfl
theorem cNow_in {p i : Nat} (h : cNow p i = false) : 13 < p ∧ (p < 37 ∨ 107 < p ∨ (p = 68 ∧ i = 1)) := by
  have h1 : 13 < p := by
    rcases Nat.lt_or_ge 13 p with e | e
    · exact e
    · unfold cNow at h
      rw [Nat.ble_eq_true_of_le e] at h
      exact nomatch (show true = false from h)
  refine ⟨h1, ?_⟩
  rcases Nat.lt_or_ge p 37 with e | e
  · exact Or.inl e
  · rcases Nat.lt_or_ge 107 p with e2 | e2
    · exact Or.inr (Or.inl e2)
    · refine Or.inr (Or.inr ?_)
      unfold cNow at h
      rw [nlf h1, Nat.ble_eq_true_of_le e, Nat.ble_eq_true_of_le e2] at h
      by_cases e3 : p = 68
      · by_cases e4 : i = 1
        · exact ⟨e3, e4⟩
        · rw [nbf e4, Bool.and_false] at h
          exact nomatch (show true = false from h)
      · rw [nbf e3] at h
        exact nomatch (show true = false from h)
theorem cScr_now {M M1 : Mem} (h : Fr cScr M M1) : Fr cNow M M1 := h.mono (fun p i hq => by
  obtain ⟨h1, h2⟩ := cNow_in hq
  by_cases e : p ≤ 36
  · exact cScr_lo e
  · rcases h2 with h2 | h2 | ⟨rfl, rfl⟩
    · omega
    · unfold cScr
      rw [nlf (by omega : 73 < p), nbf (by omega : p ≠ 74), nlf (by omega : 107 < p)]
      cases Nat.ble 37 p <;> cases Nat.ble 85 p <;> rfl
    · rfl)
theorem ImO.now {M M2 : Mem} {k b : Nat} (h : ImO M k b) (hb : b = 14 ∨ b = 25) (hF : Fr cNow M M2) : ImO M2 k b :=
  h.eq (hF 68 1 rfl) (hF 36 k rfl) (hF 109 k rfl) (fun p i a1 a2 => hF p i (cNow_mid (by omega) (by omega))) (fun i _ => hF 108 _ rfl)
theorem INVs.now {M M2 : Mem} {s s' : Stt} {np np' : Nat} {pd pd' : Nat → Nat} (hI : INVs M s np pd) (hF : Fr cNow M M2) (hS : SOK s') (hC : KpC M2 3 s') (hM : KpM M2 s') (hP : PdO M2 np' pd') : INVs M2 s' np' pd' :=
  ⟨hS, hC, hM, hP, hI.2.2.2.2.1.now (Or.inl rfl) hF, hI.2.2.2.2.2.now (Or.inr rfl) hF⟩
def sGu (s : Stt) (g v : Nat) : Stt := (s.1, fup s.2.1 g v, s.2.2.1, s.2.2.2)
theorem sGu_w {s : Stt} {g v c : Nat} (hg : 2 ≠ g) (hc : c < sG (sGu s g v) 2) : c < sG s 2 := by
  rw [show sG (sGu s g v) 2 = sG s 2 from fup_n hg] at hc; exact hc
theorem sGu_w2 {s : Stt} {v c : Nat} (hc : c < sG (sGu s 2 v) 2) : c < v := by
  rw [show sG (sGu s 2 v) 2 = v from fup_s s.2.1 2 v] at hc; exact hc
def sNu (s : Stt) (r v : Nat) : Stt := (s.1, s.2.1, fup s.2.2.1 r v, s.2.2.2)

theorem KpC_set0 {M : Mem} {s : Stt} {v : Nat} (h : KpN M s) : KpN (mput M 3 1 (nI v)) (sGu s 0 v) := by
  obtain ⟨h1, h2, h3, h4, h5, h6, h7, h8, h9⟩ := h
  refine ⟨(mp_p _ (by decide)).trans h1, fun t ht => ?_, (mp_s _ _ _ _).trans (congrArg nI (fup_s s.2.1 0 v).symm), ((mp_i _ (by decide)).trans h4).trans (congrArg nI (fup_n (f := s.2.1) (x := 0) (v := v) (y := 1) (by decide)).symm), ((mp_i _ (by decide)).trans h5).trans (congrArg nI (fup_n (f := s.2.1) (x := 0) (v := v) (y := 2) (by decide)).symm), ((mp_i _ (by decide)).trans h6).trans (congrArg nI (fup_n (f := s.2.1) (x := 0) (v := v) (y := 3) (by decide)).symm), ((mp_i _ (by decide)).trans h7).trans (congrArg nI (fup_n (f := s.2.1) (x := 0) (v := v) (y := 4) (by decide)).symm), fun r hr => (mp_p _ (by decide)).trans (h8 r hr), fun c hc => ?_⟩
  · obtain ⟨a1, a2, a3, a4⟩ := h2 t ht
    exact ⟨(mp_p _ (by decide)).trans a1, (mp_p _ (by decide)).trans a2, (mp_p _ (by decide)).trans a3, (mp_p _ (by decide)).trans a4⟩
  · obtain ⟨a1, a2, a3, a4⟩ := h9 c (sGu_w (g := 0) (by decide) hc)
    exact ⟨(mp_p _ (by decide)).trans a1, (mp_p _ (by decide)).trans a2, (mp_p _ (by decide)).trans a3, (mp_p _ (by decide)).trans a4⟩
theorem KpC_set1 {M : Mem} {s : Stt} {v : Nat} (h : KpN M s) : KpN (mput M 3 2 (nI v)) (sGu s 1 v) := by
  obtain ⟨h1, h2, h3, h4, h5, h6, h7, h8, h9⟩ := h
  refine ⟨(mp_p _ (by decide)).trans h1, fun t ht => ?_, ((mp_i _ (by decide)).trans h3).trans (congrArg nI (fup_n (f := s.2.1) (x := 1) (v := v) (y := 0) (by decide)).symm), (mp_s _ _ _ _).trans (congrArg nI (fup_s s.2.1 1 v).symm), ((mp_i _ (by decide)).trans h5).trans (congrArg nI (fup_n (f := s.2.1) (x := 1) (v := v) (y := 2) (by decide)).symm), ((mp_i _ (by decide)).trans h6).trans (congrArg nI (fup_n (f := s.2.1) (x := 1) (v := v) (y := 3) (by decide)).symm), ((mp_i _ (by decide)).trans h7).trans (congrArg nI (fup_n (f := s.2.1) (x := 1) (v := v) (y := 4) (by decide)).symm), fun r hr => (mp_p _ (by decide)).trans (h8 r hr), fun c hc => ?_⟩
  · obtain ⟨a1, a2, a3, a4⟩ := h2 t ht
    exact ⟨(mp_p _ (by decide)).trans a1, (mp_p _ (by decide)).trans a2, (mp_p _ (by decide)).trans a3, (mp_p _ (by decide)).trans a4⟩
  · obtain ⟨a1, a2, a3, a4⟩ := h9 c (sGu_w (g := 1) (by decide) hc)
    exact ⟨(mp_p _ (by decide)).trans a1, (mp_p _ (by decide)).trans a2, (mp_p _ (by decide)).trans a3, (mp_p _ (by decide)).trans a4⟩
theorem KpC_set2 {M : Mem} {s : Stt} {v : Nat} (h : KpN M s) (hv : v ≤ sG s 2) : KpN (mput M 3 8 (nI v)) (sGu s 2 v) := by
  obtain ⟨h1, h2, h3, h4, h5, h6, h7, h8, h9⟩ := h
  refine ⟨(mp_p _ (by decide)).trans h1, fun t ht => ?_, ((mp_i _ (by decide)).trans h3).trans (congrArg nI (fup_n (f := s.2.1) (x := 2) (v := v) (y := 0) (by decide)).symm), ((mp_i _ (by decide)).trans h4).trans (congrArg nI (fup_n (f := s.2.1) (x := 2) (v := v) (y := 1) (by decide)).symm), (mp_s _ _ _ _).trans (congrArg nI (fup_s s.2.1 2 v).symm), ((mp_i _ (by decide)).trans h6).trans (congrArg nI (fup_n (f := s.2.1) (x := 2) (v := v) (y := 3) (by decide)).symm), ((mp_i _ (by decide)).trans h7).trans (congrArg nI (fup_n (f := s.2.1) (x := 2) (v := v) (y := 4) (by decide)).symm), fun r hr => (mp_p _ (by decide)).trans (h8 r hr), fun c hc => ?_⟩
  · obtain ⟨a1, a2, a3, a4⟩ := h2 t ht
    exact ⟨(mp_p _ (by decide)).trans a1, (mp_p _ (by decide)).trans a2, (mp_p _ (by decide)).trans a3, (mp_p _ (by decide)).trans a4⟩
  · obtain ⟨a1, a2, a3, a4⟩ := h9 c (Nat.lt_of_lt_of_le (sGu_w2 hc) hv)
    exact ⟨(mp_p _ (by decide)).trans a1, (mp_p _ (by decide)).trans a2, (mp_p _ (by decide)).trans a3, (mp_p _ (by decide)).trans a4⟩
theorem KpC_set3 {M : Mem} {s : Stt} {v : Nat} (h : KpN M s) : KpN (mput M 3 10 (nI v)) (sGu s 3 v) := by
  obtain ⟨h1, h2, h3, h4, h5, h6, h7, h8, h9⟩ := h
  refine ⟨(mp_p _ (by decide)).trans h1, fun t ht => ?_, ((mp_i _ (by decide)).trans h3).trans (congrArg nI (fup_n (f := s.2.1) (x := 3) (v := v) (y := 0) (by decide)).symm), ((mp_i _ (by decide)).trans h4).trans (congrArg nI (fup_n (f := s.2.1) (x := 3) (v := v) (y := 1) (by decide)).symm), ((mp_i _ (by decide)).trans h5).trans (congrArg nI (fup_n (f := s.2.1) (x := 3) (v := v) (y := 2) (by decide)).symm), (mp_s _ _ _ _).trans (congrArg nI (fup_s s.2.1 3 v).symm), ((mp_i _ (by decide)).trans h7).trans (congrArg nI (fup_n (f := s.2.1) (x := 3) (v := v) (y := 4) (by decide)).symm), fun r hr => (mp_p _ (by decide)).trans (h8 r hr), fun c hc => ?_⟩
  · obtain ⟨a1, a2, a3, a4⟩ := h2 t ht
    exact ⟨(mp_p _ (by decide)).trans a1, (mp_p _ (by decide)).trans a2, (mp_p _ (by decide)).trans a3, (mp_p _ (by decide)).trans a4⟩
  · obtain ⟨a1, a2, a3, a4⟩ := h9 c (sGu_w (g := 3) (by decide) hc)
    exact ⟨(mp_p _ (by decide)).trans a1, (mp_p _ (by decide)).trans a2, (mp_p _ (by decide)).trans a3, (mp_p _ (by decide)).trans a4⟩
theorem KpC_set4 {M : Mem} {s : Stt} {v : Nat} (h : KpN M s) : KpN (mput M 3 9 (nI v)) (sGu s 4 v) := by
  obtain ⟨h1, h2, h3, h4, h5, h6, h7, h8, h9⟩ := h
  refine ⟨(mp_p _ (by decide)).trans h1, fun t ht => ?_, ((mp_i _ (by decide)).trans h3).trans (congrArg nI (fup_n (f := s.2.1) (x := 4) (v := v) (y := 0) (by decide)).symm), ((mp_i _ (by decide)).trans h4).trans (congrArg nI (fup_n (f := s.2.1) (x := 4) (v := v) (y := 1) (by decide)).symm), ((mp_i _ (by decide)).trans h5).trans (congrArg nI (fup_n (f := s.2.1) (x := 4) (v := v) (y := 2) (by decide)).symm), ((mp_i _ (by decide)).trans h6).trans (congrArg nI (fup_n (f := s.2.1) (x := 4) (v := v) (y := 3) (by decide)).symm), (mp_s _ _ _ _).trans (congrArg nI (fup_s s.2.1 4 v).symm), fun r hr => (mp_p _ (by decide)).trans (h8 r hr), fun c hc => ?_⟩
  · obtain ⟨a1, a2, a3, a4⟩ := h2 t ht
    exact ⟨(mp_p _ (by decide)).trans a1, (mp_p _ (by decide)).trans a2, (mp_p _ (by decide)).trans a3, (mp_p _ (by decide)).trans a4⟩
  · obtain ⟨a1, a2, a3, a4⟩ := h9 c (sGu_w (g := 4) (by decide) hc)
    exact ⟨(mp_p _ (by decide)).trans a1, (mp_p _ (by decide)).trans a2, (mp_p _ (by decide)).trans a3, (mp_p _ (by decide)).trans a4⟩
theorem KpM_set0 {M : Mem} {s : Stt} {v : Nat} (h : KpM M s) : KpM (mput M 74 5 (nI v)) (sGu s 0 v) := by
  obtain ⟨h1, h2, h3, h4, h5, h6, h7, h8, h9⟩ := h
  refine ⟨(mp_i _ (by decide)).trans h1, fun t ht => ?_, (mp_s _ _ _ _).trans (congrArg nI (fup_s s.2.1 0 v).symm), ((mp_i _ (by decide)).trans h4).trans (congrArg nI (fup_n (f := s.2.1) (x := 0) (v := v) (y := 1) (by decide)).symm), ((mp_i _ (by decide)).trans h5).trans (congrArg nI (fup_n (f := s.2.1) (x := 0) (v := v) (y := 2) (by decide)).symm), ((mp_i _ (by decide)).trans h6).trans (congrArg nI (fup_n (f := s.2.1) (x := 0) (v := v) (y := 3) (by decide)).symm), ((mp_i _ (by decide)).trans h7).trans (congrArg nI (fup_n (f := s.2.1) (x := 0) (v := v) (y := 4) (by decide)).symm), fun r hr => (mp_p _ (by decide)).trans (h8 r hr), fun c hc => ?_⟩
  · obtain ⟨a1, a2, a3, a4⟩ := h2 t ht
    exact ⟨(mp_p _ (by decide)).trans a1, (mp_p _ (by decide)).trans a2, (mp_p _ (by decide)).trans a3, (mp_p _ (by decide)).trans a4⟩
  · obtain ⟨a1, a2, a3, a4⟩ := h9 c (sGu_w (g := 0) (by decide) hc)
    exact ⟨(mp_p _ (by decide)).trans a1, (mp_p _ (by decide)).trans a2, (mp_p _ (by decide)).trans a3, (mp_p _ (by decide)).trans a4⟩
theorem KpM_set1 {M : Mem} {s : Stt} {v : Nat} (h : KpM M s) : KpM (mput M 74 6 (nI v)) (sGu s 1 v) := by
  obtain ⟨h1, h2, h3, h4, h5, h6, h7, h8, h9⟩ := h
  refine ⟨(mp_i _ (by decide)).trans h1, fun t ht => ?_, ((mp_i _ (by decide)).trans h3).trans (congrArg nI (fup_n (f := s.2.1) (x := 1) (v := v) (y := 0) (by decide)).symm), (mp_s _ _ _ _).trans (congrArg nI (fup_s s.2.1 1 v).symm), ((mp_i _ (by decide)).trans h5).trans (congrArg nI (fup_n (f := s.2.1) (x := 1) (v := v) (y := 2) (by decide)).symm), ((mp_i _ (by decide)).trans h6).trans (congrArg nI (fup_n (f := s.2.1) (x := 1) (v := v) (y := 3) (by decide)).symm), ((mp_i _ (by decide)).trans h7).trans (congrArg nI (fup_n (f := s.2.1) (x := 1) (v := v) (y := 4) (by decide)).symm), fun r hr => (mp_p _ (by decide)).trans (h8 r hr), fun c hc => ?_⟩
  · obtain ⟨a1, a2, a3, a4⟩ := h2 t ht
    exact ⟨(mp_p _ (by decide)).trans a1, (mp_p _ (by decide)).trans a2, (mp_p _ (by decide)).trans a3, (mp_p _ (by decide)).trans a4⟩
  · obtain ⟨a1, a2, a3, a4⟩ := h9 c (sGu_w (g := 1) (by decide) hc)
    exact ⟨(mp_p _ (by decide)).trans a1, (mp_p _ (by decide)).trans a2, (mp_p _ (by decide)).trans a3, (mp_p _ (by decide)).trans a4⟩
theorem KpM_set2 {M : Mem} {s : Stt} {v : Nat} (h : KpM M s) (hv : v ≤ sG s 2) : KpM (mput M 74 12 (nI v)) (sGu s 2 v) := by
  obtain ⟨h1, h2, h3, h4, h5, h6, h7, h8, h9⟩ := h
  refine ⟨(mp_i _ (by decide)).trans h1, fun t ht => ?_, ((mp_i _ (by decide)).trans h3).trans (congrArg nI (fup_n (f := s.2.1) (x := 2) (v := v) (y := 0) (by decide)).symm), ((mp_i _ (by decide)).trans h4).trans (congrArg nI (fup_n (f := s.2.1) (x := 2) (v := v) (y := 1) (by decide)).symm), (mp_s _ _ _ _).trans (congrArg nI (fup_s s.2.1 2 v).symm), ((mp_i _ (by decide)).trans h6).trans (congrArg nI (fup_n (f := s.2.1) (x := 2) (v := v) (y := 3) (by decide)).symm), ((mp_i _ (by decide)).trans h7).trans (congrArg nI (fup_n (f := s.2.1) (x := 2) (v := v) (y := 4) (by decide)).symm), fun r hr => (mp_p _ (by decide)).trans (h8 r hr), fun c hc => ?_⟩
  · obtain ⟨a1, a2, a3, a4⟩ := h2 t ht
    exact ⟨(mp_p _ (by decide)).trans a1, (mp_p _ (by decide)).trans a2, (mp_p _ (by decide)).trans a3, (mp_p _ (by decide)).trans a4⟩
  · obtain ⟨a1, a2, a3, a4⟩ := h9 c (Nat.lt_of_lt_of_le (sGu_w2 hc) hv)
    exact ⟨(mp_p _ (by decide)).trans a1, (mp_p _ (by decide)).trans a2, (mp_p _ (by decide)).trans a3, (mp_p _ (by decide)).trans a4⟩
theorem KpM_set3 {M : Mem} {s : Stt} {v : Nat} (h : KpM M s) : KpM (mput M 74 13 (nI v)) (sGu s 3 v) := by
  obtain ⟨h1, h2, h3, h4, h5, h6, h7, h8, h9⟩ := h
  refine ⟨(mp_i _ (by decide)).trans h1, fun t ht => ?_, ((mp_i _ (by decide)).trans h3).trans (congrArg nI (fup_n (f := s.2.1) (x := 3) (v := v) (y := 0) (by decide)).symm), ((mp_i _ (by decide)).trans h4).trans (congrArg nI (fup_n (f := s.2.1) (x := 3) (v := v) (y := 1) (by decide)).symm), ((mp_i _ (by decide)).trans h5).trans (congrArg nI (fup_n (f := s.2.1) (x := 3) (v := v) (y := 2) (by decide)).symm), (mp_s _ _ _ _).trans (congrArg nI (fup_s s.2.1 3 v).symm), ((mp_i _ (by decide)).trans h7).trans (congrArg nI (fup_n (f := s.2.1) (x := 3) (v := v) (y := 4) (by decide)).symm), fun r hr => (mp_p _ (by decide)).trans (h8 r hr), fun c hc => ?_⟩
  · obtain ⟨a1, a2, a3, a4⟩ := h2 t ht
    exact ⟨(mp_p _ (by decide)).trans a1, (mp_p _ (by decide)).trans a2, (mp_p _ (by decide)).trans a3, (mp_p _ (by decide)).trans a4⟩
  · obtain ⟨a1, a2, a3, a4⟩ := h9 c (sGu_w (g := 3) (by decide) hc)
    exact ⟨(mp_p _ (by decide)).trans a1, (mp_p _ (by decide)).trans a2, (mp_p _ (by decide)).trans a3, (mp_p _ (by decide)).trans a4⟩
theorem KpM_set4 {M : Mem} {s : Stt} {v : Nat} (h : KpM M s) : KpM (mput M 74 14 (nI v)) (sGu s 4 v) := by
  obtain ⟨h1, h2, h3, h4, h5, h6, h7, h8, h9⟩ := h
  refine ⟨(mp_i _ (by decide)).trans h1, fun t ht => ?_, ((mp_i _ (by decide)).trans h3).trans (congrArg nI (fup_n (f := s.2.1) (x := 4) (v := v) (y := 0) (by decide)).symm), ((mp_i _ (by decide)).trans h4).trans (congrArg nI (fup_n (f := s.2.1) (x := 4) (v := v) (y := 1) (by decide)).symm), ((mp_i _ (by decide)).trans h5).trans (congrArg nI (fup_n (f := s.2.1) (x := 4) (v := v) (y := 2) (by decide)).symm), ((mp_i _ (by decide)).trans h6).trans (congrArg nI (fup_n (f := s.2.1) (x := 4) (v := v) (y := 3) (by decide)).symm), (mp_s _ _ _ _).trans (congrArg nI (fup_s s.2.1 4 v).symm), fun r hr => (mp_p _ (by decide)).trans (h8 r hr), fun c hc => ?_⟩
  · obtain ⟨a1, a2, a3, a4⟩ := h2 t ht
    exact ⟨(mp_p _ (by decide)).trans a1, (mp_p _ (by decide)).trans a2, (mp_p _ (by decide)).trans a3, (mp_p _ (by decide)).trans a4⟩
  · obtain ⟨a1, a2, a3, a4⟩ := h9 c (sGu_w (g := 4) (by decide) hc)
    exact ⟨(mp_p _ (by decide)).trans a1, (mp_p _ (by decide)).trans a2, (mp_p _ (by decide)).trans a3, (mp_p _ (by decide)).trans a4⟩
theorem SOK_set0 {s : Stt} {v : Nat} (h : SOK s) (hv : 1 ≤ v ∧ v ≤ 60) : SOK (sGu s 0 v) := by
  obtain ⟨a1, a2, a3, a4, a5, a6, a7, a8, a9⟩ := h
  have e : ∀ i, sG (sGu s 0 v) i = fup s.2.1 0 v i := fun _ => rfl
  exact ⟨a1, a2, (by rw [e, fup_s]; exact hv), (by rw [e, fup_n (f := s.2.1) (x := 0) (v := v) (y := 1) (by decide)]; exact a4), (by rw [e, fup_n (f := s.2.1) (x := 0) (v := v) (y := 2) (by decide)]; exact a5), (by rw [e, fup_n (f := s.2.1) (x := 0) (v := v) (y := 3) (by decide)]; exact a6), (by rw [e, fup_n (f := s.2.1) (x := 0) (v := v) (y := 4) (by decide)]; exact a7), a8, (fun c hc => a9 c (sGu_w (g := 0) (by decide) hc))⟩
theorem SOK_set1 {s : Stt} {v : Nat} (h : SOK s) (hv : v < 256) : SOK (sGu s 1 v) := by
  obtain ⟨a1, a2, a3, a4, a5, a6, a7, a8, a9⟩ := h
  have e : ∀ i, sG (sGu s 1 v) i = fup s.2.1 1 v i := fun _ => rfl
  exact ⟨a1, a2, (by rw [e, fup_n (f := s.2.1) (x := 1) (v := v) (y := 0) (by decide)]; exact a3), (by rw [e, fup_s]; exact hv), (by rw [e, fup_n (f := s.2.1) (x := 1) (v := v) (y := 2) (by decide)]; exact a5), (by rw [e, fup_n (f := s.2.1) (x := 1) (v := v) (y := 3) (by decide)]; exact a6), (by rw [e, fup_n (f := s.2.1) (x := 1) (v := v) (y := 4) (by decide)]; exact a7), a8, (fun c hc => a9 c (sGu_w (g := 1) (by decide) hc))⟩
theorem SOK_set2 {s : Stt} {v : Nat} (h : SOK s) (hv : v ≤ sG s 2) : SOK (sGu s 2 v) := by
  obtain ⟨a1, a2, a3, a4, a5, a6, a7, a8, a9⟩ := h
  have e : ∀ i, sG (sGu s 2 v) i = fup s.2.1 2 v i := fun _ => rfl
  exact ⟨a1, a2, (by rw [e, fup_n (f := s.2.1) (x := 2) (v := v) (y := 0) (by decide)]; exact a3), (by rw [e, fup_n (f := s.2.1) (x := 2) (v := v) (y := 1) (by decide)]; exact a4), (by rw [e, fup_s]; exact Nat.le_trans hv a5), (by rw [e, fup_n (f := s.2.1) (x := 2) (v := v) (y := 3) (by decide)]; exact a6), (by rw [e, fup_n (f := s.2.1) (x := 2) (v := v) (y := 4) (by decide)]; exact a7), a8, (fun c hc => a9 c (Nat.lt_of_lt_of_le (sGu_w2 hc) hv))⟩
theorem SOK_set3 {s : Stt} {v : Nat} (h : SOK s) (hv : v < 8192) : SOK (sGu s 3 v) := by
  obtain ⟨a1, a2, a3, a4, a5, a6, a7, a8, a9⟩ := h
  have e : ∀ i, sG (sGu s 3 v) i = fup s.2.1 3 v i := fun _ => rfl
  exact ⟨a1, a2, (by rw [e, fup_n (f := s.2.1) (x := 3) (v := v) (y := 0) (by decide)]; exact a3), (by rw [e, fup_n (f := s.2.1) (x := 3) (v := v) (y := 1) (by decide)]; exact a4), (by rw [e, fup_n (f := s.2.1) (x := 3) (v := v) (y := 2) (by decide)]; exact a5), (by rw [e, fup_s]; exact hv), (by rw [e, fup_n (f := s.2.1) (x := 3) (v := v) (y := 4) (by decide)]; exact a7), a8, (fun c hc => a9 c (sGu_w (g := 3) (by decide) hc))⟩
theorem SOK_set4 {s : Stt} {v : Nat} (h : SOK s) (hv : v ≤ 99) : SOK (sGu s 4 v) := by
  obtain ⟨a1, a2, a3, a4, a5, a6, a7, a8, a9⟩ := h
  have e : ∀ i, sG (sGu s 4 v) i = fup s.2.1 4 v i := fun _ => rfl
  exact ⟨a1, a2, (by rw [e, fup_n (f := s.2.1) (x := 4) (v := v) (y := 0) (by decide)]; exact a3), (by rw [e, fup_n (f := s.2.1) (x := 4) (v := v) (y := 1) (by decide)]; exact a4), (by rw [e, fup_n (f := s.2.1) (x := 4) (v := v) (y := 2) (by decide)]; exact a5), (by rw [e, fup_n (f := s.2.1) (x := 4) (v := v) (y := 3) (by decide)]; exact a6), (by rw [e, fup_s]; exact hv), a8, (fun c hc => a9 c (sGu_w (g := 4) (by decide) hc))⟩
/-! the calls -/
theorem op_say : Op_say INV := by
  intro M L x1 hI
  obtain ⟨s, np, pd, hI⟩ := hI
  obtain ⟨hS, hC, hM, hP, hI0, hI1⟩ := id hI
  obtain ⟨p1, p2, p3, p4⟩ := id hP
  show P_X9_say x1 M L (fun r M1 L1 => P_X10_say x1 M1 L1 (fun r2 M2 L2 => r2 = r ∧ INV M2 L2))
  unfold P_X9_say
  rcases wi_cases x1 33 126 (Int32.ofInt 33) (Int32.ofInt 126) (Int64.ofNat 33) (Int64.ofNat 126) with ⟨k, k1, k2, rfl, k3, k4⟩ | ⟨k1, k3, k4⟩
  · refine pk_lt k 33 (fun c => by omega) (fun _ => pk_le k 126 (fun _ => ?_) (fun c => by omega))
    refine ⟨fun c => ?_, ?_⟩
    · rw [p1] at c ⊢
      have := (nI_ltI (a := np) (b := 60) (by omega) (by omega)).mp c
      exact pk_in np 60 this
    · by_cases c : np < 60
      · have cc : M 1 1 < Int32.ofInt 60 := by rw [p1]; exact nI_lt (b := 60) c (by decide)
        unfold f_X5_add g_X5_add
        rw [if_pos cc, if_pos cc]
        refine br_f (by decide) ?_
        unfold P_X10_say
        rw [p1, nI_clamp (by omega), nI_s, mp_s]
        have e16 : (mput (mput M 2 np (nI k)) 1 1 (nI (np + 1))) 74 16 = nI np := by rw [mp_p _ (by decide), mp_p _ (by decide)]; exact p2
        dsimp only
        rw [e16]
        refine br_1 (k4 _) (pk_eq np 60 (fun e => by omega) (fun _ => ⟨pk_in np 60 c, nI_s np, s, np + 1, fup pd np k, ?_⟩))
        rw [nI_clamp (by omega), nI_s]
        have hF : Fr cNow M (mput (mput (mput (mput M 2 np (nI k)) 1 1 (nI (np + 1))) 84 np (nI k)) 74 16 (nI (np + 1))) := ((((Fr.rf _ _).put rfl).put rfl).put rfl).put rfl
        refine hI.now hF hS (hC.eq (fun p i a b => ?_)) (hM.eq (fun i hi => ?_) (fun p i a b => ?_)) ⟨?_, ?_, by omega, fun i hi => ?_⟩
        · rw [mp_p _ (by omega), mp_p _ (by omega), mp_p _ (by omega), mp_p _ (by omega)]
        · rw [mp_i _ (by omega), mp_p _ (by decide), mp_p _ (by decide), mp_p _ (by decide)]
        · rw [mp_p _ (by omega), mp_p _ (by omega), mp_p _ (by omega), mp_p _ (by omega)]
        · rw [mp_p _ (by decide), mp_p _ (by decide), mp_s]
        · rw [mp_s]
        · simp (discharger := decide) only [mp_p]
          by_cases e : i = np
          · subst e
            rw [mp_s, mp_s, fup_s]
            exact ⟨rfl, rfl, k1, k2⟩
          · rw [mp_i _ e, mp_i _ e, fup_n e]
            simp (discharger := decide) only [mp_p]
            exact p4 i (by omega)
      · have cc : ¬ M 1 1 < Int32.ofInt 60 := by rw [p1]; exact nI_nlt (b := 60) (by omega) (by omega)
        unfold f_X5_add g_X5_add
        rw [if_neg cc, if_neg cc]
        refine br_t rfl ?_
        unfold P_X10_say
        dsimp only
        rw [p2]
        exact br_1 (k4 _) (pk_eq np 60 (fun _ => ⟨rfl, s, np, pd, hI⟩) (fun e => absurd (by omega) e))
  · have md : P_X10_say x1 M L (fun r2 M2 L2 => r2 = Int32.ofInt (-2) ∧ INV M2 L2) := by
      unfold P_X10_say
      exact br_0 (k4 M) ⟨rfl, s, np, pd, hI⟩
    refine br_c (fun _ => md) (fun c1 => br_c (fun c2 => ?_) (fun _ => md))
    rcases k1 with k1 | k1
    · exact absurd k1 c1
    · exact absurd c2 (Int32.not_le.mpr k1)
theorem op_wipe : Op_wipe INV := by
  intro M L hI
  obtain ⟨s, np, pd, hI⟩ := hI
  obtain ⟨hS, hC, hM, hP, hI0, hI1⟩ := id hI
  obtain ⟨p1, p2, p3, p4⟩ := id hP
  show P_X9_wipe M L (fun r M1 L1 => P_X10_wipe M1 L1 (fun r2 M2 L2 => r2 = r ∧ INV M2 L2))
  unfold P_X9_wipe P_X10_wipe f_X5_empty g_X5_empty
  dsimp only
  rw [mp_p _ (by decide), p1, p2]
  have hF : Fr cNow M (mput (mput M 1 1 (Int32.ofInt 0)) 74 16 (Int32.ofInt 0)) := ((Fr.rf _ _).put rfl).put rfl
  refine ⟨rfl, s, 0, pd, hI.now hF hS (hC.eq (fun p i a b => ?_)) (hM.eq (fun i hi => ?_) (fun p i a b => ?_)) ⟨?_, ?_, by omega, fun i hi => by omega⟩⟩
  · rw [mp_p _ (by omega), mp_p _ (by omega)]
  · rw [mp_i _ (by omega), mp_p _ (by decide)]
  · rw [mp_p _ (by omega), mp_p _ (by omega)]
  · rw [mp_p _ (by decide), mp_s]; rfl
  · rw [mp_s]; rfl
theorem op_tube : Op_tube INV := by
  intro M L x1 x2 hI
  obtain ⟨s, np, pd, hI⟩ := hI
  obtain ⟨hS, hC, hM, hP, hI0, hI1⟩ := id hI
  show P_X9_tube x1 x2 M L (fun r M1 L1 => P_X10_tube x1 x2 M1 L1 (fun r2 M2 L2 => r2 = r ∧ INV M2 L2))
  unfold P_X9_tube P_X10_tube
  have h12 := hS.2.1
  dsimp only
  rw [hC.hc.1, hM.hm.1]
  rcases in_lt x1 (qn (sH s)) (by omega) with ⟨k, k1, rfl, k3⟩ | ⟨k1, k3⟩
  · obtain ⟨a1, a2, a3, a4⟩ := hC.hc.2 k k1
    obtain ⟨b1, b2, b3, b4⟩ := hM.hm.2 k k1
    have i1 : vp_in (nI k) 12 := pk_in k 12 (by omega)
    have i2 : vp_in (nI k) 13 := pk_in k 13 (by omega)
    rw [nI_clamp (by omega), a1, a2, a3, a4, b1, b2, b3, b4]
    refine br_f (nI_pos (by omega)) (pk_lt k (qn (sH s)) (fun _ => ?_) (fun c => by omega))
    have iv : INV M L := ⟨s, np, pd, hI⟩
    refine br_c (fun c0 => ⟨i1, br_1 (k3 _) (br_t c0 ⟨i2, rfl, iv⟩)⟩) (fun c0 => br_c (fun c1 => ⟨i1, br_1 (k3 _) (br_f c0 (br_t c1 ⟨i2, rfl, iv⟩))⟩) (fun c1 => br_c (fun c2 => ⟨i1, br_1 (k3 _) (br_f c0 (br_f c1 (br_t c2 ⟨i2, rfl, iv⟩)))⟩) (fun c2 => br_c (fun c3 => ⟨i1, br_1 (k3 _) (br_f c0 (br_f c1 (br_f c2 (br_t c3 ⟨i2, rfl, iv⟩))))⟩) (fun c3 => br_1 (k3 _) (br_f c0 (br_f c1 (br_f c2 (br_f c3 ⟨rfl, iv⟩))))))))
  · have iv : INV M L := ⟨s, np, pd, hI⟩
    rcases k1 with k1 | ⟨k1, k2⟩
    · exact br_t k1 (br_0 (k3 _) ⟨rfl, iv⟩)
    · exact br_f k1 (br_f (Int32.not_lt.mpr k2) (br_0 (k3 _) ⟨rfl, iv⟩))
theorem op_set : Op_set INV := by
  intro M L x1 x2 hI
  obtain ⟨s, np, pd, hI⟩ := hI
  obtain ⟨hS, hC, hM, hP, hI0, hI1⟩ := id hI
  have iv : INV M L := ⟨s, np, pd, hI⟩
  show P_X9_set x1 x2 M L (fun r M1 L1 => P_X10_set x1 x2 M1 L1 (fun r2 M2 L2 => r2 = r ∧ INV M2 L2))
  unfold P_X9_set P_X10_set
  rcases wi_cases x1 0 1 (Int32.ofInt 0) (Int32.ofInt 1) (Int64.ofNat 0) (Int64.ofNat 1) with ⟨k, k1, k2, rfl, k3, k4⟩ | ⟨k1, k3, k4⟩
  · rcases (by omega : k = 0 ∨ k = 1) with rfl | rfl
    · refine br_t rfl ?_
      rcases wi_cases x2 1 60 (Int32.ofInt 1) (Int32.ofInt 60) (Int64.ofNat 1) (Int64.ofNat 60) with ⟨v, v1, v2, rfl, v3, v4⟩ | ⟨v1, v3, v4⟩
      · refine br_1 (v3 M) (br_1 (k4 _) (br_t rfl (br_1 (v4 _) (br_f (by decide) ?_))))
        dsimp only
        rw [mp_p _ (by decide), hC.car, hM.car]
        refine ⟨rfl, sGu s 0 v, np, pd, hI.now ((((Fr.rf _ _).put rfl).put rfl).put rfl) (SOK_set0 hS ⟨v1, v2⟩) (?_ : KpC _ 3 _) ?_ (hP.eq ?_ ?_ (fun i => ?_) (fun i => ?_))⟩
        · exact KpC.eq (M := mput M 3 1 (nI v)) (b := 3) (s := sGu s 0 v) (KpC_set0 (v := v) hC) (fun p i a b => by rw [mp_p _ (by omega), mp_p _ (by omega)])
        · exact (KpM_set0 (v := v) hM).eq (fun i hi => by rcases hi with rfl | rfl | rfl | rfl | rfl | rfl <;> simp (discharger := decide) only [mp_s, mp_i, mp_p]) (fun p i a b => by rw [mp_p _ (by omega), mp_p _ (by omega), mp_p _ (by omega), mp_p _ (by omega)])
        · simp (discharger := decide) only [mp_p]
        · simp (discharger := decide) only [mp_i, mp_p]
        · simp (discharger := decide) only [mp_p]
        · simp (discharger := decide) only [mp_p]
      · exact br_0 (v3 M) (br_f (by decide) (br_1 (k4 _) (br_t rfl (br_0 (v4 _) ⟨rfl, iv⟩))))
    · refine br_f one_ne (br_t rfl ?_)
      rcases wi_cases x2 0 255 (Int32.ofInt 0) (Int32.ofInt 255) (Int64.ofNat 0) (Int64.ofNat 255) with ⟨v, v1, v2, rfl, v3, v4⟩ | ⟨v1, v3, v4⟩
      · refine br_1 (v3 M) (br_1 (k4 _) (br_f one_ne (br_1 (v4 _) (br_t rfl ?_))))
        dsimp only
        rw [mp_p _ (by decide), hC.sto, hM.sto]
        refine ⟨rfl, sGu s 1 v, np, pd, hI.now ((((Fr.rf _ _).put rfl).put rfl).put rfl) (SOK_set1 hS (by omega)) (?_ : KpC _ 3 _) ?_ (hP.eq ?_ ?_ (fun i => ?_) (fun i => ?_))⟩
        · exact KpC.eq (M := mput M 3 2 (nI v)) (b := 3) (s := sGu s 1 v) (KpC_set1 (v := v) hC) (fun p i a b => by rw [mp_p _ (by omega), mp_p _ (by omega)])
        · exact (KpM_set1 (v := v) hM).eq (fun i hi => by rcases hi with rfl | rfl | rfl | rfl | rfl | rfl <;> simp (discharger := decide) only [mp_s, mp_i, mp_p]) (fun p i a b => by rw [mp_p _ (by omega), mp_p _ (by omega), mp_p _ (by omega), mp_p _ (by omega)])
        · simp (discharger := decide) only [mp_p]
        · simp (discharger := decide) only [mp_i, mp_p]
        · simp (discharger := decide) only [mp_p]
        · simp (discharger := decide) only [mp_p]
      · exact br_0 (v3 M) (br_1 (k4 _) (br_f one_ne (br_0 (v4 _) ⟨rfl, iv⟩)))
  · have c0 : ¬ x1 = 0 := fun e => by
      rcases k1 with k1 | k1
      · rw [e] at k1; exact absurd k1 (by decide)
      · rw [e] at k1; exact absurd k1 (by decide)
    have c1 : ¬ x1 = Int32.ofInt 1 := fun e => by
      rcases k1 with k1 | k1
      · rw [e] at k1; exact absurd k1 (by decide)
      · rw [e] at k1; exact absurd k1 (by decide)
    exact br_f c0 (br_f c1 (br_0 (k4 _) ⟨rfl, iv⟩))
theorem op_clear : Op_clear INV := by
  intro M L hI
  obtain ⟨s, np, pd, hI⟩ := hI
  obtain ⟨hS, hC, hM, hP, hI0, hI1⟩ := id hI
  show P_X9_clear M L (fun r M1 L1 => P_X10_clear M1 L1 (fun r2 M2 L2 => r2 = r ∧ INV M2 L2))
  unfold P_X9_clear P_X10_clear
  dsimp only
  rw [mp_p _ (by decide), hC.wai, hM.wai]
  refine ⟨rfl, sGu s 2 0, np, pd, hI.now (((Fr.rf _ _).put rfl).put rfl) (SOK_set2 hS (by omega)) (?_ : KpC _ 3 _) ?_ (hP.eq ?_ ?_ (fun i => ?_) (fun i => ?_))⟩
  · exact KpC.eq (M := mput M 3 8 (nI 0)) (b := 3) (s := sGu s 2 0) (KpC_set2 (v := 0) hC (by omega)) (fun p i a b => by rw [mp_p _ (by omega)]; rfl)
  · exact (KpM_set2 (v := 0) hM (by omega)).eq (fun i hi => by rcases hi with rfl | rfl | rfl | rfl | rfl | rfl <;> simp (discharger := decide) only [mp_s, mp_i, mp_p] <;> rfl) (fun p i a b => by rw [mp_p _ (by omega), mp_p _ (by omega), mp_p _ (by omega)])
  · simp (discharger := decide) only [mp_p]
  · simp (discharger := decide) only [mp_i, mp_p]
  · simp (discharger := decide) only [mp_p]
  · simp (discharger := decide) only [mp_p]

