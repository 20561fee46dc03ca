/-! ===== calls that change a little ===== -/
def cNow : Nat → Nat → Bool := fun p i => Nat.ble p 13 || (Nat.ble 37 p && (Nat.ble p 107 && !(Nat.beq p 68 && Nat.beq i 1)))
theorem cNow_mid {p i : Nat} (h : 14 ≤ p) (h2 : p ≤ 36) : cNow p i = false := by
  unfold cNow
  rw [nlf (by omega : 13 < p), nlf (by omega : p < 37)]; rfl
theorem cNow_in {p i : Nat} (h : cNow p i = false) : 13 < p ∧ (p < 37 ∨ 107 < p ∨ (p = 68 ∧ i = 1)) := by
  have h1 : 13 < p := by
    rcases Nat.lt_or_ge 13 p with e | e
    · exact e
    · unfold cNow at h
      rw [Nat.ble_eq_true_of_le e] at h
      exact nomatch (show true = false from h)
  refine ⟨h1, ?_⟩
  rcases Nat.lt_or_ge p 37 with e | e
  · exact Or.inl e
  · rcases Nat.lt_or_ge 107 p with e2 | e2
    · exact Or.inr (Or.inl e2)
    · refine Or.inr (Or.inr ?_)
      unfold cNow at h
      rw [nlf h1, Nat.ble_eq_true_of_le e, Nat.ble_eq_true_of_le e2] at h
      by_cases e3 : p = 68
      · by_cases e4 : i = 1
        · exact ⟨e3, e4⟩
        · rw [nbf e4, Bool.and_false] at h
          exact nomatch (show true = false from h)
      · rw [nbf e3] at h
        exact nomatch (show true = false from h)
def sGu (s : Stt) (g v : Nat) : Stt := (s.1, fup s.2.1 g v, s.2.2.1, s.2.2.2)
theorem sGu_w {s : Stt} {g v c : Nat} (hg : 2 ≠ g) (hc : c < sG (sGu s g v) 2) : c < sG s 2 := by
  rw [show sG (sGu s g v) 2 = sG s 2 from fup_n hg] at hc; exact hc
theorem sGu_w2 {s : Stt} {v c : Nat} (hc : c < sG (sGu s 2 v) 2) : c < v := by
  rw [show sG (sGu s 2 v) 2 = v from fup_s s.2.1 2 v] at hc; exact hc
def sNu (s : Stt) (r v : Nat) : Stt := (s.1, s.2.1, fup s.2.2.1 r v, s.2.2.2)

theorem KpC_set0 {M : Mem} {s : Stt} {v : Nat} (h : KpN M s) : KpN (mput M 3 1 (nI v)) (sGu s 0 v) := by
  obtain ⟨h1, h2, h3, h4, h5, h6, h7, h8, h9⟩ := h
  refine ⟨(mp_p _ (by decide)).trans h1, fun t ht => ?_, (mp_s _ _ _ _).trans (congrArg nI (fup_s s.2.1 0 v).symm), ((mp_i _ (by decide)).trans h4).trans (congrArg nI (fup_n (f := s.2.1) (x := 0) (v := v) (y := 1) (by decide)).symm), ((mp_i _ (by decide)).trans h5).trans (congrArg nI (fup_n (f := s.2.1) (x := 0) (v := v) (y := 2) (by decide)).symm), ((mp_i _ (by decide)).trans h6).trans (congrArg nI (fup_n (f := s.2.1) (x := 0) (v := v) (y := 3) (by decide)).symm), ((mp_i _ (by decide)).trans h7).trans (congrArg nI (fup_n (f := s.2.1) (x := 0) (v := v) (y := 4) (by decide)).symm), fun r hr => (mp_p _ (by decide)).trans (h8 r hr), fun c hc => ?_⟩
  · obtain ⟨a1, a2, a3, a4⟩ := h2 t ht
    exact ⟨(mp_p _ (by decide)).trans a1, (mp_p _ (by decide)).trans a2, (mp_p _ (by decide)).trans a3, (mp_p _ (by decide)).trans a4⟩
  · obtain ⟨a1, a2, a3, a4⟩ := h9 c (sGu_w (g := 0) (by decide) hc)
    exact ⟨(mp_p _ (by decide)).trans a1, (mp_p _ (by decide)).trans a2, (mp_p _ (by decide)).trans a3, (mp_p _ (by decide)).trans a4⟩
theorem KpC_set1 {M : Mem} {s : Stt} {v : Nat} (h : KpN M s) : KpN (mput M 3 2 (nI v)) (sGu s 1 v) := by
  obtain ⟨h1, h2, h3, h4, h5, h6, h7, h8, h9⟩ := h
  refine ⟨(mp_p _ (by decide)).trans h1, fun t ht => ?_, ((mp_i _ (by decide)).trans h3).trans (congrArg nI (fup_n (f := s.2.1) (x := 1) (v := v) (y := 0) (by decide)).symm), (mp_s _ _ _ _).trans (congrArg nI (fup_s s.2.1 1 v).symm), ((mp_i _ (by decide)).trans h5).trans (congrArg nI (fup_n (f := s.2.1) (x := 1) (v := v) (y := 2) (by decide)).symm), ((mp_i _ (by decide)).trans h6).trans (congrArg nI (fup_n (f := s.2.1) (x := 1) (v := v) (y := 3) (by decide)).symm), ((mp_i _ (by decide)).trans h7).trans (congrArg nI (fup_n (f := s.2.1) (x := 1) (v := v) (y := 4) (by decide)).symm), fun r hr => (mp_p _ (by decide)).trans (h8 r hr), fun c hc => ?_⟩
  · obtain ⟨a1, a2, a3, a4⟩ := h2 t ht
    exact ⟨(mp_p _ (by decide)).trans a1, (mp_p _ (by decide)).trans a2, (mp_p _ (by decide)).trans a3, (mp_p _ (by decide)).trans a4⟩
  · obtain ⟨a1, a2, a3, a4⟩ := h9 c (sGu_w (g := 1) (by decide) hc)
    exact ⟨(mp_p _ (by decide)).trans a1, (mp_p _ (by decide)).trans a2, (mp_p _ (by decide)).trans a3, (mp_p _ (by decide)).trans a4⟩
theorem KpC_set2 {M : Mem} {s : Stt} {v : Nat} (h : KpN M s) (hv : v ≤ sG s 2) : KpN (mput M 3 8 (nI v)) (sGu s 2 v) := by
  obtain ⟨h1, h2, h3, h4, h5, h6, h7, h8, h9⟩ := h
  refine ⟨(mp_p _ (by decide)).trans h1, fun t ht => ?_, ((mp_i _ (by decide)).trans h3).trans (congrArg nI (fup_n (f := s.2.1) (x := 2) (v := v) (y := 0) (by decide)).symm), ((mp_i _ (by decide)).trans h4).trans (congrArg nI (fup_n (f := s.2.1) (x := 2) (v := v) (y := 1) (by decide)).symm), (mp_s _ _ _ _).trans (congrArg nI (fup_s s.2.1 2 v).symm), ((mp_i _ (by decide)).trans h6).trans (congrArg nI (fup_n (f := s.2.1) (x := 2) (v := v) (y := 3) (by decide)).symm), ((mp_i _ (by decide)).trans h7).trans (congrArg nI (fup_n (f := s.2.1) (x := 2) (v := v) (y := 4) (by decide)).symm), fun r hr => (mp_p _ (by decide)).trans (h8 r hr), fun c hc => ?_⟩
  · obtain ⟨a1, a2, a3, a4⟩ := h2 t ht
    exact ⟨(mp_p _ (by decide)).trans a1, (mp_p _ (by decide)).trans a2, (mp_p _ (by decide)).trans a3, (mp_p _ (by decide)).trans a4⟩
  · obtain ⟨a1, a2, a3, a4⟩ := h9 c (Nat.lt_of_lt_of_le (sGu_w2 hc) hv)
    exact ⟨(mp_p _ (by decide)).trans a1, (mp_p _ (by decide)).trans a2, (mp_p _ (by decide)).trans a3, (mp_p _ (by decide)).trans a4⟩
theorem KpC_set3 {M : Mem} {s : Stt} {v : Nat} (h : KpN M s) : KpN (mput M 3 10 (nI v)) (sGu s 3 v) := by
  obtain ⟨h1, h2, h3, h4, h5, h6, h7, h8, h9⟩ := h
  refine ⟨(mp_p _ (by decide)).trans h1, fun t ht => ?_, ((mp_i _ (by decide)).trans h3).trans (congrArg nI (fup_n (f := s.2.1) (x := 3) (v := v) (y := 0) (by decide)).symm), ((mp_i _ (by decide)).trans h4).trans (congrArg nI (fup_n (f := s.2.1) (x := 3) (v := v) (y := 1) (by decide)).symm), ((mp_i _ (by decide)).trans h5).trans (congrArg nI (fup_n (f := s.2.1) (x := 3) (v := v) (y := 2) (by decide)).symm), (mp_s _ _ _ _).trans (congrArg nI (fup_s s.2.1 3 v).symm), ((mp_i _ (by decide)).trans h7).trans (congrArg nI (fup_n (f := s.2.1) (x := 3) (v := v) (y := 4) (by decide)).symm), fun r hr => (mp_p _ (by decide)).trans (h8 r hr), fun c hc => ?_⟩
  · obtain ⟨a1, a2, a3, a4⟩ := h2 t ht
    exact ⟨(mp_p _ (by decide)).trans a1, (mp_p _ (by decide)).trans a2, (mp_p _ (by decide)).trans a3, (mp_p _ (by decide)).trans a4⟩
  · obtain ⟨a1, a2, a3, a4⟩ := h9 c (sGu_w (g := 3) (by decide) hc)
    exact ⟨(mp_p _ (by decide)).trans a1, (mp_p _ (by decide)).trans a2, (mp_p _ (by decide)).trans a3, (mp_p _ (by decide)).trans a4⟩
theorem KpC_set4 {M : Mem} {s : Stt} {v : Nat} (h : KpN M s) : KpN (mput M 3 9 (nI v)) (sGu s 4 v) := by
  obtain ⟨h1, h2, h3, h4, h5, h6, h7, h8, h9⟩ := h
  refine ⟨(mp_p _ (by decide)).trans h1, fun t ht => ?_, ((mp_i _ (by decide)).trans h3).trans (congrArg nI (fup_n (f := s.2.1) (x := 4) (v := v) (y := 0) (by decide)).symm), ((mp_i _ (by decide)).trans h4).trans (congrArg nI (fup_n (f := s.2.1) (x := 4) (v := v) (y := 1) (by decide)).symm), ((mp_i _ (by decide)).trans h5).trans (congrArg nI (fup_n (f := s.2.1) (x := 4) (v := v) (y := 2) (by decide)).symm), ((mp_i _ (by decide)).trans h6).trans (congrArg nI (fup_n (f := s.2.1) (x := 4) (v := v) (y := 3) (by decide)).symm), (mp_s _ _ _ _).trans (congrArg nI (fup_s s.2.1 4 v).symm), fun r hr => (mp_p _ (by decide)).trans (h8 r hr), fun c hc => ?_⟩
  · obtain ⟨a1, a2, a3, a4⟩ := h2 t ht
    exact ⟨(mp_p _ (by decide)).trans a1, (mp_p _ (by decide)).trans a2, (mp_p _ (by decide)).trans a3, (mp_p _ (by decide)).trans a4⟩
  · obtain ⟨a1, a2, a3, a4⟩ := h9 c (sGu_w (g := 4) (by decide) hc)
    exact ⟨(mp_p _ (by decide)).trans a1, (mp_p _ (by decide)).trans a2, (mp_p _ (by decide)).trans a3, (mp_p _ (by decide)).trans a4⟩
theorem SOK_set0 {s : Stt} {v : Nat} (h : SOK s) (hv : 1 ≤ v ∧ v ≤ 60) : SOK (sGu s 0 v) := by
  obtain ⟨a1, a2, a3, a4, a5, a6, a7, a8, a9⟩ := h
  have e : ∀ i, sG (sGu s 0 v) i = fup s.2.1 0 v i := fun _ => rfl
  exact ⟨a1, a2, (by rw [e, fup_s]; exact hv), (by rw [e, fup_n (f := s.2.1) (x := 0) (v := v) (y := 1) (by decide)]; exact a4), (by rw [e, fup_n (f := s.2.1) (x := 0) (v := v) (y := 2) (by decide)]; exact a5), (by rw [e, fup_n (f := s.2.1) (x := 0) (v := v) (y := 3) (by decide)]; exact a6), (by rw [e, fup_n (f := s.2.1) (x := 0) (v := v) (y := 4) (by decide)]; exact a7), a8, (fun c hc => a9 c (sGu_w (g := 0) (by decide) hc))⟩
theorem SOK_set1 {s : Stt} {v : Nat} (h : SOK s) (hv : v < 256) : SOK (sGu s 1 v) := by
  obtain ⟨a1, a2, a3, a4, a5, a6, a7, a8, a9⟩ := h
  have e : ∀ i, sG (sGu s 1 v) i = fup s.2.1 1 v i := fun _ => rfl
  exact ⟨a1, a2, (by rw [e, fup_n (f := s.2.1) (x := 1) (v := v) (y := 0) (by decide)]; exact a3), (by rw [e, fup_s]; exact hv), (by rw [e, fup_n (f := s.2.1) (x := 1) (v := v) (y := 2) (by decide)]; exact a5), (by rw [e, fup_n (f := s.2.1) (x := 1) (v := v) (y := 3) (by decide)]; exact a6), (by rw [e, fup_n (f := s.2.1) (x := 1) (v := v) (y := 4) (by decide)]; exact a7), a8, (fun c hc => a9 c (sGu_w (g := 1) (by decide) hc))⟩
theorem SOK_set2 {s : Stt} {v : Nat} (h : SOK s) (hv : v ≤ sG s 2) : SOK (sGu s 2 v) := by
  obtain ⟨a1, a2, a3, a4, a5, a6, a7, a8, a9⟩ := h
  have e : ∀ i, sG (sGu s 2 v) i = fup s.2.1 2 v i := fun _ => rfl
  exact ⟨a1, a2, (by rw [e, fup_n (f := s.2.1) (x := 2) (v := v) (y := 0) (by decide)]; exact a3), (by rw [e, fup_n (f := s.2.1) (x := 2) (v := v) (y := 1) (by decide)]; exact a4), (by rw [e, fup_s]; exact Nat.le_trans hv a5), (by rw [e, fup_n (f := s.2.1) (x := 2) (v := v) (y := 3) (by decide)]; exact a6), (by rw [e, fup_n (f := s.2.1) (x := 2) (v := v) (y := 4) (by decide)]; exact a7), a8, (fun c hc => a9 c (Nat.lt_of_lt_of_le (sGu_w2 hc) hv))⟩
theorem SOK_set3 {s : Stt} {v : Nat} (h : SOK s) (hv : v < 8192) : SOK (sGu s 3 v) := by
  obtain ⟨a1, a2, a3, a4, a5, a6, a7, a8, a9⟩ := h
  have e : ∀ i, sG (sGu s 3 v) i = fup s.2.1 3 v i := fun _ => rfl
  exact ⟨a1, a2, (by rw [e, fup_n (f := s.2.1) (x := 3) (v := v) (y := 0) (by decide)]; exact a3), (by rw [e, fup_n (f := s.2.1) (x := 3) (v := v) (y := 1) (by decide)]; exact a4), (by rw [e, fup_n (f := s.2.1) (x := 3) (v := v) (y := 2) (by decide)]; exact a5), (by rw [e, fup_s]; exact hv), (by rw [e, fup_n (f := s.2.1) (x := 3) (v := v) (y := 4) (by decide)]; exact a7), a8, (fun c hc => a9 c (sGu_w (g := 3) (by decide) hc))⟩
theorem SOK_set4 {s : Stt} {v : Nat} (h : SOK s) (hv : v ≤ 99) : SOK (sGu s 4 v) := by
  obtain ⟨a1, a2, a3, a4, a5, a6, a7, a8, a9⟩ := h
  have e : ∀ i, sG (sGu s 4 v) i = fup s.2.1 4 v i := fun _ => rfl
  exact ⟨a1, a2, (by rw [e, fup_n (f := s.2.1) (x := 4) (v := v) (y := 0) (by decide)]; exact a3), (by rw [e, fup_n (f := s.2.1) (x := 4) (v := v) (y := 1) (by decide)]; exact a4), (by rw [e, fup_n (f := s.2.1) (x := 4) (v := v) (y := 2) (by decide)]; exact a5), (by rw [e, fup_n (f := s.2.1) (x := 4) (v := v) (y := 3) (by decide)]; exact a6), (by rw [e, fup_s]; exact hv), a8, (fun c hc => a9 c (sGu_w (g := 4) (by decide) hc))⟩
/-! the calls -/
