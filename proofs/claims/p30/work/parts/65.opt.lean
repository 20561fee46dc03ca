/-! ===== tries: what the next one parts; fewer candidates need no more tries ===== -/
theorem tS_ext {s s' : Stt} (hv : ∀ k, vld s' k ↔ vld s k) (hw : ∀ k, wk s' k = wk s k) (S : Nat) : tS s' S = tS s S := by
  have ht : ∀ (T T' : Nat → Nat) (S : Nat), (∀ q, T q = T' q) → ∀ k, tfo s' T S k = tfo s T' S k := by
    intro T T' S hT k
    induction k with
    | zero => rfl
    | succ k ih =>
      by_cases c : vld s k ∧ spl S (wk s k)
      · have c' : vld s' k ∧ spl S (wk s' k) := ⟨(hv k).mpr c.1, by rw [hw]; exact c.2⟩
        rw [tfo_yes c, tfo_yes c', ih, hw, hT, hT]
      · have c' : ¬ (vld s' k ∧ spl S (wk s' k)) := fun e => c ⟨(hv k).mp e.1, by rw [← hw]; exact e.2⟩
        rw [tfo_no c, tfo_no c', ih]
  have hF : ∀ n S, tF s' n S = tF s n S := by
    intro n
    induction n with
    | zero => intro S; rfl
    | succ n ih =>
      intro S
      rw [tF, tF]
      split
      · rfl
      · exact ht _ _ S ih 80
  exact hF 14 S
theorem tS_g {s : Stt} {g v : Nat} (hg : 0 ≠ g) (S : Nat) : tS (sGu s g v) S = tS s S := by
  have h0 : sG (sGu s g v) 0 = sG s 0 := fup_n hg
  have hh : sH (sGu s g v) = sH s := rfl
  refine tS_ext (fun k => ?_) (fun k => ?_) S
  · unfold vld; rw [h0, hh]
  · unfold wk wm; rw [h0, hh]
theorem wm_g {s : Stt} {g v : Nat} (hg : 0 ≠ g) (x y : Nat) : wm (sGu s g v) x y = wm s x y := by
  have h0 : sG (sGu s g v) 0 = sG s 0 := fup_n hg
  have hh : sH (sGu s g v) = sH s := rfl
  unfold wm; rw [h0, hh]
theorem pop_sub {S c : Nat} (h : ∀ i, S.testBit i = true → c.testBit i = true) : popN S ≤ popN c := cnt_le 13 (fun i _ hi => h i hi)
theorem tS_mono (s : Stt) : ∀ (N S S' : Nat), popN S < N → S < 8192 → S' < 8192 → (∀ i, S'.testBit i = true → S.testBit i = true) → tS s S' ≤ tS s S := by
  intro N
  induction N with
  | zero => intro S S' h; omega
  | succ N ih =>
    intro S S' hN hS hS' hsub
    by_cases c : popN S < 2
    · have := pop_sub hsub
      rw [tS_1 (show popN S' < 2 by omega)]
      exact Nat.zero_le _
    · by_cases c' : popN S' < 2
      · rw [tS_1 c']; exact Nat.zero_le _
      · have e1 := tS_2 (s := s) hS c
        rcases (tfo_le s (tS s) S 80).2.2 with e | ⟨j, j1, j2, j3, j4⟩
        · rw [e1, e]; exact tS_le hS'
        · have hp := spl_pop hS j3
          have l1 : S &&& wk s j ≤ S := Nat.and_le_left
          have l2 := sdf_le S (wk s j)
          have l3 : S' &&& wk s j ≤ S' := Nat.and_le_left
          have l4 := sdf_le S' (wk s j)
          have hm := mx_le (tS s (S &&& wk s j)) (tS s (sdf S (wk s j)))
          have sub1 : ∀ i, (S' &&& wk s j).testBit i = true → (S &&& wk s j).testBit i = true := fun i hi => by
            rw [Nat.testBit_and, Bool.and_eq_true] at hi ⊢
            exact ⟨hsub i hi.1, hi.2⟩
          have sub2 : ∀ i, (sdf S' (wk s j)).testBit i = true → (sdf S (wk s j)).testBit i = true := fun i hi => by
            rw [sdf_bit hS', Bool.and_eq_true] at hi
            rw [sdf_bit hS, Bool.and_eq_true]
            exact ⟨hsub i hi.1, hi.2⟩
          have i1 := ih (S &&& wk s j) (S' &&& wk s j) (by omega) (by omega) (by omega) sub1
          have i2 := ih (sdf S (wk s j)) (sdf S' (wk s j)) (by omega) (by omega) (by omega) sub2
          rw [e1, j4]
          by_cases d : spl S' (wk s j)
          · have h2 := (tfo_le s (tS s) S' 80).2.1 j j1 j2 d
            rw [← tS_2 (s := s) hS' c'] at h2
            have hm' := mx_le (tS s (S' &&& wk s j)) (tS s (sdf S' (wk s j)))
            omega
          · by_cases d1 : S' &&& wk s j = S'
            · rw [d1] at i1; omega
            · have d2 : S' &&& wk s j = 0 := Classical.byContradiction (fun e => d ⟨e, d1⟩)
              have d3 : sdf S' (wk s j) = S' := by
                refine Nat.eq_of_testBit_eq (fun i => ?_)
                rw [sdf_bit hS']
                cases e : S'.testBit i with
                | false => rfl
                | true =>
                  have h3 : (S' &&& wk s j).testBit i = false := by rw [d2]; exact Nat.zero_testBit i
                  rw [Nat.testBit_and, e] at h3
                  rw [show (wk s j).testBit i = false from h3]
                  rfl
              rw [d3] at i2; omega
theorem ntf_spec {s : Stt} {c : Nat} (hc : c < 8192) : ∀ k, (ntf s c k).1 = Int32.ofInt (-6) ∨ ∃ j, j < k ∧ (ntf s c k).1 = nI j ∧ vld s j ∧ lpN c (wk s j) < popN c := by
  intro k
  induction k with
  | zero => exact Or.inl rfl
  | succ k ih =>
    have hle := ntf_le (s := s) hc k
    show (nts s c k (ntf s c k)).1 = _ ∨ ∃ j, j < k + 1 ∧ (nts s c k (ntf s c k)).1 = nI j ∧ _
    by_cases h : vld s k ∧ lpN c (wm s (k / 10) (k % 10)) < (ntf s c k).2
    · rw [nts_yes h]
      exact Or.inr ⟨k, by omega, rfl, h.1, by have h2 := h.2; unfold wk; omega⟩
    · rw [nts_no h]
      rcases ih with e | ⟨j, j1, j2⟩
      · exact Or.inl e
      · exact Or.inr ⟨j, by omega, j2⟩
/-- what is left behind a try that parts -/
theorem part_spec {c w c' : Nat} (hc : c < 8192) (hl : lpN c w < popN c) (h : c' = c &&& w ∨ c' = sdf c w) : (∀ i, c'.testBit i = true → c.testBit i = true) ∧ c' ≠ c ∧ c' ≠ 0 ∧ 1 ≤ popN c' ∧ c' < 8192 := by
  have hs := (spl_iff hc).mpr hl
  have hp := spl_pop hc hs
  have l1 : c &&& w ≤ c := Nat.and_le_left
  have l2 := sdf_le c w
  rcases h with rfl | rfl
  · exact ⟨fun i hi => by rw [Nat.testBit_and, Bool.and_eq_true] at hi; exact hi.1, hs.2, hs.1, hp.1, by omega⟩
  · refine ⟨fun i hi => by rw [sdf_bit hc, Bool.and_eq_true] at hi; exact hi.1, fun e => ?_, fun e => ?_, hp.2.1, by omega⟩
    · rw [e] at hp; omega
    · rw [e] at hp; have := hp.2.1; rw [pop_0] at this; omega
