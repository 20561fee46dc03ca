/-! ===== orders: between the longest call and all of them ===== -/
section ORD
variable {M : Mem} {L : LMem} {s : Stt} {np : Nat} {pd : Nat → Nat} {p : Nat → Nat}
theorem en_ge (s : Stt) (p : Nat → Nat) : ∀ k i, i < k → sts s p i + sC s 2 (p i) ≤ en s p k := by
  intro k
  induction k with
  | zero => intro i h; omega
  | succ k ih =>
    intro i h
    have h1 := mx_le (en s p k) (sts s p k + sC s 2 (p k))
    rw [en]
    by_cases e : i = k
    · subst e; exact h1.2.1
    · exact Nat.le_trans (ih i (by omega)) h1.1
theorem sts_en (hS : SOK s) (hp : OOK s p) {k : Nat} (hk : k < sG s 2) : sts s p k ≤ en s p k := by
  refine Nat.le_of_not_lt (fun e => (st_ok hS hp k hk).1.2 _ e ?_)
  intro m m1 m2 ⟨i, i1, i2, _⟩
  have := en_ge s p k i i1
  have := i2.2
  omega
theorem en_sum (hS : SOK s) (hp : OOK s p) : ∀ k, k ≤ sG s 2 → en s p k ≤ sm (fun i => sC s 2 (p i)) k := by
  intro k
  induction k with
  | zero => intro _; exact Nat.le_refl _
  | succ k ih =>
    intro hk
    have h1 := ih (by omega)
    have h2 := sts_en hS hp (show k < sG s 2 by omega)
    have h3 := mx_le (en s p k) (sts s p k + sC s 2 (p k))
    rw [en, sm_s]
    omega
theorem bso_en (s : Stt) : ∀ (l : List Nat) (e k0 : Nat), (bso s l e k0).1 ≤ e ∧ ((bso s l e k0).1 = e ∨ ∃ k, k ∈ l ∧ (bso s l e k0).1 = en s (pn (sG s 2) k) (sG s 2)) := by
  intro l
  induction l with
  | nil => intro e k0; exact ⟨Nat.le_refl _, Or.inl rfl⟩
  | cons k l ih =>
    intro e k0
    unfold bso
    split
    · next h =>
      obtain ⟨h1, h2⟩ := ih (en s (pn (sG s 2) k) (sG s 2)) k
      refine ⟨by omega, Or.inr ?_⟩
      rcases h2 with h2 | ⟨k', h2, h3⟩
      · exact ⟨k, List.mem_cons.mpr (Or.inl rfl), h2⟩
      · exact ⟨k', List.mem_cons.mpr (Or.inr h2), h3⟩
    · obtain ⟨h1, h2⟩ := ih e k0
      refine ⟨h1, ?_⟩
      rcases h2 with h2 | ⟨k', h2, h3⟩
      · exact Or.inl h2
      · exact Or.inr ⟨k', List.mem_cons.mpr (Or.inr h2), h3⟩
theorem u_soon {K : Int32 → Mem → LMem → Prop} (hI : INVs M s np pd) (hh : ∀ c, c < sG s 2 → hw s c) (kk : ∀ E M1 L1, E ≤ sm (fun i => sC s 2 i) (sG s 2) → (∀ c, c < sG s 2 → sC s 2 c ≤ E) → Fr cScr M M1 → K (nI E) M1 L1) : P_X9_soonest (Int32.ofInt (-1)) M L K := by
  have hS := hI.1
  have h5 := hS.2.2.2.2.1
  unfold P_X9_soonest
  refine h_ogather hI (fun M1 hF1 hC _ => br_1 rfl ?_) (fun M1 hF1 hn => absurd hh hn)
  obtain ⟨k, l, hl, hck, hlen, hid⟩ := plf_hd (sG s 2) h5
  obtain ⟨E, K0, hb⟩ : ∃ E K0, bso s (k :: l) 64 0 = (E, K0) := ⟨_, _, rfl⟩
  have hp := OOK_pn (plf_gp _ hck k (List.mem_cons.mpr (Or.inl rfl)))
  have hen := en_le hS hp (sG s 2) (Nat.le_refl _)
  have hsum := en_sum hS hp (sG s 2) (Nat.le_refl _)
  have hsm : sm (fun i => sC s 2 (pn (sG s 2) k i)) (sG s 2) = sm (fun i => sC s 2 i) (sG s 2) := sm_eq _ (fun i hi => by
    show sC s 2 (pn (sG s 2) k i) = sC s 2 i
    rw [← hid i (by omega)])
  rw [hsm] at hsum
  have hE1 : E ≤ en s (pn (sG s 2) k) (sG s 2) := by
    have hb2 := hb
    rw [bso, if_pos (by omega)] at hb2
    have := (bso_en s l (en s (pn (sG s 2) k) (sG s 2)) k).1
    rw [hb2] at this
    exact this
  have hE2 : ∃ k', k' ∈ k :: l ∧ E = en s (pn (sG s 2) k') (sG s 2) := by
    have := (bso_en s (k :: l) 64 0).2
    rw [hb] at this
    rcases this with h | h
    · exact absurd h (by omega)
    · exact h
  refine h_seek hC (fun M2 hF2 hC2 hO2 h9 h10 => ?_)
  refine hl_seek0 (M0 := M1) hS (fun M3 L3 hF3 hC3 hB3 => br_t rfl ?_) l k 100000 0 64 0 M2 L hck (by omega) (by omega) (by omega) hF2 hC2 (fun i hi => by rw [← hid i hi]; exact hO2 i hi) ⟨h9, fun h => absurd h (by omega)⟩ hb
  rw [hB3.1]
  refine kk E M3 L3 (by omega) (fun c hc => ?_) (hF1.tr hF3)
  obtain ⟨k', h1, h2⟩ := hE2
  obtain ⟨i, hi, hpi⟩ := (gpo_i (plf_gp _ hck k' h1)).2.2 c hc
  have := en_ge s (pn (sG s 2) k') (sG s 2) i hi
  rw [hpi] at this
  omega
theorem u_due {K : Int32 → Mem → LMem → Prop} (hI : INVs M s np pd) (hh : ∀ c, c < sG s 2 → hw s c) (hd : ∀ c, c < sG s 2 → sC s 3 c = 60) (kk : ∀ M1 L1, Fr cScr M M1 → K (Int32.ofInt 1) M1 L1) : P_X9_byDue (Int32.ofInt (-1)) M L K := by
  have hS := hI.1
  have h5 := hS.2.2.2.2.1
  unfold P_X9_byDue
  refine h_ogather hI (fun M1 hF1 hC _ => br_1 rfl ?_) (fun M1 hF1 hn => absurd hh hn)
  obtain ⟨k, l, hl, hck, hlen, hid⟩ := plf_hd (sG s 2) h5
  have hp := OOK_pn (plf_gp _ hck k (List.mem_cons.mpr (Or.inl rfl)))
  have hen := en_le hS hp (sG s 2) (Nat.le_refl _)
  have hnl : ¬ lte s (pn (sG s 2) k) (sG s 2) := fun ⟨i, h1, h2⟩ => by
    rw [hd _ (hp.1 i h1)] at h2
    have := en_ge s (pn (sG s 2) k) (sG s 2) i h1
    omega
  have hR : fdo s (k :: l) = some k := by
    rw [fdo, bdec_f hnl]; rfl
  refine h_seek hC (fun M2 hF2 hC2 hO2 h9 h10 => ?_)
  refine hl_seek1 (M0 := M1) (R := fdo s (k :: l)) hS (fun h M3 L3 hF3 hC3 g10 => ?_) (fun k' e h M3 L3 hF3 hC3 he hB3 => br_1 (hB3.2 he).1 (br_t rfl (kk M3 L3 (hF1.tr hF3)))) l k 100000 0 M2 L hck (by omega) (by omega) hF2 hC2 (fun i hi => by rw [← hid i hi]; exact hO2 i hi) h9 h10 rfl
  rw [hR] at h
  exact absurd h (by simp)
end ORD
