/-! ===== the law's body: the calls that are told and that wait ===== -/
/-- the law's row t is the house -/
def HT (M : Mem) (h : Hse) : Prop := ∀ k, k < qn h → M 74 (4 * k) = nI (qa h k) ∧ M 74 (4 * k + 1) = nI (qb h k) ∧ (∃ c, c < 5 ∧ M 74 (4 * k + 2) = nI c ∧ qk h k = sgn c) ∧ M 74 (4 * k + 3) = nI (ql h k)
theorem HT.keep {M M1 : Mem} {h : Hse} (hT : HT M h) (h1 : ∀ i, M1 74 i = M 74 i) : HT M1 h := fun k hk => by
  obtain ⟨a1, a2, ⟨c, c1, c2, c3⟩, a4⟩ := hT k hk
  exact ⟨(h1 _).trans a1, (h1 _).trans a2, ⟨c, c1, (h1 _).trans c2, c3⟩, (h1 _).trans a4⟩
theorem HT.scr {M M1 : Mem} {h : Hse} (hT : HT M h) (hF : Fr cScr M M1) : HT M1 h := hT.keep (fun i => hF 74 i (cScr_hi (by decide)))
theorem HT.kp {M M1 : Mem} {h : Hse} (hT : HT M h) (hF : Fr cKp M M1) : HT M1 h := hT.keep (fun i => hF 74 i (cKp_o (by decide)))
section LAWC
variable {sc : SCT} {L : LMem}
/-- the calls as far as they have been told -/
def CLS (s : Stt) (pd : Nat → Nat) (n r0 lg : Nat) : Prop := qn (sH s) = n ∧ sG s 4 = 0 ∧ (∀ r b, r < 8 → (sN s r).testBit b = true → b < 2) ∧ DTX s pd ∧ (∀ c, c < sG s 2 → hw s c) ∧ (∀ c, c < sG s 2 → sC s 3 c = 60) ∧ sN s r0 = 3 ∧ ∀ E, (∀ c, c < sG s 2 → sC s 2 c ≤ E) → lg ≤ E
theorem CLS.up {s : Stt} {pd : Nat → Nat} {n r0 lg a b m lg' : Nat} (h : CLS s pd n r0 lg) (hc : lab (sH s) (Int32.ofInt 0) b a / 16 ≤ sG s 0) (hlg : lg' = lg ∨ lg' = m) :
    CLS (sCu s a b m 60) (fup (fup (fup (fup (fup pd (5 * sG s 2) (65 + a)) (5 * sG s 2 + 1) (65 + b)) (5 * sG s 2 + 2) (48 + m)) (5 * sG s 2 + 3) 46) (5 * sG s 2 + 4) (48 + m)) n r0 lg' := by
  obtain ⟨h1, h2, h3, h4, h5, h6, h7, h8⟩ := h
  have w1 : ∀ c, c < sG (sCu s a b m 60) 2 → c < sG s 2 ∨ c = sG s 2 := fun c hc => by rw [sCu_w] at hc; omega
  refine ⟨h1, (sCu_g s a b m 60 (by decide)).trans h2, h3, fun c hc2 => ?_, fun c hc2 => ?_, fun c hc2 => ?_, h7, fun E hE => ?_⟩
  · rcases w1 c hc2 with e | e
    · have ne : c ≠ sG s 2 := by omega
      obtain ⟨p0, p1, p2, p3, p4⟩ := h4 c e
      rw [sCu_o s a b m 60 0 ne, sCu_o s a b m 60 1 ne, sCu_o s a b m 60 2 ne]
      refine ⟨?_, ?_, ?_, ?_, ?_⟩
      · rw [fup_n (by omega), fup_n (by omega), fup_n (by omega), fup_n (by omega), fup_n (by omega)]; exact p0
      · rw [fup_n (by omega), fup_n (by omega), fup_n (by omega), fup_n (by omega), fup_n (by omega)]; exact p1
      · rw [fup_n (by omega), fup_n (by omega), fup_n (by omega), fup_n (by omega), fup_n (by omega)]; exact p2
      · rw [fup_n (by omega), fup_n (by omega), fup_n (by omega), fup_n (by omega), fup_n (by omega)]; exact p3
      · rw [fup_n (by omega), fup_n (by omega), fup_n (by omega), fup_n (by omega), fup_n (by omega)]; exact p4
    · subst e
      rw [sCu_n, sCu_n, sCu_n]
      refine ⟨?_, ?_, ?_, ?_, ?_⟩
      · rw [fup_n (by omega), fup_n (by omega), fup_n (by omega), fup_n (by omega), fup_s]; rfl
      · rw [fup_n (by omega), fup_n (by omega), fup_n (by omega), fup_s]; rfl
      · rw [fup_n (by omega), fup_n (by omega), fup_s]; rfl
      · rw [fup_n (by omega), fup_s]
      · rw [fup_s]; rfl
  · unfold hw
    rw [sCu_g s a b m 60 (by decide)]
    rcases w1 c hc2 with e | e
    · have ne : c ≠ sG s 2 := by omega
      rw [sCu_o s a b m 60 0 ne, sCu_o s a b m 60 1 ne]
      exact h5 c e
    · subst e
      rw [sCu_n, sCu_n]
      exact hc
  · rcases w1 c hc2 with e | e
    · rw [sCu_o s a b m 60 3 (by omega)]
      exact h6 c e
    · subst e
      rw [sCu_n]; rfl
  · have hm : m ≤ E := by
      have h := hE (sG s 2) (by rw [sCu_w]; omega)
      rw [sCu_n] at h
      exact h
    rcases hlg with e | e
    · rw [e]
      refine h8 E (fun c hc2 => ?_)
      have h := hE c (by rw [sCu_w]; omega)
      rw [sCu_o s a b m 60 2 (by omega)] at h
      exact h
    · rw [e]; exact hm
theorem l573 {n r0 : Nat} (hr0 : r0 < 8) : ∀ (f k : Nat) (s : Stt) (pd : Nat → Nat) (M : Mem) (lg : Nat), k ≤ 5 → 5 < f + k → sG s 2 ≤ k → CLS s pd n r0 lg → INVs M s (5 * sG s 2) pd → HT M (sH s) →
    PL_L_law_573 sc KL f (nI n) (nI 0) (nI (sm (fun c => sC s 2 c) (sG s 2))) (nI (5 * sG s 2)) (nI 1) (nI lg) (nI (sm (fun c => sC s 2 c) (sG s 2))) (nI (sG s 2)) (nI k) M L := by
  intro f
  induction f with
  | zero => intro k s pd M lg h1 h2; omega
  | succ f ih =>
    intro k s pd M lg h1 h2 hw2 hC hI hT
    obtain ⟨hn, h4, hN, hx, hh, hd, h3, hlg⟩ := id hC
    have hS := hI.1
    have h12 := hS.2.1
    have h45 := sm_45 hS
    have hlg9 : lg ≤ 9 := hlg 9 (fun c hc => (hS.2.2.2.2.2.2.2.2 c hc).2.2.2.1.2)
    have end' : PL_L_law_779 sc KL 100000 (nI n) (nI 0) (nI (sm (fun c => sC s 2 c) (sG s 2))) (nI (5 * sG s 2)) (nI 1) (nI lg) (nI (sm (fun c => sC s 2 c) (sG s 2))) (nI (sG s 2)) M L := l779 (f := 99999) hn h4 hN hx hh hd hr0 h3 hlg hI
    unfold PL_L_law_573
    refine pk_le 5 k (fun _ => end') (fun c5 => pk_le n 0 (fun _ => end') (fun n0 => ?_))
    rw [show nI k + Int32.ofInt 140 = nI (k + 140) from nI_add k 140, show nI k + Int32.ofInt 150 = nI (k + 150) from nI_add k 150]
    obtain ⟨j, hj, ej⟩ := cell_in sc (k := k + 140) (n := n) (by omega) n0 (by omega)
    rw [ej, e4z, show nI (4 * j) + Int32.ofInt 1 = nI (4 * j + 1) from nI_add _ 1, nI_clamp (by omega), nI_clamp (by omega)]
    obtain ⟨t1, t2, -, -⟩ := hT j (by omega)
    obtain ⟨a8, b8, hab, -⟩ := hS.1.2 j (by omega)
    rw [t1, t2]
    refine ⟨cell_ok (by omega) n0 (by omega), v48 (i := 0) (by omega) (by decide), v48 (i := 1) (by omega) (by decide), u_far hI a8 b8 hab (fun M1 hF1 => ?_)⟩
    have hI1 := hI.scr hF1
    have hT1 := hT.scr hF1
    have h99 := dc_99 (bar := Int32.ofInt 0) hS.1 hS.2.2.1.2 (qb (sH s) j) a8
    refine pk_le 99 (dc (sH s) (Int32.ofInt 0) (sG s 0) (qa (sH s) j) (qb (sH s) j)) (fun _ => ?_) (fun c99 => ?_) rfl rfl (by decide) (by omega)
    · show PL_L_law_573 sc KL f (nI n) (nI 0) (nI (sm (fun c => sC s 2 c) (sG s 2))) (nI (5 * sG s 2)) (nI 1) (nI lg) (nI (sm (fun c => sC s 2 c) (sG s 2))) (nI (sG s 2)) (nI k + Int32.ofInt 1) M1 L
      rw [nI_s]
      exact ih (k + 1) s pd M1 lg (by omega) (by omega) (by omega) hC hI1 hT1
    · have hway : lab (sH s) (Int32.ofInt 0) (qb (sH s) j) (qa (sH s) j) / 16 ≤ sG s 0 := Classical.byContradiction (fun e => by
        have := (dc_way hS (a := qa (sH s) j) (b := qb (sH s) j)).2 e
        omega)
      obtain ⟨m0, hm0, em⟩ := cell_in sc (k := k + 150) (n := 9) (by omega) (by decide) (by decide)
      rw [show Int32.ofInt 9 = nI 9 from rfl, em, show Int32.ofInt 1 = nI 1 from rfl, nI_add, show Int32.ofInt 65 = nI 65 from rfl, show Int32.ofInt 48 = nI 48 from rfl, nI_add, nI_add, nI_add]
      generalize hm : 1 + m0 = m at *
      generalize ha : qa (sH s) j = a at *
      generalize hb : qb (sH s) j = b at *
      refine ⟨cell_ok (by omega) (by decide) (by decide), u_say hI1 (k := 65 + a) (by omega) (by omega) (by omega) (fun M2 hF2 hI2 => br_f (nI_nle (by omega) (by omega)) (u_say hI2 (k := 65 + b) (by omega) (by omega) (by omega) (fun M3 hF3 hI3 => br_f (nI_nle (by omega) (by omega)) (u_say hI3 (k := 48 + m) (by omega) (by omega) (by omega) (fun M4 hF4 hI4 => br_f (nI_nle (by omega) (by omega)) (u_say hI4 (k := 46) (by omega) (by omega) (by omega) (fun M5 hF5 hI5 => br_f (nI_nle (by omega) (by omega)) (u_say hI5 (k := 48 + m) (by omega) (by omega) (by omega) (fun M6 hF6 hI6 => br_f (nI_nle (by omega) (by omega)) ?_)))))))))⟩
      have hT6 : HT M6 (sH s) := hT1.keep (fun i => (hF6 74 i rfl).trans ((hF5 74 i rfl).trans ((hF4 74 i rfl).trans ((hF3 74 i rfl).trans (hF2 74 i rfl)))))
      show PL_L_law_710 sc KL (PL_L_law_573 sc KL f) (99999 + 1) (nI n) (nI 0) (nI (sm (fun c => sC s 2 c) (sG s 2))) (nI (5 * sG s 2)) (nI 1) (nI lg) (nI (sm (fun c => sC s 2 c) (sG s 2))) (nI (sG s 2)) (nI k) (nI a) (nI b) (nI m) M6 L
      unfold PL_L_law_710
      dsimp only
      refine u_call (d := 60) hI6 a8 b8 hab (by omega) (by omega) (by decide) (by decide) (by omega) (fun M7 hF7 hI7 => br_t rfl ?_)
      have hT7 : HT M7 (sH (sCu s a b m 60)) := hT6.kp hF7
      have esm : nI (sm (fun c => sC s 2 c) (sG s 2)) + nI m = nI (sm (fun c => sC (sCu s a b m 60) 2 c) (sG (sCu s a b m 60) 2)) := by
        rw [nI_add, sCu_w, sm_s, sCu_n, sm_eq (f := fun c => sC (sCu s a b m 60) 2 c) (g := fun c => sC s 2 c) (sG s 2) (fun i hi => sCu_o s a b m 60 2 (by omega))]
        rfl
      have e5 : nI (5 * sG s 2) + Int32.ofInt 5 = nI (5 * sG (sCu s a b m 60) 2) := by
        rw [sCu_w]; exact nI_add _ 5
      have e1 : nI (sG s 2) + Int32.ofInt 1 = nI (sG (sCu s a b m 60) 2) := by
        rw [sCu_w]; exact nI_add _ 1
      have hI8 : INVs M7 (sCu s a b m 60) (5 * sG (sCu s a b m 60) 2) (fup (fup (fup (fup (fup pd (5 * sG s 2) (65 + a)) (5 * sG s 2 + 1) (65 + b)) (5 * sG s 2 + 2) (48 + m)) (5 * sG s 2 + 3) 46) (5 * sG s 2 + 4) (48 + m)) := by
        rw [sCu_w]; exact hI7
      have fin : ∀ lg', (lg' = lg ∨ lg' = m) → PL_L_law_573 sc KL f (nI n) (nI 0) (nI (sm (fun c => sC s 2 c) (sG s 2)) + nI m) (nI (5 * sG s 2) + Int32.ofInt 5) (nI 1) (nI lg') (nI (sm (fun c => sC s 2 c) (sG s 2)) + nI m) (nI (sG s 2) + Int32.ofInt 1) (nI k + Int32.ofInt 1) M7 L := by
        intro lg' hl
        rw [esm, e5, e1, nI_s]
        exact ih (k + 1) (sCu s a b m 60) _ M7 lg' (by omega) (by omega) (by rw [sCu_w]; omega) (hC.up hway hl) hI8 hT7
      exact br_c (fun _ => fin lg (Or.inl rfl)) (fun _ => fin m (Or.inr rfl))
end LAWC
