/-! ===== the law's body: along a way; all pairs of rooms; the whole ===== -/
theorem leads_go {M : Mem} {h : Hse} (hT : HT M h) (H : HOK h) (h12 : qn h ≤ 12) {t x : Nat} (ht : t < qn h) (hx : x < 8) (hg : go h t x < 8) : f_L_leads M (nI t) (nI x) = nI (go h t x) := by
  obtain ⟨a1, a2, ⟨c, c5, a3, hk⟩, a4⟩ := hT t ht
  obtain ⟨b1, b2, b3, -⟩ := H.2 t ht
  unfold f_L_leads
  rw [show Int32.ofInt 4 * nI t + Int32.ofInt 2 = nI (4 * t + 2) from e4 t 2, show Int32.ofInt 4 * nI t + Int32.ofInt 1 = nI (4 * t + 1) from e4 t 1, e4z, nI_clamp (by omega), nI_clamp (by omega), nI_clamp (by omega), a1, a2, a3]
  have s4 : ∀ c, c < 5 → (sgn c = 120 ↔ c = 4) := by decide
  have s1 : ∀ c, c < 5 → (sgn c = 62 ↔ c = 1) := by decide
  unfold go at hg ⊢
  by_cases k : qk h t = 120
  · rw [if_pos k] at hg; omega
  · rw [if_neg k] at hg ⊢
    have c4 : ¬ c = 4 := fun e => k (by rw [hk]; exact (s4 c c5).mpr e)
    have n4 : ¬ nI c = Int32.ofInt 4 := fun e => c4 ((nI_eq (b := 4) (by omega) (by decide)).mp e)
    rw [if_neg n4]
    by_cases ka : qa h t = x
    · rw [if_pos ka, if_pos (by rw [ka])]
    · rw [if_neg ka] at hg ⊢
      rw [if_neg (fun e => ka ((nI_eq (by omega) (by omega)).mp e))]
      by_cases kb : qb h t = x
      · rw [if_pos kb] at hg ⊢
        rw [if_pos (by rw [kb])]
        by_cases k62 : qk h t = 62
        · rw [if_pos k62] at hg; omega
        · have n1 : ¬ nI c = Int32.ofInt 1 := fun e => k62 (by rw [hk]; exact (s1 c c5).mpr ((nI_eq (b := 1) (by omega) (by decide)).mp e))
          rw [if_neg k62, if_neg n1]
      · rw [if_neg kb] at hg; omega
section LAWE
variable {sc : SCT} {L : LMem} {s : Stt} {pd : Nat → Nat} {n r0 a b S : Nat} {C66 : Int32 → Int32 → Int32 → Int32 → Mem → LMem → Prop} {C76 : Int32 → Int32 → Int32 → Int32 → Int32 → Mem → LMem → Prop}
theorem l133 (ha : a < 8) (hb : b < 8) (hab : a ≠ b) (h20 : sG s 0 = 20) (hw : lab (sH s) (Int32.ofInt 0) b a / 16 ≤ sG s 0) (kk : ∀ M1, GD s pd r0 M1 → C76 (nI n) (nI (sG s 1)) (nI (S + dc (sH s) (Int32.ofInt 0) (sG s 0) a b)) (nI a) (nI b + Int32.ofInt 1) M1 L) :
    ∀ (f i B : Nat) (M : Mem), i ≤ lab (sH s) (Int32.ofInt 0) b a % 16 → lab (sH s) (Int32.ofInt 0) b a % 16 < f + i → GD s pd r0 M → B < 256 → (∀ r, B.testBit r = true ↔ ∃ j, j ≤ i ∧ rm (sH s) (Int32.ofInt 0) (lab (sH s) (Int32.ofInt 0) b) a j = r) →
      PL_L_law_133 sc KL C66 C76 f (nI n) (nI (sG s 1)) (nI S) (nI a) (nI b) (nI (lab (sH s) (Int32.ofInt 0) b a / 16)) (nI (lab (sH s) (Int32.ofInt 0) b a % 16)) (nI (rm (sH s) (Int32.ofInt 0) (lab (sH s) (Int32.ofInt 0) b) a i)) (nI (20 - wl (sH s) (Int32.ofInt 0) (lab (sH s) (Int32.ofInt 0) b) a i)) (nI B) (nI i) M L := by
  intro f
  induction f with
  | zero => intro i B M h1 h2; omega
  | succ f ih =>
    intro i B M h1 h2 hG hB hBb
    have hS := hG.1.1
    have h12 := hS.2.1
    have cI := fin_of hS hw
    have hD := lab_is hS.1 (Int32.ofInt 0) b
    have hwl := s_wl hS ha hb cI
    obtain ⟨r8, rI, rm1, rm2, rm3⟩ := rm_in hS.1 hD hb ha cI i h1
    have hm7 := (s_wok hS ha hb cI).1
    unfold PL_L_law_133
    refine pk_le (lab (sH s) (Int32.ofInt 0) b a % 16) i (fun c => ?_) (fun c => ?_)
    · have e : i = lab (sH s) (Int32.ofInt 0) b a % 16 := by omega
      have e1 := rm3.mpr e
      rw [e1]
      have e2 : wl (sH s) (Int32.ofInt 0) (lab (sH s) (Int32.ofInt 0) b) a i = lab (sH s) (Int32.ofInt 0) b a / 16 := by rw [e]; exact hwl.1
      rw [e2]
      exact l225w (f := 99999) ha hb hab h20 hw hG kk
    · refine u_wayI hG.1 ha hb hab hw c (fun M1 hF1 => ?_)
      have G1 := hG.scr hF1
      obtain ⟨⟨t1, t2, t3, t4⟩, -⟩ := tb_is hS.1 hD hb ha cI c
      obtain ⟨n8, nI', nm1, nm2, -⟩ := rm_in hS.1 hD hb ha cI (i + 1) (by omega)
      have er : rm (sH s) (Int32.ofInt 0) (lab (sH s) (Int32.ofInt 0) b) a (i + 1) = go (sH s) (tb (sH s) (Int32.ofInt 0) (lab (sH s) (Int32.ofInt 0) b) a i) (rm (sH s) (Int32.ofInt 0) (lab (sH s) (Int32.ofInt 0) b) a i) := rfl
      have ew : wl (sH s) (Int32.ofInt 0) (lab (sH s) (Int32.ofInt 0) b) a (i + 1) = wl (sH s) (Int32.ofInt 0) (lab (sH s) (Int32.ofInt 0) b) a i + ql (sH s) (tb (sH s) (Int32.ofInt 0) (lab (sH s) (Int32.ofInt 0) b) a i) := rfl
      have hle := hwl.2 (i + 1) (by omega)
      have hl0 := leads_go G1.2.1 hS.1 h12 t1 r8 t3
      rw [← er] at hl0
      generalize htt : tb (sH s) (Int32.ofInt 0) (lab (sH s) (Int32.ofInt 0) b) a i = t at *
      have o2 : vp_in (Int32.ofInt 4 * nI t + Int32.ofInt 2) 48 := by rw [show Int32.ofInt 4 * nI t + Int32.ofInt 2 = nI (4 * t + 2) from e4 t 2]; exact v48 (by omega) (by decide)
      have o0 : vp_in (Int32.ofInt 4 * nI t) 48 := by rw [e4z]; exact v48 (i := 0) (by omega) (by decide)
      have o1 : vp_in (Int32.ofInt 4 * nI t + Int32.ofInt 1) 48 := by rw [show Int32.ofInt 4 * nI t + Int32.ofInt 1 = nI (4 * t + 1) from e4 t 1]; exact v48 (by omega) (by decide)
      have o3 : vp_in (Int32.ofInt 4 * nI t + Int32.ofInt 3) 48 := by rw [show Int32.ofInt 4 * nI t + Int32.ofInt 3 = nI (4 * t + 3) from e4 t 3]; exact v48 (by omega) (by decide)
      have hq : M1 74 ((Int32.ofInt 4 * nI t + Int32.ofInt 3).toNatClampNeg) = nI (ql (sH s) t) := by
        rw [show Int32.ofInt 4 * nI t + Int32.ofInt 3 = nI (4 * t + 3) from e4 t 3, nI_clamp (by omega)]
        exact (G1.2.1 t t1).2.2.2
      refine ⟨o2, fun _ => o0, fun _ _ => o1, fun _ _ => o1, ?_⟩
      rw [hl0, hq]
      have hnb : B.testBit (rm (sH s) (Int32.ofInt 0) (lab (sH s) (Int32.ofInt 0) b) a (i + 1)) = false := by
        cases e : B.testBit (rm (sH s) (Int32.ofInt 0) (lab (sH s) (Int32.ofInt 0) b) a (i + 1)) with
        | false => rfl
        | true =>
          obtain ⟨j, j1, j2⟩ := (hBb _).mp e
          have q := (rm_in hS.1 hD hb ha cI j (by omega)).2.2.1
          rw [j2] at q
          omega
      rw [show Int32.ofInt 1 = nI 1 from rfl, bit_at (by omega) (by omega), if_neg (by rw [hnb]; decide)]
      refine br_f (nI_pos (by omega)) (br_f (by decide) ⟨o3, ?_⟩)
      rw [pk_sub (show ql (sH s) t ≤ 20 - wl (sH s) (Int32.ofInt 0) (lab (sH s) (Int32.ofInt 0) b) a i by rw [h20] at hw; omega), sh1 (by omega), fa_or]
      rw [show 20 - wl (sH s) (Int32.ofInt 0) (lab (sH s) (Int32.ofInt 0) b) a i - ql (sH s) t = 20 - wl (sH s) (Int32.ofInt 0) (lab (sH s) (Int32.ofInt 0) b) a (i + 1) by omega]
      refine u_loud G1.1 ha hb hab hw (i := i + 1) (by omega) (fun M2 hF2 => ?_)
      have G2 := G1.scr hF2
      rw [h20]
      refine br_t rfl ?_
      rw [show nI i + nI 1 = nI (i + 1) from nI_add i 1]
      have hp8 : 2 ^ rm (sH s) (Int32.ofInt 0) (lab (sH s) (Int32.ofInt 0) b) a (i + 1) < 2 ^ 8 := Nat.pow_lt_pow_right (by decide) n8
      refine ih (i + 1) _ M2 (by omega) (by omega) G2 (Nat.or_lt_two_pow (n := 8) hB hp8) (fun r => ?_)
      rw [Nat.testBit_or, Bool.or_eq_true, hBb r, Nat.testBit_two_pow, decide_eq_true_eq]
      constructor
      · intro h
        rcases h with ⟨j, j1, j2⟩ | h
        · exact ⟨j, by omega, j2⟩
        · exact ⟨i + 1, Nat.le_refl _, h⟩
      · intro ⟨j, j1, j2⟩
        by_cases e : j = i + 1
        · rw [e] at j2; exact Or.inr j2
        · exact Or.inl ⟨j, by omega, j2⟩
end LAWE
