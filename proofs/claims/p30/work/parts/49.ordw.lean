/-! ===== the ways of the waiting calls, on both sides ===== -/
/-- the call can be on its own -/
def hw (s : Stt) (c : Nat) : Prop := lab (sH s) (Int32.ofInt 0) (sC s 1 c) (sC s 0 c) / 16 ≤ sG s 0
noncomputable def oN (s : Stt) (c : Nat) : Nat := if lab (sH s) (Int32.ofInt 0) (sC s 1 c) (sC s 0 c) / 16 ≤ sG s 0 then lab (sH s) (Int32.ofInt 0) (sC s 1 c) (sC s 0 c) % 16 else 0
noncomputable def oW (s : Stt) (c j : Nat) : Nat := tb (sH s) (Int32.ofInt 0) (lab (sH s) (Int32.ofInt 0) (sC s 1 c)) (sC s 0 c) j
theorem oN_pos {s : Stt} {c : Nat} (h : hw s c) : oN s c = lab (sH s) (Int32.ofInt 0) (sC s 1 c) (sC s 0 c) % 16 := if_pos h
theorem oN_neg {s : Stt} {c : Nat} (h : ¬ hw s c) : oN s c = 0 := if_neg h
theorem oT_neg {s : Stt} {c : Nat} (h : ¬ hw s c) : oT s c = 0 := if_neg h
def OCk (M : Mem) (s : Stt) (k : Nat) : Prop := M 49 7 = nI (sG s 2) ∧ M 49 8 = nI (dbl (sH s)) ∧ ∀ c, c < k → M 50 c = nI (oR s c) ∧ M 51 c = nI (oT s c) ∧ M 52 c = nI (sC s 2 c) ∧ M 53 c = nI (sC s 3 c)
section OGA
variable {s : Stt} {np : Nat} {pd : Nat → Nat} {L : LMem}
theorem hl_ogather {M0 : Mem} (hI : INVs M0 s np pd) {K : Int32 → Mem → LMem → Prop} (kk1 : ∀ M, Fr cScr M0 M → OC M s → (∀ c, c < sG s 2 → hw s c) → K (nI 1) M L) (kk0 : ∀ M, Fr cScr M0 M → ¬ (∀ c, c < sG s 2 → hw s c) → K (nI 0) M L) :
    ∀ (f k : Nat) (M : Mem), k ≤ sG s 2 → sG s 2 < f + k → Fr cScr M0 M → OCk M s k → (∀ c, c < k → hw s c) → PL_X4_gather_23 K f (nI k) M L := by
  intro f
  have hS := hI.1
  have h5 := hS.2.2.2.2.1
  induction f with
  | zero => intro k M h1 h2; omega
  | succ f ih =>
    intro k M h1 h2 hF hM hh
    unfold PL_X4_gather_23
    refine pk_le (sG s 2) k (fun c1 => ?_) (fun c1 => ⟨pk_in k 5 (by omega), ?_⟩) hM.1
    · have e : k = sG s 2 := by omega
      subst e
      exact kk1 M hF hM hh
    · have hI1 := hI.scr hF
      have hcal := hI1.2.1.cal k c1
      have hc := hS.2.2.2.2.2.2.2.2 k c1
      rw [nI_clamp (by omega), hcal.1, hcal.2.1]
      refine s_find hI1 (Int32.ofInt 0) hc.1 hc.2.1 (fun c2 c3 M2 hF2 hI2 hR => br_1 rfl ?_) (fun c2 M2 hF2 hI2 => br_0 rfl (kk0 M2 (hF.tr (cRt_scr hF2)) (fun h => c2 (h k c1))))
      have hcal2 := hI2.2.1.cal k c1
      have e5 : M2 37 5 = nI (oT s k) := hR.2.2.1.trans (wm_wb hS hc.1 hc.2.1 c2)
      have eR : (Int32.ofInt 1 <<< (nI (sC s 0 k) &&& 31)) ||| (Int32.ofInt 1 <<< (nI (sC s 1 k) &&& 31)) = nI (oR s k) := by
        have e1 : Int32.ofInt 1 = nI 1 := rfl
        rw [e1, sh1 (by omega), sh1 (by omega), fa_or]; rfl
      have q5 : ∀ v, mput M2 50 k v 37 5 = M2 37 5 := fun v => mp_p _ (by decide)
      rw [nI_s, show M2 10 k = nI (sC s 0 k) from hcal2.1, show M2 11 k = nI (sC s 1 k) from hcal2.2.1, eR, e5, show M2 12 k = nI (sC s 2 k) from hcal2.2.2.1, show M2 13 k = nI (sC s 3 k) from hcal2.2.2.2]
      refine ih (k + 1) _ (by omega) (by omega) ((((((hF.tr (cRt_scr hF2)).put rfl).put rfl).put rfl).put rfl)) ⟨?_, ?_, fun c hc => ?_⟩ (fun c hc => ?_)
      · rw [mp_p _ (by decide), mp_p _ (by decide), mp_p _ (by decide), mp_p _ (by decide), hF2 49 7 rfl]; exact hM.1
      · rw [mp_p _ (by decide), mp_p _ (by decide), mp_p _ (by decide), mp_p _ (by decide), hF2 49 8 rfl]; exact hM.2.1
      · by_cases e : c = k
        · subst e
          exact ⟨by rw [mp_p _ (by decide), mp_p _ (by decide), mp_p _ (by decide), mp_s], by rw [mp_p _ (by decide), mp_p _ (by decide), mp_s], by rw [mp_p _ (by decide), mp_s], mp_s _ _ _ _⟩
        · obtain ⟨a1, a2, a3, a4⟩ := hM.2.2 c (by omega)
          exact ⟨by rw [mp_p _ (by decide), mp_p _ (by decide), mp_p _ (by decide), mp_i _ e, hF2 50 c rfl, a1], by rw [mp_p _ (by decide), mp_p _ (by decide), mp_i _ e, mp_p _ (by decide), hF2 51 c rfl, a2], by rw [mp_p _ (by decide), mp_i _ e, mp_p _ (by decide), mp_p _ (by decide), hF2 52 c rfl, a3], by rw [mp_i _ e, mp_p _ (by decide), mp_p _ (by decide), mp_p _ (by decide), hF2 53 c rfl, a4]⟩
      · by_cases e : c = k
        · rw [e]; exact c2
        · exact hh c (by omega)
theorem h_ogather {M : Mem} (hI : INVs M s np pd) {K : Int32 → Mem → LMem → Prop} (kk1 : ∀ M', Fr cScr M M' → OC M' s → (∀ c, c < sG s 2 → hw s c) → K (nI 1) M' L) (kk0 : ∀ M', Fr cScr M M' → ¬ (∀ c, c < sG s 2 → hw s c) → K (nI 0) M' L) : P_X4_gather M L K := by
  have hS := hI.1
  have h5 := hS.2.2.2.2.1
  have hF : Fr cScr M (mput M 49 7 (M 3 8)) := (Fr.rf _ _).put rfl
  have hI1 := hI.scr hF
  unfold P_X4_gather
  refine h_ofKind (kd := 61) hI1.2.1.hc hS.2.1 hS.1 (by decide) ?_
  refine hl_ogather hI kk1 kk0 100000 0 _ (by omega) (by omega) (hF.put rfl) ⟨?_, ?_, fun c hc => absurd hc (Nat.not_lt_zero c)⟩ (fun c hc => absurd hc (Nat.not_lt_zero c))
  · rw [mp_i _ (by decide), mp_s]; exact hI.2.1.wai
  · rw [mp_s]; rfl
/-! the model -/
def WYm (M : Mem) (s : Stt) (k : Nat) : Prop := ∀ c, c < k → M 99 c = nI (oT s c) ∧ M 101 c = nI (oN s c) ∧ ∀ j, j < oN s c → M 100 (8 * c + j) = nI (oW s c j)
def c1h (c : Nat) : Nat → Nat → Bool := fun p i => Nat.beq p 100 && Nat.beq (i / 8) c
theorem c1h_n {c i : Nat} (h : i / 8 ≠ c) : c1h c 100 i = false := by
  unfold c1h; rw [nbf h]; rfl
theorem oN_7 {s : Stt} (hS : SOK s) {c : Nat} (hc : c < sG s 2) : oN s c ≤ 7 := by
  have h := hS.2.2.2.2.2.2.2.2 c hc
  unfold oN
  split
  · next e => exact (s_wok hS h.1 h.2.1 (fin_of hS e)).1
  · omega
end OGA

