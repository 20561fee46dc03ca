/-! ===== the ways of the waiting calls, on both sides ===== -/
/-- the call can be on its own -/
def hw (s : Stt) (c : Nat) : Prop := lab (sH s) (Int32.ofInt 0) (sC s 1 c) (sC s 0 c) / 16 ≤ sG s 0
noncomputable def oN (s : Stt) (c : Nat) : Nat := if lab (sH s) (Int32.ofInt 0) (sC s 1 c) (sC s 0 c) / 16 ≤ sG s 0 then lab (sH s) (Int32.ofInt 0) (sC s 1 c) (sC s 0 c) % 16 else 0
noncomputable def oW (s : Stt) (c j : Nat) : Nat := tb (sH s) (Int32.ofInt 0) (lab (sH s) (Int32.ofInt 0) (sC s 1 c)) (sC s 0 c) j
theorem oN_pos {s : Stt} {c : Nat} (h : hw s c) : oN s c = lab (sH s) (Int32.ofInt 0) (sC s 1 c) (sC s 0 c) % 16 := if_pos h
theorem oN_neg {s : Stt} {c : Nat} (h : ¬ hw s c) : oN s c = 0 := if_neg h
theorem oT_neg {s : Stt} {c : Nat} (h : ¬ hw s c) : oT s c = 0 := if_neg h
def OCk (M : Mem) (s : Stt) (k : Nat) : Prop := M 49 7 = nI (sG s 2) ∧ M 49 8 = nI (dbl (sH s)) ∧ ∀ c, c < k → M 50 c = nI (oR s c) ∧ M 51 c = nI (oT s c) ∧ M 52 c = nI (sC s 2 c) ∧ M 53 c = nI (sC s 3 c)
section OGA
variable {s : Stt} {np : Nat} {pd : Nat → Nat} {L : LMem}
theorem hl_ogather {M0 : Mem} (hI : INVs M0 s np pd) {K : Int32 → Mem → LMem → Prop} (kk1 : ∀ M, Fr cScr M0 M → OC M s → (∀ c, c < sG s 2 → hw s c) → K (nI 1) M L) (kk0 : ∀ M, Fr cScr M0 M → ¬ (∀ c, c < sG s 2 → hw s c) → K (nI 0) M L) :
    ∀ (f k : Nat) (M : Mem), k ≤ sG s 2 → sG s 2 < f + k → Fr cScr M0 M → OCk M s k → (∀ c, c < k → hw s c) → PL_X4_gather_23 K f (nI k) M L := by
  intro f
  have hS := hI.1
  have h5 := hS.2.2.2.2.1
  induction f with
  | zero => intro k M h1 h2; omega
  | succ f ih =>
    intro k M h1 h2 hF hM hh
    unfold PL_X4_gather_23
    refine pk_le (sG s 2) k (fun c1 => ?_) (fun c1 => ⟨pk_in k 5 (by omega), ?_⟩) hM.1
    · have e : k = sG s 2 := by omega
      subst e
      exact kk1 M hF hM hh
    · have hI1 := hI.scr hF
      have hcal := hI1.2.1.cal k c1
      have hc := hS.2.2.2.2.2.2.2.2 k c1
      rw [nI_clamp (by omega), hcal.1, hcal.2.1]
      refine s_find hI1 (Int32.ofInt 0) hc.1 hc.2.1 (fun c2 c3 M2 hF2 hI2 hR => br_1 rfl ?_) (fun c2 M2 hF2 hI2 => br_0 rfl (kk0 M2 (hF.tr (cRt_scr hF2)) (fun h => c2 (h k c1))))
      have hcal2 := hI2.2.1.cal k c1
      have e5 : M2 37 5 = nI (oT s k) := hR.2.2.1.trans (wm_wb hS hc.1 hc.2.1 c2)
      have eR : (Int32.ofInt 1 <<< (nI (sC s 0 k) &&& 31)) ||| (Int32.ofInt 1 <<< (nI (sC s 1 k) &&& 31)) = nI (oR s k) := by
        have e1 : Int32.ofInt 1 = nI 1 := rfl
        rw [e1, sh1 (by omega), sh1 (by omega), fa_or]; rfl
      have q5 : ∀ v, mput M2 50 k v 37 5 = M2 37 5 := fun v => mp_p _ (by decide)
      rw [nI_s, show M2 10 k = nI (sC s 0 k) from hcal2.1, show M2 11 k = nI (sC s 1 k) from hcal2.2.1, eR, e5, show M2 12 k = nI (sC s 2 k) from hcal2.2.2.1, show M2 13 k = nI (sC s 3 k) from hcal2.2.2.2]
      refine ih (k + 1) _ (by omega) (by omega) ((((((hF.tr (cRt_scr hF2)).put rfl).put rfl).put rfl).put rfl)) ⟨?_, ?_, fun c hc => ?_⟩ (fun c hc => ?_)
      · rw [mp_p _ (by decide), mp_p _ (by decide), mp_p _ (by decide), mp_p _ (by decide), hF2 49 7 rfl]; exact hM.1
      · rw [mp_p _ (by decide), mp_p _ (by decide), mp_p _ (by decide), mp_p _ (by decide), hF2 49 8 rfl]; exact hM.2.1
      · by_cases e : c = k
        · subst e
          exact ⟨by rw [mp_p _ (by decide), mp_p _ (by decide), mp_p _ (by decide), mp_s], by rw [mp_p _ (by decide), mp_p _ (by decide), mp_s], by rw [mp_p _ (by decide), mp_s], mp_s _ _ _ _⟩
        · obtain ⟨a1, a2, a3, a4⟩ := hM.2.2 c (by omega)
          exact ⟨by rw [mp_p _ (by decide), mp_p _ (by decide), mp_p _ (by decide), mp_i _ e, hF2 50 c rfl, a1], by rw [mp_p _ (by decide), mp_p _ (by decide), mp_i _ e, mp_p _ (by decide), hF2 51 c rfl, a2], by rw [mp_p _ (by decide), mp_i _ e, mp_p _ (by decide), mp_p _ (by decide), hF2 52 c rfl, a3], by rw [mp_i _ e, mp_p _ (by decide), mp_p _ (by decide), mp_p _ (by decide), hF2 53 c rfl, a4]⟩
      · by_cases e : c = k
        · rw [e]; exact c2
        · exact hh c (by omega)
theorem h_ogather {M : Mem} (hI : INVs M s np pd) {K : Int32 → Mem → LMem → Prop} (kk1 : ∀ M', Fr cScr M M' → OC M' s → (∀ c, c < sG s 2 → hw s c) → K (nI 1) M' L) (kk0 : ∀ M', Fr cScr M M' → ¬ (∀ c, c < sG s 2 → hw s c) → K (nI 0) M' L) : P_X4_gather M L K := by
  have hS := hI.1
  have h5 := hS.2.2.2.2.1
  have hF : Fr cScr M (mput M 49 7 (M 3 8)) := (Fr.rf _ _).put rfl
  have hI1 := hI.scr hF
  unfold P_X4_gather
  refine h_ofKind (kd := 61) hI1.2.1.hc hS.2.1 hS.1 (by decide) ?_
  refine hl_ogather hI kk1 kk0 100000 0 _ (by omega) (by omega) (hF.put rfl) ⟨?_, ?_, fun c hc => absurd hc (Nat.not_lt_zero c)⟩ (fun c hc => absurd hc (Nat.not_lt_zero c))
  · rw [mp_i _ (by decide), mp_s]; exact hI.2.1.wai
  · rw [mp_s]; rfl
/-! the model -/
theorem h_wayBits0 {M : Mem} {K : Int32 → Mem → LMem → Prop} (h : M 74 20 = nI 0) (kk : K (nI 0) M L) : P_X10_wayBits M L K := by
  unfold P_X10_wayBits PL_X10_wayBits_4
  exact pk_le 0 0 (fun _ => kk) (fun c => absurd c (Nat.not_lt_zero 0)) h
def WYm (M : Mem) (s : Stt) (k : Nat) : Prop := ∀ c, c < k → M 99 c = nI (oT s c) ∧ M 101 c = nI (oN s c) ∧ ∀ j, j < oN s c → M 100 (8 * c + j) = nI (oW s c j)
def c1h (c : Nat) : Nat → Nat → Bool := fun p i => Nat.beq p 100 && Nat.beq (i / 8) c
theorem c1h_n {c i : Nat} (h : i / 8 ≠ c) : c1h c 100 i = false := by
  unfold c1h; rw [nbf h]; rfl
theorem c1h_scr {c : Nat} {M M1 : Mem} (h : Fr (c1h c) M M1) : Fr cScr M M1 := h.mono (fun p i hq => by
  have h1 : p ≠ 100 := fun e => by subst e; exact nomatch (show true = false from hq)
  unfold c1h; rw [nbf h1]; rfl)
theorem oN_7 {s : Stt} (hS : SOK s) {c : Nat} (hc : c < sG s 2) : oN s c ≤ 7 := by
  have h := hS.2.2.2.2.2.2.2.2 c hc
  unfold oN
  split
  · next e => exact (s_wok hS h.1 h.2.1 (fin_of hS e)).1
  · omega
theorem hl_fw77 {M0 : Mem} {K : Int32 → Mem → LMem → Prop} {C : Int32 → Int32 → Int32 → Mem → LMem → Prop} {v1 v2 v4 : Int32} {c m : Nat} (hc : c < 5) (hm : m ≤ 7) (h20 : M0 74 20 = nI m) (kk : ∀ M, Fr (c1h c) M0 M → (∀ i, i < m → M 100 (8 * c + i) = M0 86 i) → C v1 v2 (nI (c + 1)) M L) :
    ∀ (f j : Nat) (M : Mem), j ≤ m → m < f + j → Fr (c1h c) M0 M → (∀ i, i < j → M 100 (8 * c + i) = M0 86 i) → PL_X10_findWays_77 K C f v1 v2 (nI c) v4 (nI j) M L := by
  intro f
  induction f with
  | zero => intro j M h1 h2; omega
  | succ f ih =>
    intro j M h1 h2 hF hA
    unfold PL_X10_findWays_77
    rw [nI_s]
    refine pk_le m j (fun c1 => ?_) (fun c1 => ⟨pk_in j 8 (by omega), ?_⟩) ((hF 74 20 rfl).trans h20)
    · have e : j = m := by omega
      subst e
      exact kk M hF hA
    · have e1 : Int32.ofInt 8 * nI c + nI j = nI (8 * c + j) := e8 c j
      have e2 : (nI (8 * c + j)).toNatClampNeg = 8 * c + j := nI_clamp (by omega)
      have e3 : c1h c 100 (8 * c + j) = true := by
        unfold c1h
        rw [show (8 * c + j) / 8 = c by omega, Nat.beq_refl, Nat.beq_refl]; rfl
      rw [e1, e2, nI_clamp (by omega), nI_s]
      refine ⟨pk_in (8 * c + j) 40 (by omega), ih (j + 1) _ (by omega) (by omega) (hF.put e3) (fun i hi => ?_)⟩
      by_cases e : i = j
      · subst e; rw [mp_s]; exact hF 86 i rfl
      · rw [mp_i _ (by omega)]; exact hA i (by omega)
theorem hl_findWays {M0 : Mem} (hI : INVs M0 s np pd) {st : Nat} (hst : st < 32) {K : Int32 → Mem → LMem → Prop} (kk : ∀ M b, b ≤ 1 → Fr cScr M0 M → WYm M s (sG s 2) → (b = 1 ↔ ∀ c, c < sG s 2 → st.testBit c = true → hw s c) → K (nI b) M L) :
    ∀ (f k b : Nat) (M : Mem), k ≤ sG s 2 → sG s 2 < f + k → Fr cScr M0 M → WYm M s k → b ≤ 1 → (b = 1 ↔ ∀ c, c < k → st.testBit c = true → hw s c) → PL_X10_findWays_4 K f (nI st) (nI b) (nI k) M L := by
  intro f
  have hS := hI.1
  have h5 := hS.2.2.2.2.1
  induction f with
  | zero => intro k b M h1 h2; omega
  | succ f ih =>
    intro k b M h1 h2 hF hM hb hbb
    have hI1 := hI.scr hF
    unfold PL_X10_findWays_4
    refine pk_le (sG s 2) k (fun c1 => ?_) (fun c1 => ⟨pk_in k 5 (by omega), ?_⟩) hI1.2.2.1.wai
    · have e : k = sG s 2 := by omega
      subst e
      refine ⟨?_, kk M b hb hF hM hbb⟩
      rcases Nat.le_one_iff_eq_zero_or_eq_one.mp hb with e | e
      · rw [e]; exact Or.inl rfl
      · rw [e]; exact Or.inr rfl
    · have hcal := hI1.2.2.1.cal k c1
      have hc := hS.2.2.2.2.2.2.2.2 k c1
      have fin : ∀ (M2 : Mem) (b' m : Nat) (v4 : Int32), Fr cMw M M2 → m ≤ 7 → M2 74 20 = nI m → oN s k = m → (∀ j, j < m → M2 86 j = nI (oW s k j)) → b' ≤ 1 → (b' = 1 ↔ ∀ c, c < k + 1 → st.testBit c = true → hw s c) → PL_X10_findWays_77 K (PL_X10_findWays_4 K f) 100000 (nI st) (nI b') (nI k) v4 (nI 0) (mput (mput M2 99 k (nI (oT s k))) 101 k (M2 74 20)) L := by
        intro M2 b' m v4 hF2 hm h20 hN hW hb' hbb'
        refine hl_fw77 (by omega) hm (by rw [mp_p _ (by decide), mp_p _ (by decide), h20]) (fun M3 hF3 hA => ?_) 100000 0 _ (by omega) (by omega) (Fr.rf _ _) (fun i hi => absurd hi (Nat.not_lt_zero i))
        refine ih (k + 1) b' M3 (by omega) (by omega) ((((hF.tr (cMw_scr hF2)).put rfl).put rfl).tr (c1h_scr hF3)) (fun c hc => ?_) hb' hbb'
        by_cases e : c = k
        · subst e
          refine ⟨by rw [hF3 99 c rfl, mp_p _ (by decide), mp_s], by rw [hF3 101 c rfl, mp_s, h20, hN], fun j hj => ?_⟩
          rw [hA j (by omega), mp_p _ (by decide), mp_p _ (by decide)]
          exact hW j (by omega)
        · obtain ⟨a1, a2, a3⟩ := hM c (by omega)
          have h7 := oN_7 hS (show c < sG s 2 by omega)
          refine ⟨by rw [hF3 99 c rfl, mp_p _ (by decide), mp_i _ e, hF2 99 c rfl, a1], by rw [hF3 101 c rfl, mp_i _ e, mp_p _ (by decide), hF2 101 c rfl, a2], fun j hj => ?_⟩
          rw [hF3 100 _ (c1h_n (by omega)), mp_p _ (by decide), mp_p _ (by decide), hF2 100 _ rfl, a3 j hj]
      have up1 : hw s k → (1 = 1 ↔ ∀ c, c < k → st.testBit c = true → hw s c) → (1 = 1 ↔ ∀ c, c < k + 1 → st.testBit c = true → hw s c) := fun hk h => ⟨fun _ c hc ht => by
        by_cases e : c = k
        · rw [e]; exact hk
        · exact h.mp rfl c (by omega) ht, fun _ => rfl⟩
      have dn0 : (0 = 1 ↔ ∀ c, c < k → st.testBit c = true → hw s c) → (0 = 1 ↔ ∀ c, c < k + 1 → st.testBit c = true → hw s c) := fun h => ⟨fun e => absurd e (by decide), fun g => h.mpr (fun c hc ht => g c (by omega) ht)⟩
      rw [nI_clamp (by omega), hcal.1, hcal.2.1]
      refine s_lay hI1 (Int32.ofInt 0) hc.1 hc.2.1 (fun c2 c3 M2 hF2 hI2 hHM hR => ?_) (fun c2 M2 hF2 hI2 h20 => ?_)
      · have hm7 := (s_wok hS hc.1 hc.2.1 c3).1
        have hk : hw s k := c2
        have eW := wm_wb hS hc.1 hc.2.1 c2
        rcases Nat.le_one_iff_eq_zero_or_eq_one.mp hb with e | e
        · subst e
          refine br_0 rfl (h_wayBits hR hm7 ?_)
          rw [eW]
          exact fin M2 0 _ _ hF2 hm7 hR.1 (oN_pos hk) hR.2.1 (by omega) (dn0 hbb)
        · subst e
          refine br_1 rfl (br_1 rfl (h_wayBits hR hm7 ?_))
          rw [eW]
          exact fin M2 1 _ _ hF2 hm7 hR.1 (oN_pos hk) hR.2.1 (by omega) (up1 hk hbb)
      · have hk : ¬ hw s k := c2
        have fin0 : ∀ b', b' ≤ 1 → (b' = 1 ↔ ∀ c, c < k + 1 → st.testBit c = true → hw s c) → PL_X10_findWays_77 K (PL_X10_findWays_4 K f) 100000 (nI st) (nI b') (nI k) (nI 0) (nI 0) (mput (mput M2 99 k (nI 0)) 101 k (M2 74 20)) L := fun b' hb' hbb' => by
          have := fin M2 b' 0 (nI 0) hF2 (by omega) h20 (oN_neg hk) (fun j hj => absurd hj (Nat.not_lt_zero j)) hb' hbb'
          rw [oT_neg hk] at this
          exact this
        rcases Nat.le_one_iff_eq_zero_or_eq_one.mp hb with e | e
        · subst e
          exact br_0 rfl (h_wayBits0 h20 (fin0 0 (by omega) (dn0 hbb)))
        · subst e
          refine br_1 rfl (br_0 rfl ?_)
          have e1 : Int32.ofInt 1 = nI 1 := rfl
          rw [e1, bit_at (by omega) (by omega)]
          cases hbit : st.testBit k with
          | false =>
            refine br_0 rfl (h_wayBits0 h20 (fin0 1 (by omega) ⟨fun _ c hc ht => ?_, fun _ => rfl⟩))
            by_cases e : c = k
            · rw [e, hbit] at ht; exact absurd ht Bool.false_ne_true
            · exact hbb.mp rfl c (by omega) ht
          | true =>
            refine br_1 rfl (h_wayBits0 h20 (fin0 0 (by omega) ⟨fun e => absurd e (by decide), fun g => absurd (g k (by omega) hbit) hk⟩))
theorem h_findWays {M : Mem} (hI : INVs M s np pd) {st : Nat} (hst : st < 32) {K : Int32 → Mem → LMem → Prop} (kk : ∀ M' b, b ≤ 1 → Fr cScr M M' → WYm M' s (sG s 2) → (b = 1 ↔ ∀ c, c < sG s 2 → st.testBit c = true → hw s c) → K (nI b) M' L) : P_X10_findWays (nI st) M L K := by
  have h5 := hI.1.2.2.2.2.1
  unfold P_X10_findWays
  exact hl_findWays hI hst kk 100000 0 1 M (by omega) (by omega) (Fr.rf _ _) (fun c hc => absurd hc (Nat.not_lt_zero c)) (by omega) ⟨fun _ c hc => absurd hc (Nat.not_lt_zero c), fun _ => rfl⟩
end OGA
