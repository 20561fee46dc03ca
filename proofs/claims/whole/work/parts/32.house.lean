/-! ===== house ===== -/
def hpd (n : Nat) (pd : Nat → Nat) : Hse := (n, fun t => pd (4 * t) - 65, fun t => pd (4 * t + 2) - 65, fun t => pd (4 * t + 1), fun t => pd (4 * t + 3) - 48)
theorem ltr_in {v : Nat} (h : ltr v = true) : 65 ≤ v ∧ v ≤ 72 := by
  unfold ltr at h
  rw [Bool.and_eq_true] at h
  exact ⟨Nat.le_of_ble_eq_true h.1, Nat.le_of_ble_eq_true h.2⟩
theorem dgt_in2 {v : Nat} (h : dgt v = true) : 49 ≤ v ∧ v ≤ 57 := by
  unfold dgt at h
  rw [Bool.and_eq_true] at h
  exact ⟨Nat.le_of_ble_eq_true h.1, Nat.le_of_ble_eq_true h.2⟩
theorem knd_in {v : Nat} (h : knd v = true) : v ≤ 126 := by
  unfold knd at h
  simp only [Bool.or_eq_true] at h
  rcases h with h | h | h | h | h <;> (have := Nat.eq_of_beq_eq_true h; omega)
theorem hpd_all {n : Nat} {pd : Nat → Nat} (hk : ∀ j, j < 4 * n → okh pd j = true) {t : Nat} (ht : t < n) : t < 12 ∧ ltr (pd (4 * t)) = true ∧ knd (pd (4 * t + 1)) = true ∧ ltr (pd (4 * t + 2)) = true ∧ pd (4 * t + 2) ≠ pd (4 * t) ∧ dgt (pd (4 * t + 3)) = true := by
  have h0 := hk (4 * t) (by omega)
  have h1 := hk (4 * t + 1) (by omega)
  have h2 := hk (4 * t + 2) (by omega)
  have h3 := hk (4 * t + 3) (by omega)
  unfold okh at h0 h1 h2 h3
  rw [if_pos (by omega), Bool.and_eq_true] at h0
  rw [if_neg (by omega), if_pos (by omega)] at h1
  rw [if_neg (by omega), if_neg (by omega), if_pos (by omega), Nat.add_sub_cancel, Bool.and_eq_true] at h2
  rw [if_neg (by omega), if_neg (by omega), if_neg (by omega)] at h3
  have h48 : 4 * t < 48 := Nat.le_of_ble_eq_true h0.1
  refine ⟨by omega, h0.2, h1, h2.1, fun e => ?_, h3⟩
  rw [e, Nat.beq_refl] at h2
  exact Bool.false_ne_true h2.2
theorem hpd_ok {n : Nat} {pd : Nat → Nat} (h60 : 4 * n ≤ 60) (hk : ∀ j, j < 4 * n → okh pd j = true) : HOK (hpd n pd) ∧ n ≤ 12 := by
  have h12 : n ≤ 12 := by
    rcases Nat.lt_or_ge 12 n with e | e
    · have := (hpd_all hk e).1
      omega
    · exact e
  refine ⟨⟨Nat.le_trans h12 (by decide), fun t ht => ?_⟩, h12⟩
  obtain ⟨-, a1, a2, a3, a4, a5⟩ := hpd_all hk (show t < n from ht)
  have b1 := ltr_in a1
  have b2 := knd_in a2
  have b3 := ltr_in a3
  have b5 := dgt_in2 a5
  show pd (4 * t) - 65 < 8 ∧ pd (4 * t + 2) - 65 < 8 ∧ pd (4 * t) - 65 ≠ pd (4 * t + 2) - 65 ∧ 1 ≤ pd (4 * t + 3) - 48 ∧ pd (4 * t + 3) - 48 ≤ 9 ∧ pd (4 * t + 1) < 127
  omega
def cHs : Nat → Nat → Bool := fun p _ => Nat.ble 4 p && Nat.ble p 8
theorem cHs_o {p i : Nat} (h : p < 4 ∨ 8 < p) : cHs p i = false := by
  unfold cHs
  rcases h with h | h
  · rw [nlf h]; rfl
  · rw [nlf h, Bool.and_false]
section RDH
variable {M0 : Mem} {np : Nat} {pd : Nat → Nat} {L : LMem}
theorem PdO.hs {M : Mem} (hP : PdO M0 np pd) (hF : Fr cHs M0 M) : PdO M np pd := hP.eq (hF 1 1 rfl) (hF 74 16 rfl) (fun i => hF 2 i rfl) (fun i => hF 84 i rfl)
theorem room_of {M : Mem} (hP : PdO M np pd) {i : Nat} (hi : i < np) (h : ltr (pd i) = true) : f_X5_roomOf M (nI i) = nI (pd i - 65) := by
  have := ltr_in h
  have p60 := hP.2.2.1
  unfold f_X5_roomOf
  rw [sign_at hP (by omega), sg_in hi]
  exact pk_sub (b := 65) this.1
theorem number_of {M : Mem} (hP : PdO M np pd) {i : Nat} (hi : i < np) (h : dgt (pd i) = true) : f_X5_numberOf M (nI i) = nI (pd i - 48) := by
  have := dgt_in2 h
  have p60 := hP.2.2.1
  unfold f_X5_numberOf
  rw [sign_at hP (by omega), sg_in hi]
  exact pk_sub (b := 48) (by omega)
theorem hl_read (hP : PdO M0 np pd) {n : Nat} (hn : np = 4 * n) (hk : ∀ j, j < 4 * n → okh pd j = true) {K : Mem → LMem → Prop} (kk : ∀ M, Fr cHs M0 M → HC M (hpd n pd) → K M L) :
    ∀ (f t : Nat) (M : Mem), t ≤ n → 12 < f + t → Fr cHs M0 M → M 4 4 = nI t → (∀ j, j < t → M 5 j = nI (pd (4 * j) - 65) ∧ M 6 j = nI (pd (4 * j + 2) - 65) ∧ M 7 j = nI (pd (4 * j + 1)) ∧ M 8 j = nI (pd (4 * j + 3) - 48)) → PL_X2_read_7 K f (nI t) M L := by
  intro f
  have p60 := hP.2.2.1
  have h12 := (hpd_ok (by omega) hk).2
  induction f with
  | zero => intro t M h1 h2; omega
  | succ f ih =>
    intro t M h1 h2 hF h4 hA
    have hPM := hP.hs hF
    have e0 : Int32.ofInt 4 * nI t = nI (4 * t) := pk_mul 4 t
    unfold PL_X2_read_7
    rw [e0]
    have fin : t = n → K M L := fun e => by
      subst e
      exact kk M hF ⟨h4, hA⟩
    refine pk_le 12 t (fun c => fin (by omega)) (fun c => pk_le np (4 * t) (fun c2 => fin (by omega)) (fun c2 => ⟨pk_in t 12 c, ?_⟩) hPM.1)
    obtain ⟨-, a1, a2, a3, a4, a5⟩ := hpd_all hk (show t < n by omega)
    have et : (nI t).toNatClampNeg = t := nI_clamp (by omega)
    have e1 : nI (4 * t) + Int32.ofInt 1 = nI (4 * t + 1) := nI_add _ 1
    have e2 : nI (4 * t) + Int32.ofInt 2 = nI (4 * t + 2) := nI_add _ 2
    have e3 : nI (4 * t) + Int32.ofInt 3 = nI (4 * t + 3) := nI_add _ 3
    rw [et, e1, e2, e3, room_of hPM (by omega) a1]
    have hP5 : PdO (mput M 5 t (nI (pd (4 * t) - 65))) np pd := hPM.hs ((Fr.rf _ _).put rfl)
    rw [sign_at hP5 (by omega), sg_in (i := 4 * t + 1) (by omega)]
    have hP7 : PdO (mput (mput M 5 t (nI (pd (4 * t) - 65))) 7 t (nI (pd (4 * t + 1)))) np pd := hP5.hs ((Fr.rf _ _).put rfl)
    rw [room_of hP7 (by omega) a3]
    have hP6 : PdO (mput (mput (mput M 5 t (nI (pd (4 * t) - 65))) 7 t (nI (pd (4 * t + 1)))) 6 t (nI (pd (4 * t + 2) - 65))) np pd := hP7.hs ((Fr.rf _ _).put rfl)
    rw [number_of hP6 (by omega) a5, h4, nI_s]
    refine ih (t + 1) _ (by omega) (by omega) (((((hF.put rfl).put rfl).put rfl).put rfl).put rfl) (mp_s _ _ _ _) (fun j hj => ?_)
    simp (discharger := decide) only [mp_p]
    by_cases e : j = t
    · subst e
      exact ⟨mp_s _ _ _ _, mp_s _ _ _ _, mp_s _ _ _ _, mp_s _ _ _ _⟩
    · rw [mp_i _ e, mp_i _ e, mp_i _ e, mp_i _ e]
      simp (discharger := decide) only [mp_p]
      exact hA j (by omega)
theorem h_read (hP : PdO M0 np pd) {n : Nat} (hn : np = 4 * n) (hk : ∀ j, j < 4 * n → okh pd j = true) {K : Mem → LMem → Prop} (kk : ∀ M, Fr cHs M0 M → HC M (hpd n pd) → K M L) : P_X2_read M0 L K := by
  unfold P_X2_read
  exact hl_read hP hn hk kk 100000 0 _ (by omega) (by omega) ((Fr.rf _ _).put rfl) (mp_s _ _ _ _) (fun j hj => by omega)
def cHm : Nat → Nat → Bool := fun p i => (Nat.ble 75 p && Nat.ble p 78) || (Nat.beq p 74 && (Nat.beq i 4 || (Nat.beq i 12 || (Nat.beq i 13 || (Nat.beq i 14 || Nat.beq i 16)))))
theorem cHm_o {p i : Nat} (h : p < 74 ∨ 78 < p) : cHm p i = false := by
  unfold cHm
  rcases h with h | h
  · rw [nlf (by omega : p < 75), nbf (by omega)]; rfl
  · rw [nlf h, Bool.and_false, nbf (by omega)]; rfl
theorem hl_mhouse (hP : PdM M0 np pd) {n : Nat} (hn : np = 4 * n) (hk : ∀ j, j < 4 * n → okh pd j = true) {K : Int32 → Mem → LMem → Prop} (kk : ∀ M, Fr cHm M0 M → HM4 M (hpd n pd) → M 74 12 = nI 0 → M 74 13 = nI (opn (hpd n pd)) → M 74 14 = nI 0 → M 74 16 = nI 0 → K (nI n) M L) :
    ∀ (f t : Nat) (M : Mem), t ≤ n → n < f + t → Fr cHm M0 M → M 74 4 = nI n → M 74 16 = nI np → (∀ j, j < t → M 75 j = nI (pd (4 * j) - 65) ∧ M 76 j = nI (pd (4 * j + 2) - 65) ∧ M 77 j = nI (pd (4 * j + 1)) ∧ M 78 j = nI (pd (4 * j + 3) - 48)) → PL_X10_house_22 K f (nI t) M L := by
  intro f
  have p60 := hP.2.1
  obtain ⟨hok, h12⟩ := hpd_ok (by omega) hk
  induction f with
  | zero => intro t M h1 h2; omega
  | succ f ih =>
    intro t M h1 h2 hF h4 h16 hA
    unfold PL_X10_house_22
    refine pk_le n t (fun c => ?_) (fun c => ?_) h4
    · have e : t = n := by omega
      subst e
      have hM4 : HM4 (mput (mput M 74 16 (Int32.ofInt 0)) 74 12 (Int32.ofInt 0)) (hpd t pd) := by
        refine ⟨by rw [mp_i _ (by decide), mp_i _ (by decide)]; exact h4, fun j hj => ?_⟩
        simp (discharger := decide) only [mp_p]
        exact hA j hj
      refine h_openAll hM4 hok (fun M2 hF2 h13 h14 => ?_)
      have o : ∀ i, i ≠ 13 → i ≠ 14 → M2 74 i = (mput (mput M 74 16 (Int32.ofInt 0)) 74 12 (Int32.ofInt 0)) 74 i := fun i a b => hF2 74 i (by show (true && (Nat.beq i 13 || Nat.beq i 14)) = false; rw [nbf a, nbf b]; rfl)
      have o2 : ∀ p i, p ≠ 74 → M2 p i = M p i := fun p i a => by
        rw [hF2 p i (by show (Nat.beq p 74 && (Nat.beq i 13 || Nat.beq i 14)) = false; rw [nbf a]; rfl), mp_p _ a, mp_p _ a]
      have e4 : M2 74 4 = nI t := by rw [o 4 (by decide) (by decide), mp_i _ (by decide), mp_i _ (by decide)]; exact h4
      rw [e4]
      refine kk M2 ?_ ⟨e4, fun j hj => ?_⟩ ?_ h13 h14 ?_
      · refine (hF.tr (((Fr.rf cHm M).put rfl).put rfl)).tr (hF2.mono (fun p i hp => ?_))
        by_cases e : p = 74
        · subst e
          show (true && (Nat.beq i 13 || Nat.beq i 14)) = false
          have hq : (Nat.beq i 4 || (Nat.beq i 12 || (Nat.beq i 13 || (Nat.beq i 14 || Nat.beq i 16)))) = false := hp
          revert hq
          cases Nat.beq i 4 <;> cases Nat.beq i 12 <;> cases Nat.beq i 13 <;> cases Nat.beq i 14 <;> simp
        · show (Nat.beq p 74 && (Nat.beq i 13 || Nat.beq i 14)) = false
          rw [nbf e]; rfl
      · rw [o2 75 j (by decide), o2 76 j (by decide), o2 77 j (by decide), o2 78 j (by decide)]
        exact hA j hj
      · rw [o 12 (by decide) (by decide), mp_s]; rfl
      · rw [o 16 (by decide) (by decide), mp_i _ (by decide), mp_s]; rfl
    · obtain ⟨-, a1, a2, a3, a4, a5⟩ := hpd_all hk (show t < n by omega)
      have hp : ∀ i, i < np → M 84 i = nI (pd i) := fun i hi => (hF 84 i rfl).trans (hP.2.2 i hi).1
      have et : (nI t).toNatClampNeg = t := nI_clamp (by omega)
      have e0 : Int32.ofInt 4 * nI t = nI (4 * t) := pk_mul 4 t
      have e1 : nI (4 * t) + Int32.ofInt 1 = nI (4 * t + 1) := nI_add _ 1
      have e2 : nI (4 * t) + Int32.ofInt 2 = nI (4 * t + 2) := nI_add _ 2
      have e3 : nI (4 * t) + Int32.ofInt 3 = nI (4 * t + 3) := nI_add _ 3
      have b1 := ltr_in a1
      have b3 := ltr_in a3
      have b5 := dgt_in2 a5
      have c0 : nI (pd (4 * t)) - Int32.ofInt 65 = nI (pd (4 * t) - 65) := pk_sub (b := 65) b1.1
      have c2 : nI (pd (4 * t + 2)) - Int32.ofInt 65 = nI (pd (4 * t + 2) - 65) := pk_sub (b := 65) b3.1
      have c3 : nI (pd (4 * t + 3)) - Int32.ofInt 48 = nI (pd (4 * t + 3) - 48) := pk_sub (b := 48) (by omega)
      rw [e0, e1, e2, e3, et, nI_clamp (by omega : 4 * t < 2 ^ 31), nI_clamp (by omega : 4 * t + 1 < 2 ^ 31), nI_clamp (by omega : 4 * t + 2 < 2 ^ 31), nI_clamp (by omega : 4 * t + 3 < 2 ^ 31), hp _ (by omega), hp _ (by omega), hp _ (by omega), hp _ (by omega), c0, c2, c3, nI_s]
      refine ⟨pk_in (4 * t) 60 (by omega), pk_in t 13 (by omega), pk_in (4 * t + 1) 60 (by omega), pk_in (4 * t + 2) 60 (by omega), pk_in (4 * t + 3) 60 (by omega), ?_⟩
      refine ih (t + 1) _ (by omega) (by omega) ((((hF.put rfl).put rfl).put rfl).put rfl) ?_ ?_ (fun j hj => ?_)
      · simp (discharger := decide) only [mp_p]; exact h4
      · simp (discharger := decide) only [mp_p]; exact h16
      · simp (discharger := decide) only [mp_p]
        by_cases e : j = t
        · subst e
          exact ⟨mp_s _ _ _ _, mp_s _ _ _ _, mp_s _ _ _ _, mp_s _ _ _ _⟩
        · rw [mp_i _ e, mp_i _ e, mp_i _ e, mp_i _ e]
          simp (discharger := decide) only [mp_p]
          exact hA j (by omega)
end RDH
theorem op_house : Op_house INV := by
  intro M L hI
  obtain ⟨s, np, pd, hI⟩ := hI
  obtain ⟨hS, hC, hM, hP, hI0, hI1⟩ := id hI
  have p60 := hP.2.2.1
  have iv : INV M L := ⟨s, np, pd, hI⟩
  show P_X9_house M L (fun r M1 L1 => P_X10_house M1 L1 (fun r2 M2 L2 => r2 = r ∧ INV M2 L2))
  unfold P_X9_house
  refine h_houseFault hP ?_
  rcases hfm_all (np := np) (pd := pd) np 0 (by omega) with ⟨k, h1, h2⟩ | ⟨h1, h2, h3⟩
  · rw [h2]
    refine br_f (nI_ne6 (by omega)) ?_
    unfold P_X10_house
    refine h_faultOfHouse hP.m ?_
    rw [h2]
    exact br_f (nI_pos (by omega)) ⟨rfl, iv⟩
  · obtain ⟨n, rfl⟩ : ∃ n, np = 4 * n := ⟨np / 4, by omega⟩
    have hk : ∀ j, j < 4 * n → okh pd j = true := fun j hj => h3 j (by omega) hj
    obtain ⟨hok, h12⟩ := hpd_ok p60 hk
    rw [h1]
    refine br_t rfl (h_read hP rfl hk (fun M3 hF3 hC3 => ?_))
    have hC4 : HC (mput (g_X5_empty M3) 3 8 (Int32.ofInt 0)) (hpd n pd) := by
      refine ⟨?_, fun t ht => ?_⟩
      · unfold g_X5_empty
        rw [mp_p _ (by decide), mp_p _ (by decide)]; exact hC3.1
      · unfold g_X5_empty
        simp (discharger := decide) only [mp_p]
        exact hC3.2 t ht
    refine h_beginTries hC4 h12 hok ?_
    unfold g_X5_empty at hC4 ⊢
    generalize hM4 : mput (mput (mput (mput M3 1 1 (Int32.ofInt 0)) 3 8 (Int32.ofInt 0)) 3 9 (nI 0)) 3 10 (nI (opn (hpd n pd))) = M4
    have f4 : ∀ p i, 8 < p → M4 p i = M p i := fun p i a => by
      rw [← hM4, mp_p _ (by omega), mp_p _ (by omega), mp_p _ (by omega), mp_p _ (by omega)]
      exact hF3 p i (cHs_o (Or.inr a))
    have g4 : M4 4 4 = nI n := by
      rw [← hM4]
      simp (discharger := decide) only [mp_p]
      exact hC3.1
    rw [g4]
    unfold P_X10_house
    have hPm : PdM M4 (4 * n) pd := ⟨(f4 74 16 (by decide)).trans hP.2.1, p60, fun i hi => by rw [f4 84 i (by decide)]; exact (hP.2.2.2 i hi).2⟩
    refine h_faultOfHouse hPm ?_
    rw [h1]
    refine br_t neg6 ?_
    rw [hPm.1, show Int32.ofInt 4 = nI 4 from rfl, pk_div (by omega) (by decide) (by decide), show 4 * n / 4 = n by omega]
    have s3 : ∀ i, i ≠ 8 → i ≠ 9 → i ≠ 10 → M4 3 i = M 3 i := fun i a b c => by
      rw [← hM4, mp_i _ c, mp_i _ b, mp_i _ a, mp_p _ (by decide)]
      exact hF3 3 i rfl
    have hPm2 : PdM (mput M4 74 4 (nI n)) (4 * n) pd := ⟨(mp_i _ (by decide)).trans hPm.1, hPm.2.1, fun i hi => by rw [mp_p _ (by decide)]; exact hPm.2.2 i hi⟩
    have f5 : ∀ p i, p < 74 ∨ 78 < p → (mput M4 74 4 (nI n)) p i = M4 p i := fun p i a => mp_p _ (by omega)
    refine hl_mhouse (M0 := mput M4 74 4 (nI n)) hPm2 rfl hk (fun M5 hF5 hM5 h12' h13' h14' h16' => ⟨rfl, sGu (sGu (sGu (hpd n pd, s.2) 2 0) 4 0) 3 (opn (hpd n pd)), 0, pd, ?_⟩) 100000 0 _ (by omega) (by omega) (Fr.rf _ _) (mp_s _ _ _ _) ?_ (fun j hj => by omega)
    · rw [mp_i _ (by decide)]; exact hPm.1
    · have hC4M : HC M4 (hpd n pd) := by
        refine ⟨g4, fun t ht => ?_⟩
        rw [← hM4]
        simp (discharger := decide) only [mp_p]
        exact hC3.2 t ht
      have k5 : ∀ p i, p < 74 ∨ 78 < p → M5 p i = M4 p i := fun p i a => (hF5 p i (cHm_o a)).trans (f5 p i a)
      have k74 : ∀ i, i ≠ 4 → i ≠ 12 → i ≠ 13 → i ≠ 14 → i ≠ 16 → M5 74 i = M 74 i := fun i a b c d e => by
        rw [hF5 74 i (by show (false || (true && (Nat.beq i 4 || (Nat.beq i 12 || (Nat.beq i 13 || (Nat.beq i 14 || Nat.beq i 16)))))) = false; rw [nbf a, nbf b, nbf c, nbf d, nbf e]; rfl), mp_i _ a]
        exact f4 74 i (by decide)
      refine hI.now (fun p i hp => ?_) (SOK_set3 (SOK_set4 (SOK_set2 (s := (hpd n pd, s.2)) ⟨hok, h12, hS.2.2⟩ (by omega)) (by omega)) (opn_lt (h := hpd n pd) h12)) (?_ : KpN M5 _) ?_ ⟨?_, h16', by omega, fun i hi => by omega⟩
      · obtain ⟨c1, c2⟩ := cNow_in hp
        rw [k5 p i (by omega), f4 p i (by omega)]
      · refine ⟨?_, fun t ht => ?_, ?_, ?_, ?_, ?_, ?_, fun r hr => ?_, fun c hc => ?_⟩
        · rw [k5 4 4 (by decide)]; exact g4
        · rw [k5 5 t (by decide), k5 6 t (by decide), k5 7 t (by decide), k5 8 t (by decide)]; exact hC4M.2 t ht
        · rw [k5 3 1 (by decide), s3 1 (by decide) (by decide) (by decide)]; exact hC.car
        · rw [k5 3 2 (by decide), s3 2 (by decide) (by decide) (by decide)]; exact hC.sto
        · rw [k5 3 8 (by decide), ← hM4, mp_i _ (by decide), mp_i _ (by decide), mp_s]; rfl
        · rw [k5 3 10 (by decide), ← hM4, mp_s]; rfl
        · rw [k5 3 9 (by decide), ← hM4, mp_i _ (by decide), mp_s]; rfl
        · rw [k5 9 r (by decide), f4 9 r (by decide)]; exact hC.kno r hr
        · exact absurd (show c < 0 from hc) (Nat.not_lt_zero c)
      · refine ⟨hM5.1, hM5.2, ?_, ?_, h12', h13', h14', fun r hr => ?_, fun c hc => ?_⟩
        · rw [k74 5 (by decide) (by decide) (by decide) (by decide) (by decide)]; exact hM.car
        · rw [k74 6 (by decide) (by decide) (by decide) (by decide) (by decide)]; exact hM.sto
        · rw [k5 79 r (by decide), f4 79 r (by decide)]; exact hM.kno r hr
        · exact absurd (show c < 0 from hc) (Nat.not_lt_zero c)
      · rw [k5 1 1 (by decide), ← hM4, mp_p _ (by decide), mp_p _ (by decide), mp_p _ (by decide), mp_s]; rfl
