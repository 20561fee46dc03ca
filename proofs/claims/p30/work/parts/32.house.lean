/-! ===== house ===== -/
def hpd (n : Nat) (pd : Nat → Nat) : Hse := (n, fun t => pd (4 * t) - 65, fun t => pd (4 * t + 2) - 65, fun t => pd (4 * t + 1), fun t => pd (4 * t + 3) - 48)
theorem ltr_in {v : Nat} (h : ltr v = true) : 65 ≤ v ∧ v ≤ 72 := by
  unfold ltr at h
  rw [Bool.and_eq_true] at h
  exact ⟨Nat.le_of_ble_eq_true h.1, Nat.le_of_ble_eq_true h.2⟩
theorem dgt_in2 {v : Nat} (h : dgt v = true) : 49 ≤ v ∧ v ≤ 57 := by
  unfold dgt at h
  rw [Bool.and_eq_true] at h
  exact ⟨Nat.le_of_ble_eq_true h.1, Nat.le_of_ble_eq_true h.2⟩
theorem knd_in {v : Nat} (h : knd v = true) : v ≤ 126 := by
  unfold knd at h
  simp only [Bool.or_eq_true] at h
  rcases h with h | h | h | h | h <;> (have := Nat.eq_of_beq_eq_true h; omega)
theorem hpd_all {n : Nat} {pd : Nat → Nat} (hk : ∀ j, j < 4 * n → okh pd j = true) {t : Nat} (ht : t < n) : t < 12 ∧ ltr (pd (4 * t)) = true ∧ knd (pd (4 * t + 1)) = true ∧ ltr (pd (4 * t + 2)) = true ∧ pd (4 * t + 2) ≠ pd (4 * t) ∧ dgt (pd (4 * t + 3)) = true := by
  have h0 := hk (4 * t) (by omega)
  have h1 := hk (4 * t + 1) (by omega)
  have h2 := hk (4 * t + 2) (by omega)
  have h3 := hk (4 * t + 3) (by omega)
  unfold okh at h0 h1 h2 h3
  rw [if_pos (by omega), Bool.and_eq_true] at h0
  rw [if_neg (by omega), if_pos (by omega)] at h1
  rw [if_neg (by omega), if_neg (by omega), if_pos (by omega), Nat.add_sub_cancel, Bool.and_eq_true] at h2
  rw [if_neg (by omega), if_neg (by omega), if_neg (by omega)] at h3
  have h48 : 4 * t < 48 := Nat.le_of_ble_eq_true h0.1
  refine ⟨by omega, h0.2, h1, h2.1, fun e => ?_, h3⟩
  rw [e, Nat.beq_refl] at h2
  exact Bool.false_ne_true h2.2
theorem hpd_ok {n : Nat} {pd : Nat → Nat} (h60 : 4 * n ≤ 60) (hk : ∀ j, j < 4 * n → okh pd j = true) : HOK (hpd n pd) ∧ n ≤ 12 := by
  have h12 : n ≤ 12 := by
    rcases Nat.lt_or_ge 12 n with e | e
    · have := (hpd_all hk e).1
      omega
    · exact e
  refine ⟨⟨Nat.le_trans h12 (by decide), fun t ht => ?_⟩, h12⟩
  obtain ⟨-, a1, a2, a3, a4, a5⟩ := hpd_all hk (show t < n from ht)
  have b1 := ltr_in a1
  have b2 := knd_in a2
  have b3 := ltr_in a3
  have b5 := dgt_in2 a5
  show pd (4 * t) - 65 < 8 ∧ pd (4 * t + 2) - 65 < 8 ∧ pd (4 * t) - 65 ≠ pd (4 * t + 2) - 65 ∧ 1 ≤ pd (4 * t + 3) - 48 ∧ pd (4 * t + 3) - 48 ≤ 9 ∧ pd (4 * t + 1) < 127
  omega
def cHs : Nat → Nat → Bool := fun p _ => Nat.ble 4 p && Nat.ble p 8
theorem cHs_o {p i : Nat} (h : p < 4 ∨ 8 < p) : cHs p i = false := by
  unfold cHs
  rcases h with h | h
  · rw [nlf h]; rfl
  · rw [nlf h, Bool.and_false]
section RDH
variable {M0 : Mem} {np : Nat} {pd : Nat → Nat} {L : LMem}
theorem PdO.hs {M : Mem} (hP : PdO M0 np pd) (hF : Fr cHs M0 M) : PdO M np pd := hP.eq (hF 1 1 rfl) (hF 74 16 rfl) (fun i => hF 2 i rfl) (fun i => hF 84 i rfl)
theorem room_of {M : Mem} (hP : PdO M np pd) {i : Nat} (hi : i < np) (h : ltr (pd i) = true) : f_X5_roomOf M (nI i) = nI (pd i - 65) := by
  have := ltr_in h
  have p60 := hP.2.2.1
  unfold f_X5_roomOf
  rw [sign_at hP (by omega), sg_in hi]
  exact pk_sub (b := 65) this.1
theorem number_of {M : Mem} (hP : PdO M np pd) {i : Nat} (hi : i < np) (h : dgt (pd i) = true) : f_X5_numberOf M (nI i) = nI (pd i - 48) := by
  have := dgt_in2 h
  have p60 := hP.2.2.1
  unfold f_X5_numberOf
  rw [sign_at hP (by omega), sg_in hi]
  exact pk_sub (b := 48) (by omega)
theorem hl_read (hP : PdO M0 np pd) {n : Nat} (hn : np = 4 * n) (hk : ∀ j, j < 4 * n → okh pd j = true) {K : Mem → LMem → Prop} (kk : ∀ M, Fr cHs M0 M → HC M (hpd n pd) → K M L) :
    ∀ (f t : Nat) (M : Mem), t ≤ n → 12 < f + t → Fr cHs M0 M → M 4 4 = nI t → (∀ j, j < t → M 5 j = nI (pd (4 * j) - 65) ∧ M 6 j = nI (pd (4 * j + 2) - 65) ∧ M 7 j = nI (pd (4 * j + 1)) ∧ M 8 j = nI (pd (4 * j + 3) - 48)) → PL_X2_read_7 K f (nI t) M L := by
  intro f
  have p60 := hP.2.2.1
  have h12 := (hpd_ok (by omega) hk).2
  induction f with
  | zero => intro t M h1 h2; omega
  | succ f ih =>
    intro t M h1 h2 hF h4 hA
    have hPM := hP.hs hF
    have e0 : Int32.ofInt 4 * nI t = nI (4 * t) := pk_mul 4 t
    unfold PL_X2_read_7
    rw [e0]
    have fin : t = n → K M L := fun e => by
      subst e
      exact kk M hF ⟨h4, hA⟩
    refine pk_le 12 t (fun c => fin (by omega)) (fun c => pk_le np (4 * t) (fun c2 => fin (by omega)) (fun c2 => ⟨pk_in t 12 c, ?_⟩) hPM.1)
    obtain ⟨-, a1, a2, a3, a4, a5⟩ := hpd_all hk (show t < n by omega)
    have et : (nI t).toNatClampNeg = t := nI_clamp (by omega)
    have e1 : nI (4 * t) + Int32.ofInt 1 = nI (4 * t + 1) := nI_add _ 1
    have e2 : nI (4 * t) + Int32.ofInt 2 = nI (4 * t + 2) := nI_add _ 2
    have e3 : nI (4 * t) + Int32.ofInt 3 = nI (4 * t + 3) := nI_add _ 3
    rw [et, e1, e2, e3, room_of hPM (by omega) a1]
    have hP5 : PdO (mput M 5 t (nI (pd (4 * t) - 65))) np pd := hPM.hs ((Fr.rf _ _).put rfl)
    rw [sign_at hP5 (by omega), sg_in (i := 4 * t + 1) (by omega)]
    have hP7 : PdO (mput (mput M 5 t (nI (pd (4 * t) - 65))) 7 t (nI (pd (4 * t + 1)))) np pd := hP5.hs ((Fr.rf _ _).put rfl)
    rw [room_of hP7 (by omega) a3]
    have hP6 : PdO (mput (mput (mput M 5 t (nI (pd (4 * t) - 65))) 7 t (nI (pd (4 * t + 1)))) 6 t (nI (pd (4 * t + 2) - 65))) np pd := hP7.hs ((Fr.rf _ _).put rfl)
    rw [number_of hP6 (by omega) a5, h4, nI_s]
    refine ih (t + 1) _ (by omega) (by omega) (((((hF.put rfl).put rfl).put rfl).put rfl).put rfl) (mp_s _ _ _ _) (fun j hj => ?_)
    simp (discharger := decide) only [mp_p]
    by_cases e : j = t
    · subst e
      exact ⟨mp_s _ _ _ _, mp_s _ _ _ _, mp_s _ _ _ _, mp_s _ _ _ _⟩
    · rw [mp_i _ e, mp_i _ e, mp_i _ e, mp_i _ e]
      simp (discharger := decide) only [mp_p]
      exact hA j (by omega)
theorem h_read (hP : PdO M0 np pd) {n : Nat} (hn : np = 4 * n) (hk : ∀ j, j < 4 * n → okh pd j = true) {K : Mem → LMem → Prop} (kk : ∀ M, Fr cHs M0 M → HC M (hpd n pd) → K M L) : P_X2_read M0 L K := by
  unfold P_X2_read
  exact hl_read hP hn hk kk 100000 0 _ (by omega) (by omega) ((Fr.rf _ _).put rfl) (mp_s _ _ _ _) (fun j hj => by omega)
def cHm : Nat → Nat → Bool := fun p i => (Nat.ble 75 p && Nat.ble p 78) || (Nat.beq p 74 && (Nat.beq i 4 || (Nat.beq i 12 || (Nat.beq i 13 || (Nat.beq i 14 || Nat.beq i 16)))))
theorem cHm_o {p i : Nat} (h : p < 74 ∨ 78 < p) : cHm p i = false := by
  unfold cHm
  rcases h with h | h
  · rw [nlf (by omega : p < 75), nbf (by omega)]; rfl
  · rw [nlf h, Bool.and_false, nbf (by omega)]; rfl
end RDH
