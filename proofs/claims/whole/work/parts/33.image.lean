/-! ===== images ===== -/
theorem mc_o {M : Mem} {ks kd sp dp n a i : Nat} (h : a ≠ kd) : mcpy M ks kd sp dp n a i = M a i := by
  unfold mcpy; rw [if_neg h]
theorem mc_in {M : Mem} {ks kd n j : Nat} (h : j < n) : mcpy M ks kd 0 0 n kd j = M ks j := by
  unfold mcpy
  rw [if_pos rfl, pk_cpy_in (by omega) (by omega), Nat.zero_add, Nat.sub_zero]
theorem tn0 : (Int32.ofInt 0).toNatClampNeg = 0 := rfl
theorem tn12 : (Int32.ofInt 12).toNatClampNeg = 12 := rfl
theorem tn8 : (Int32.ofInt 8).toNatClampNeg = 8 := rfl
theorem tn5 : (Int32.ofInt 5).toNatClampNeg = 5 := rfl
def Cpy (M M' : Mem) (s d : Nat) : Prop := (∀ p i, p < d ∨ d + 10 < p → M' p i = M p i) ∧ M' (d + 1) 4 = M (s + 1) 4 ∧ (∀ t, t < 12 → M' (d + 2) t = M (s + 2) t ∧ M' (d + 3) t = M (s + 3) t ∧ M' (d + 4) t = M (s + 4) t ∧ M' (d + 5) t = M (s + 5) t) ∧ M' d 1 = M s 1 ∧ M' d 2 = M s 2 ∧ M' d 8 = M s 8 ∧ M' d 10 = M s 10 ∧ M' d 9 = M s 9 ∧ (∀ r, r < 8 → M' (d + 6) r = M (s + 6) r) ∧ ∀ c, c < 5 → M' (d + 7) c = M (s + 7) c ∧ M' (d + 8) c = M (s + 8) c ∧ M' (d + 9) c = M (s + 9) c ∧ M' (d + 10) c = M (s + 10) c
theorem Cpy.kp {M M' : Mem} {s d : Nat} {st : Stt} (h : Cpy M M' s d) (hS : SOK st) (hC : KpC M s st) : KpC M' d st := by
  obtain ⟨c0, c1, c2, c3, c4, c5, c6, c7, c8, c9⟩ := h
  obtain ⟨h1, h2, h3, h4, h5, h6, h7, h8, h9⟩ := hC
  have h12 := hS.2.1
  have hw := hS.2.2.2.2.1
  refine ⟨c1.trans h1, fun t ht => ?_, c3.trans h3, c4.trans h4, c5.trans h5, c6.trans h6, c7.trans h7, fun r hr => (c8 r hr).trans (h8 r hr), fun c hc => ?_⟩
  · obtain ⟨a1, a2, a3, a4⟩ := c2 t (by omega)
    obtain ⟨b1, b2, b3, b4⟩ := h2 t ht
    exact ⟨a1.trans b1, a2.trans b2, a3.trans b3, a4.trans b4⟩
  · obtain ⟨a1, a2, a3, a4⟩ := c9 c (by omega)
    obtain ⟨b1, b2, b3, b4⟩ := h9 c hc
    exact ⟨a1.trans b1, a2.trans b2, a3.trans b3, a4.trans b4⟩

theorem h_copy_14_3 {M : Mem} {L : LMem} {K : Mem → LMem → Prop} (kk : ∀ M1, Cpy M M1 3 14 → K M1 L) : P_X3_copy_14_3 M L K := by
  unfold P_X3_copy_14_3 P_X2_copy_15_4
  simp only [tn0, tn12, tn8, tn5]
  refine kk _ ⟨fun p i hp => ?_, ?_, fun t ht => ?_, ?_, ?_, ?_, ?_, ?_, fun r hr => ?_, fun c hc => ?_⟩
  · simp (discharger := omega) only [mc_o, mc_in, mp_p, mp_i, mp_s, and_self]
  · simp (discharger := omega) only [mc_o, mc_in, mp_p, mp_i, mp_s, and_self]
  · simp (discharger := omega) only [mc_o, mc_in, mp_p, mp_i, mp_s, and_self]
  · simp (discharger := omega) only [mc_o, mc_in, mp_p, mp_i, mp_s, and_self]
  · simp (discharger := omega) only [mc_o, mc_in, mp_p, mp_i, mp_s, and_self]
  · simp (discharger := omega) only [mc_o, mc_in, mp_p, mp_i, mp_s, and_self]
  · simp (discharger := omega) only [mc_o, mc_in, mp_p, mp_i, mp_s, and_self]
  · simp (discharger := omega) only [mc_o, mc_in, mp_p, mp_i, mp_s, and_self]
  · simp (discharger := omega) only [mc_o, mc_in, mp_p, mp_i, mp_s, and_self]
  · simp (discharger := omega) only [mc_o, mc_in, mp_p, mp_i, mp_s, and_self]
theorem h_copy_25_3 {M : Mem} {L : LMem} {K : Mem → LMem → Prop} (kk : ∀ M1, Cpy M M1 3 25 → K M1 L) : P_X3_copy_25_3 M L K := by
  unfold P_X3_copy_25_3 P_X2_copy_26_4
  simp only [tn0, tn12, tn8, tn5]
  refine kk _ ⟨fun p i hp => ?_, ?_, fun t ht => ?_, ?_, ?_, ?_, ?_, ?_, fun r hr => ?_, fun c hc => ?_⟩
  · simp (discharger := omega) only [mc_o, mc_in, mp_p, mp_i, mp_s, and_self]
  · simp (discharger := omega) only [mc_o, mc_in, mp_p, mp_i, mp_s, and_self]
  · simp (discharger := omega) only [mc_o, mc_in, mp_p, mp_i, mp_s, and_self]
  · simp (discharger := omega) only [mc_o, mc_in, mp_p, mp_i, mp_s, and_self]
  · simp (discharger := omega) only [mc_o, mc_in, mp_p, mp_i, mp_s, and_self]
  · simp (discharger := omega) only [mc_o, mc_in, mp_p, mp_i, mp_s, and_self]
  · simp (discharger := omega) only [mc_o, mc_in, mp_p, mp_i, mp_s, and_self]
  · simp (discharger := omega) only [mc_o, mc_in, mp_p, mp_i, mp_s, and_self]
  · simp (discharger := omega) only [mc_o, mc_in, mp_p, mp_i, mp_s, and_self]
  · simp (discharger := omega) only [mc_o, mc_in, mp_p, mp_i, mp_s, and_self]
theorem h_copy_3_14 {M : Mem} {L : LMem} {K : Mem → LMem → Prop} (kk : ∀ M1, Cpy M M1 14 3 → K M1 L) : P_X3_copy_3_14 M L K := by
  unfold P_X3_copy_3_14 P_X2_copy_4_15
  simp only [tn0, tn12, tn8, tn5]
  refine kk _ ⟨fun p i hp => ?_, ?_, fun t ht => ?_, ?_, ?_, ?_, ?_, ?_, fun r hr => ?_, fun c hc => ?_⟩
  · simp (discharger := omega) only [mc_o, mc_in, mp_p, mp_i, mp_s, and_self]
  · simp (discharger := omega) only [mc_o, mc_in, mp_p, mp_i, mp_s, and_self]
  · simp (discharger := omega) only [mc_o, mc_in, mp_p, mp_i, mp_s, and_self]
  · simp (discharger := omega) only [mc_o, mc_in, mp_p, mp_i, mp_s, and_self]
  · simp (discharger := omega) only [mc_o, mc_in, mp_p, mp_i, mp_s, and_self]
  · simp (discharger := omega) only [mc_o, mc_in, mp_p, mp_i, mp_s, and_self]
  · simp (discharger := omega) only [mc_o, mc_in, mp_p, mp_i, mp_s, and_self]
  · simp (discharger := omega) only [mc_o, mc_in, mp_p, mp_i, mp_s, and_self]
  · simp (discharger := omega) only [mc_o, mc_in, mp_p, mp_i, mp_s, and_self]
  · simp (discharger := omega) only [mc_o, mc_in, mp_p, mp_i, mp_s, and_self]
theorem h_copy_3_25 {M : Mem} {L : LMem} {K : Mem → LMem → Prop} (kk : ∀ M1, Cpy M M1 25 3 → K M1 L) : P_X3_copy_3_25 M L K := by
  unfold P_X3_copy_3_25 P_X2_copy_4_26
  simp only [tn0, tn12, tn8, tn5]
  refine kk _ ⟨fun p i hp => ?_, ?_, fun t ht => ?_, ?_, ?_, ?_, ?_, ?_, fun r hr => ?_, fun c hc => ?_⟩
  · simp (discharger := omega) only [mc_o, mc_in, mp_p, mp_i, mp_s, and_self]
  · simp (discharger := omega) only [mc_o, mc_in, mp_p, mp_i, mp_s, and_self]
  · simp (discharger := omega) only [mc_o, mc_in, mp_p, mp_i, mp_s, and_self]
  · simp (discharger := omega) only [mc_o, mc_in, mp_p, mp_i, mp_s, and_self]
  · simp (discharger := omega) only [mc_o, mc_in, mp_p, mp_i, mp_s, and_self]
  · simp (discharger := omega) only [mc_o, mc_in, mp_p, mp_i, mp_s, and_self]
  · simp (discharger := omega) only [mc_o, mc_in, mp_p, mp_i, mp_s, and_self]
  · simp (discharger := omega) only [mc_o, mc_in, mp_p, mp_i, mp_s, and_self]
  · simp (discharger := omega) only [mc_o, mc_in, mp_p, mp_i, mp_s, and_self]
  · simp (discharger := omega) only [mc_o, mc_in, mp_p, mp_i, mp_s, and_self]
/-! the model's way through all that is kept -/
def fp (j : Nat) : Nat := if j < 6 then 74 else if j < 54 then 75 + (j - 6) % 4 else if j < 62 then 79 else 80 + (j - 62) % 4
def fi (j : Nat) : Nat := if j < 6 then (if j = 0 then 4 else if j = 1 then 5 else if j = 2 then 6 else if j = 3 then 12 else if j = 4 then 13 else 14) else if j < 54 then (j - 6) / 4 else if j < 62 then j - 54 else (j - 62) / 4
def flOk (j : Nat) : Bool := Nat.ble 74 (fp j) && (Nat.ble (fp j) 83 && (Nat.ble (fi j) 14 && (List.range 82).all (fun i => !(Nat.beq (fp i) (fp j) && Nat.beq (fi i) (fi j)) || Nat.beq i j)))
theorem fl_all : (List.range 82).all flOk = true := by decide +kernel
theorem fl_ok {j : Nat} (h : j < 82) : 74 ≤ fp j ∧ fp j ≤ 83 ∧ fi j ≤ 14 ∧ ∀ i, i < 82 → i ≠ j → fp i ≠ fp j ∨ fi i ≠ fi j := by
  have h1 := List.all_eq_true.mp fl_all j (List.mem_range.mpr h)
  unfold flOk at h1
  simp only [Bool.and_eq_true] at h1
  obtain ⟨a1, a2, a3, a4⟩ := h1
  refine ⟨Nat.le_of_ble_eq_true a1, Nat.le_of_ble_eq_true a2, Nat.le_of_ble_eq_true a3, fun i hi hn => ?_⟩
  have h2 := List.all_eq_true.mp a4 i (List.mem_range.mpr hi)
  rw [nbf hn, Bool.or_false] at h2
  by_cases c : fp i = fp j
  · refine Or.inr (fun e => ?_)
    rw [c, e, Nat.beq_refl, Nat.beq_refl] at h2
    exact absurd h2 (by decide)
  · exact Or.inl c
def PsO (M0 : Mem) (n : Nat) (V : Nat → Int32) (j : Nat) (M : Mem) : Prop := (∀ i, i < j → M (fp i) (fi i) = V i ∧ M 108 (100 * n + i) = V i) ∧ (∀ i, j ≤ i → i < 82 → M (fp i) (fi i) = M0 (fp i) (fi i) ∧ M 108 (100 * n + i) = M0 108 (100 * n + i)) ∧ M 74 48 = nI (100 * n + j) ∧ M 74 49 = M0 74 49 ∧ (∀ p i, p < 74 ∨ 83 < p → p ≠ 108 → M p i = M0 p i) ∧ M 74 16 = M0 74 16 ∧ ∀ i, i < 100 * n ∨ 100 * n + 82 ≤ i → M 108 i = M0 108 i
section PSS
variable {M0 : Mem} {n : Nat} {V : Nat → Int32} {L : LMem}
theorem ps_step {M : Mem} {j : Nat} {x : Int32} (p q : Nat) (h : PsO M0 n V j M) (hj : j < 82) (hn : n < 2) (hm : (M0 74 49 = nI 0 ∧ V j = M0 108 (100 * n + j)) ∨ (M0 74 49 = nI 1 ∧ V j = M0 (fp j) (fi j))) (hp : fp j = p) (hq : fi j = q) (hx : x = M p q) {K : Int32 → Mem → LMem → Prop} (kk : ∀ M1, PsO M0 n V (j + 1) (mput M1 p q (V j)) → K (V j) M1 L) : P_X10_pass x M L K := by
  obtain ⟨h1, h2, h3, h4, h5, h6, h7⟩ := h
  subst hp hq
  obtain ⟨l1, l2, l3, l4⟩ := fl_ok hj
  have hin : vp_in (M 74 48) 200 := by rw [h3]; exact pk_in (100 * n + j) 200 (by omega)
  have key : PsO M0 n V (j + 1) (mput (mput (mput M 108 (100 * n + j) (V j)) 74 48 (nI (100 * n + j + 1))) (fp j) (fi j) (V j)) := by
    have r : ∀ i, i < 82 → i ≠ j → (mput (mput (mput M 108 (100 * n + j) (V j)) 74 48 (nI (100 * n + j + 1))) (fp j) (fi j) (V j)) (fp i) (fi i) = M (fp i) (fi i) ∧ (mput (mput (mput M 108 (100 * n + j) (V j)) 74 48 (nI (100 * n + j + 1))) (fp j) (fi j) (V j)) 108 (100 * n + i) = M 108 (100 * n + i) := by
      intro i hi hn
      obtain ⟨k1, k2, k3, k4⟩ := fl_ok hi
      constructor
      · have e1 : (mput (mput (mput M 108 (100 * n + j) (V j)) 74 48 (nI (100 * n + j + 1))) (fp j) (fi j) (V j)) (fp i) (fi i) = (mput (mput M 108 (100 * n + j) (V j)) 74 48 (nI (100 * n + j + 1))) (fp i) (fi i) := by
          unfold mput
          rw [if_neg (fun e => (l4 i hi hn).elim (fun c => c e.1) (fun c => c e.2))]
        rw [e1]
        have e2 : (mput (mput M 108 (100 * n + j) (V j)) 74 48 (nI (100 * n + j + 1))) (fp i) (fi i) = (mput M 108 (100 * n + j) (V j)) (fp i) (fi i) := by
          unfold mput
          rw [if_neg (fun e => by omega)]
        rw [e2, mp_p _ (by omega)]
      · rw [mp_p _ (by omega), mp_p _ (by decide), mp_i _ (by omega)]
    refine ⟨fun i hi => ?_, fun i hi h82 => ?_, ?_, ?_, fun p i hp h108 => ?_, ?_, fun i hi => ?_⟩
    · by_cases e : i = j
      · subst e
        exact ⟨mp_s _ _ _ _, by rw [mp_p _ (by omega), mp_p _ (by decide), mp_s]⟩
      · obtain ⟨r1, r2⟩ := r i (by omega) e
        rw [r1, r2]
        exact h1 i (by omega)
    · obtain ⟨r1, r2⟩ := r i h82 (by omega)
      rw [r1, r2]
      exact h2 i (by omega) h82
    · have e1 : (mput (mput (mput M 108 (100 * n + j) (V j)) 74 48 (nI (100 * n + j + 1))) (fp j) (fi j) (V j)) 74 48 = (mput (mput M 108 (100 * n + j) (V j)) 74 48 (nI (100 * n + j + 1))) 74 48 := by
        unfold mput
        rw [if_neg (fun e => by omega)]
      rw [e1, mp_s]; rfl
    · have e1 : (mput (mput (mput M 108 (100 * n + j) (V j)) 74 48 (nI (100 * n + j + 1))) (fp j) (fi j) (V j)) 74 49 = (mput (mput M 108 (100 * n + j) (V j)) 74 48 (nI (100 * n + j + 1))) 74 49 := by
        unfold mput
        rw [if_neg (fun e => by omega)]
      rw [e1, mp_i _ (by decide), mp_p _ (by decide)]; exact h4
    · rw [mp_p _ (by omega), mp_p _ (by omega), mp_p _ h108]; exact h5 p i hp h108
    · have e1 : (mput (mput (mput M 108 (100 * n + j) (V j)) 74 48 (nI (100 * n + j + 1))) (fp j) (fi j) (V j)) 74 16 = (mput (mput M 108 (100 * n + j) (V j)) 74 48 (nI (100 * n + j + 1))) 74 16 := by
        unfold mput
        rw [if_neg (fun e => by omega)]
      rw [e1, mp_i _ (by decide), mp_p _ (by decide)]; exact h6
    · rw [mp_p _ (by omega), mp_p _ (by decide), mp_i _ (by omega)]; exact h7 i hi
  have e48 : (M 74 48).toNatClampNeg = 100 * n + j := by rw [h3]; exact nI_clamp (by omega)
  have ev : V j = M 108 (100 * n + j) ∧ M0 74 49 = nI 0 ∨ V j = x ∧ M0 74 49 = nI 1 := by
    rcases hm with ⟨m1, m2⟩ | ⟨m1, m2⟩
    · exact Or.inl ⟨m2.trans (h2 j (Nat.le_refl _) hj).2.symm, m1⟩
    · exact Or.inr ⟨by rw [m2, hx]; exact (h2 j (Nat.le_refl _) hj).1.symm, m1⟩
  unfold P_X10_pass
  rw [h4, e48, h3, nI_s]
  rw [h3] at hin
  rcases ev with ⟨ev, m1⟩ | ⟨ev, m1⟩
  · refine br_0 m1 ⟨hin, ?_⟩
    rw [← ev]
    exact kk _ key
  · refine br_1 m1 ⟨hin, ?_⟩
    rw [← ev]
    exact kk _ key

def PsM (M0 : Mem) (n : Nat) (V : Nat → Int32) : Prop := ∀ j, j < 82 → (M0 74 49 = nI 0 ∧ V j = M0 108 (100 * n + j)) ∨ (M0 74 49 = nI 1 ∧ V j = M0 (fp j) (fi j))
theorem fp_t0 {t : Nat} (h : t < 12) : fp (6 + 4 * t + 0) = 75 ∧ fi (6 + 4 * t + 0) = t := by
  unfold fp fi
  rw [if_neg (by omega), if_pos (by omega), if_neg (by omega), if_pos (by omega)]
  omega
theorem fp_t1 {t : Nat} (h : t < 12) : fp (6 + 4 * t + 1) = 76 ∧ fi (6 + 4 * t + 1) = t := by
  unfold fp fi
  rw [if_neg (by omega), if_pos (by omega), if_neg (by omega), if_pos (by omega)]
  omega
theorem fp_t2 {t : Nat} (h : t < 12) : fp (6 + 4 * t + 2) = 77 ∧ fi (6 + 4 * t + 2) = t := by
  unfold fp fi
  rw [if_neg (by omega), if_pos (by omega), if_neg (by omega), if_pos (by omega)]
  omega
theorem fp_t3 {t : Nat} (h : t < 12) : fp (6 + 4 * t + 3) = 78 ∧ fi (6 + 4 * t + 3) = t := by
  unfold fp fi
  rw [if_neg (by omega), if_pos (by omega), if_neg (by omega), if_pos (by omega)]
  omega
theorem fp_c0 {c : Nat} (h : c < 5) : fp (62 + 4 * c + 0) = 80 ∧ fi (62 + 4 * c + 0) = c := by
  unfold fp fi
  rw [if_neg (by omega), if_neg (by omega), if_neg (by omega), if_neg (by omega), if_neg (by omega), if_neg (by omega)]
  omega
theorem fp_c1 {c : Nat} (h : c < 5) : fp (62 + 4 * c + 1) = 81 ∧ fi (62 + 4 * c + 1) = c := by
  unfold fp fi
  rw [if_neg (by omega), if_neg (by omega), if_neg (by omega), if_neg (by omega), if_neg (by omega), if_neg (by omega)]
  omega
theorem fp_c2 {c : Nat} (h : c < 5) : fp (62 + 4 * c + 2) = 82 ∧ fi (62 + 4 * c + 2) = c := by
  unfold fp fi
  rw [if_neg (by omega), if_neg (by omega), if_neg (by omega), if_neg (by omega), if_neg (by omega), if_neg (by omega)]
  omega
theorem fp_c3 {c : Nat} (h : c < 5) : fp (62 + 4 * c + 3) = 83 ∧ fi (62 + 4 * c + 3) = c := by
  unfold fp fi
  rw [if_neg (by omega), if_neg (by omega), if_neg (by omega), if_neg (by omega), if_neg (by omega), if_neg (by omega)]
  omega
theorem fp_r {r : Nat} (h : r < 8) : fp (54 + r) = 79 ∧ fi (54 + r) = r := by
  unfold fp fi
  rw [if_neg (by omega), if_neg (by omega), if_pos (by omega), if_neg (by omega), if_neg (by omega), if_pos (by omega)]
  omega
theorem hl_pass_182 (hn : n < 2) (hm : PsM M0 n V) {K : Mem → LMem → Prop} (kk : ∀ M, PsO M0 n V 82 M → K M L) :
    ∀ (f c : Nat) (M : Mem), c ≤ 5 → 5 < f + c → PsO M0 n V (62 + 4 * c) M → PL_X10_passAll_182 K f (nI c) M L := by
  intro f
  induction f with
  | zero => intro c M h1 h2; omega
  | succ f ih =>
    intro c M h1 h2 h
    unfold PL_X10_passAll_182
    refine pk_le 5 c (fun c1 => ?_) (fun c1 => ⟨pk_in c 5 c1, ?_⟩)
    · rw [show c = 5 by omega] at h; exact kk M h
    · have ec : (nI c).toNatClampNeg = c := nI_clamp (by omega)
      rw [ec]
      refine ps_step 80 c h (by omega) hn (hm _ (by omega)) (fp_c0 c1).1 (fp_c0 c1).2 rfl (fun M0 g0 => ?_)
      refine ps_step 81 c g0 (by omega) hn (hm _ (by omega)) (fp_c1 c1).1 (fp_c1 c1).2 (by rw [mp_p _ (by decide)]) (fun M1 g1 => ?_)
      refine ps_step 82 c g1 (by omega) hn (hm _ (by omega)) (fp_c2 c1).1 (fp_c2 c1).2 (by rw [mp_p _ (by decide)]) (fun M2 g2 => ?_)
      refine ps_step 83 c g2 (by omega) hn (hm _ (by omega)) (fp_c3 c1).1 (fp_c3 c1).2 (by rw [mp_p _ (by decide)]) (fun M3 g3 => ?_)
      rw [nI_s]
      exact ih (c + 1) _ (by omega) (by omega) g3
theorem hl_pass_152 (hn : n < 2) (hm : PsM M0 n V) {K : Mem → LMem → Prop} (kk : ∀ M, PsO M0 n V 82 M → K M L) :
    ∀ (f r : Nat) (M : Mem), r ≤ 8 → 8 < f + r → PsO M0 n V (54 + r) M → PL_X10_passAll_152 K f (nI r) M L := by
  intro f
  induction f with
  | zero => intro r M h1 h2; omega
  | succ f ih =>
    intro r M h1 h2 h
    unfold PL_X10_passAll_152
    refine pk_le 8 r (fun c1 => ?_) (fun c1 => ⟨pk_in r 8 c1, ?_⟩)
    · rw [show r = 8 by omega] at h
      exact hl_pass_182 hn hm kk 100000 0 M (by omega) (by omega) h
    · have ec : (nI r).toNatClampNeg = r := nI_clamp (by omega)
      rw [ec]
      refine ps_step 79 r h (by omega) hn (hm _ (by omega)) (fp_r c1).1 (fp_r c1).2 rfl (fun M1 g => ?_)
      rw [nI_s]
      exact ih (r + 1) _ (by omega) (by omega) g
theorem hl_pass_74 (hn : n < 2) (hm : PsM M0 n V) {K : Mem → LMem → Prop} (kk : ∀ M, PsO M0 n V 82 M → K M L) :
    ∀ (f t : Nat) (M : Mem), t ≤ 12 → 12 < f + t → PsO M0 n V (6 + 4 * t) M → PL_X10_passAll_74 K f (nI t) M L := by
  intro f
  induction f with
  | zero => intro t M h1 h2; omega
  | succ f ih =>
    intro t M h1 h2 h
    unfold PL_X10_passAll_74
    refine pk_le 12 t (fun c1 => ?_) (fun c1 => ⟨pk_in t 13 (by omega), ?_⟩)
    · rw [show t = 12 by omega] at h
      exact hl_pass_152 hn hm kk 100000 0 M (by omega) (by omega) h
    · have ec : (nI t).toNatClampNeg = t := nI_clamp (by omega)
      rw [ec]
      refine ps_step 75 t h (by omega) hn (hm _ (by omega)) (fp_t0 c1).1 (fp_t0 c1).2 rfl (fun M0 g0 => ?_)
      refine ps_step 76 t g0 (by omega) hn (hm _ (by omega)) (fp_t1 c1).1 (fp_t1 c1).2 (by rw [mp_p _ (by decide)]) (fun M1 g1 => ?_)
      refine ps_step 77 t g1 (by omega) hn (hm _ (by omega)) (fp_t2 c1).1 (fp_t2 c1).2 (by rw [mp_p _ (by decide)]) (fun M2 g2 => ?_)
      refine ps_step 78 t g2 (by omega) hn (hm _ (by omega)) (fp_t3 c1).1 (fp_t3 c1).2 (by rw [mp_p _ (by decide)]) (fun M3 g3 => ?_)
      rw [nI_s]
      exact ih (t + 1) _ (by omega) (by omega) g3
theorem h_passAll (hn : n < 2) (hm : PsM M0 n V) (h48 : M0 74 48 = nI (100 * n)) {K : Mem → LMem → Prop} (kk : ∀ M, PsO M0 n V 82 M → K M L) : P_X10_passAll M0 L K := by
  unfold P_X10_passAll
  have h : PsO M0 n V 0 M0 := ⟨fun i hi => by omega, fun i _ _ => ⟨rfl, rfl⟩, h48, rfl, fun _ _ _ _ => rfl, rfl, fun _ _ => rfl⟩
  refine ps_step (j := 0) 74 4 h (by decide) hn (hm _ (by decide)) rfl rfl rfl (fun M0 g0 => ?_)
  refine ps_step (j := 1) 74 5 g0 (by decide) hn (hm _ (by decide)) rfl rfl (by rw [mp_i _ (by decide)]) (fun M1 g1 => ?_)
  refine ps_step (j := 2) 74 6 g1 (by decide) hn (hm _ (by decide)) rfl rfl (by rw [mp_i _ (by decide)]) (fun M2 g2 => ?_)
  refine ps_step (j := 3) 74 12 g2 (by decide) hn (hm _ (by decide)) rfl rfl (by rw [mp_i _ (by decide)]) (fun M3 g3 => ?_)
  refine ps_step (j := 4) 74 13 g3 (by decide) hn (hm _ (by decide)) rfl rfl (by rw [mp_i _ (by decide)]) (fun M4 g4 => ?_)
  refine ps_step (j := 5) 74 14 g4 (by decide) hn (hm _ (by decide)) rfl rfl (by rw [mp_i _ (by decide)]) (fun M5 g5 => ?_)
  exact hl_pass_74 hn hm kk 100000 0 _ (by omega) (by omega) g5
end PSS
theorem KpM_of {M M0 : Mem} {n : Nat} {st : Stt} (hS : SOK st) (h : KpK M0 n st) (hf : ∀ i, i < 82 → M (fp i) (fi i) = M0 108 (100 * n + i)) : KpM M st := by
  obtain ⟨h1, h2, h3, h4, h5, h6, h7, h8, h9⟩ := h
  have h12 := hS.2.1
  have hw := hS.2.2.2.2.1
  refine ⟨(hf 0 (by decide)).trans h1, fun t ht => ?_, (hf 1 (by decide)).trans h3, (hf 2 (by decide)).trans h4, (hf 3 (by decide)).trans h5, (hf 4 (by decide)).trans h6, (hf 5 (by decide)).trans h7, fun r hr => ?_, fun c hc => ?_⟩
  · obtain ⟨b1, b2, b3, b4⟩ := h2 t ht
    have f0 := hf (6 + 4 * t + 0) (by omega)
    rw [(fp_t0 (by omega)).1, (fp_t0 (by omega)).2] at f0
    have f1 := hf (6 + 4 * t + 1) (by omega)
    rw [(fp_t1 (by omega)).1, (fp_t1 (by omega)).2] at f1
    have f2 := hf (6 + 4 * t + 2) (by omega)
    rw [(fp_t2 (by omega)).1, (fp_t2 (by omega)).2] at f2
    have f3 := hf (6 + 4 * t + 3) (by omega)
    rw [(fp_t3 (by omega)).1, (fp_t3 (by omega)).2] at f3
    refine ⟨f0.trans b1, f1.trans ?_, f2.trans ?_, f3.trans ?_⟩
    · rw [← b2]; congr 1; omega
    · rw [← b3]; congr 1; omega
    · rw [← b4]; congr 1; omega
  · have f := hf (54 + r) (by omega)
    rw [(fp_r hr).1, (fp_r hr).2] at f
    exact f.trans (h8 r hr)
  · obtain ⟨b1, b2, b3, b4⟩ := h9 c hc
    have f0 := hf (62 + 4 * c + 0) (by omega)
    rw [(fp_c0 (by omega)).1, (fp_c0 (by omega)).2] at f0
    have f1 := hf (62 + 4 * c + 1) (by omega)
    rw [(fp_c1 (by omega)).1, (fp_c1 (by omega)).2] at f1
    have f2 := hf (62 + 4 * c + 2) (by omega)
    rw [(fp_c2 (by omega)).1, (fp_c2 (by omega)).2] at f2
    have f3 := hf (62 + 4 * c + 3) (by omega)
    rw [(fp_c3 (by omega)).1, (fp_c3 (by omega)).2] at f3
    refine ⟨f0.trans b1, f1.trans ?_, f2.trans ?_, f3.trans ?_⟩
    · rw [← b2]; congr 1; omega
    · rw [← b3]; congr 1; omega
    · rw [← b4]; congr 1; omega
theorem KpK_of {M M0 : Mem} {n : Nat} {st : Stt} (hS : SOK st) (h : KpM M0 st) (hf : ∀ i, i < 82 → M 108 (100 * n + i) = M0 (fp i) (fi i)) : KpK M n st := by
  obtain ⟨h1, h2, h3, h4, h5, h6, h7, h8, h9⟩ := h
  have h12 := hS.2.1
  have hw := hS.2.2.2.2.1
  refine ⟨(hf 0 (by decide)).trans h1, fun t ht => ?_, (hf 1 (by decide)).trans h3, (hf 2 (by decide)).trans h4, (hf 3 (by decide)).trans h5, (hf 4 (by decide)).trans h6, (hf 5 (by decide)).trans h7, fun r hr => ?_, fun c hc => ?_⟩
  · obtain ⟨b1, b2, b3, b4⟩ := h2 t ht
    have f0 := hf (6 + 4 * t + 0) (by omega)
    rw [(fp_t0 (by omega)).1, (fp_t0 (by omega)).2] at f0
    have f1 := hf (6 + 4 * t + 1) (by omega)
    rw [(fp_t1 (by omega)).1, (fp_t1 (by omega)).2] at f1
    have f2 := hf (6 + 4 * t + 2) (by omega)
    rw [(fp_t2 (by omega)).1, (fp_t2 (by omega)).2] at f2
    have f3 := hf (6 + 4 * t + 3) (by omega)
    rw [(fp_t3 (by omega)).1, (fp_t3 (by omega)).2] at f3
    rw [show 100 * n + (7 + 4 * t) = 100 * n + (6 + 4 * t + 1) by omega, show 100 * n + (8 + 4 * t) = 100 * n + (6 + 4 * t + 2) by omega, show 100 * n + (9 + 4 * t) = 100 * n + (6 + 4 * t + 3) by omega]
    exact ⟨f0.trans b1, f1.trans b2, f2.trans b3, f3.trans b4⟩
  · have f := hf (54 + r) (by omega)
    rw [(fp_r hr).1, (fp_r hr).2] at f
    exact f.trans (h8 r hr)
  · obtain ⟨b1, b2, b3, b4⟩ := h9 c hc
    have f0 := hf (62 + 4 * c + 0) (by omega)
    rw [(fp_c0 (by omega)).1, (fp_c0 (by omega)).2] at f0
    have f1 := hf (62 + 4 * c + 1) (by omega)
    rw [(fp_c1 (by omega)).1, (fp_c1 (by omega)).2] at f1
    have f2 := hf (62 + 4 * c + 2) (by omega)
    rw [(fp_c2 (by omega)).1, (fp_c2 (by omega)).2] at f2
    have f3 := hf (62 + 4 * c + 3) (by omega)
    rw [(fp_c3 (by omega)).1, (fp_c3 (by omega)).2] at f3
    rw [show 100 * n + (63 + 4 * c) = 100 * n + (62 + 4 * c + 1) by omega, show 100 * n + (64 + 4 * c) = 100 * n + (62 + 4 * c + 2) by omega, show 100 * n + (65 + 4 * c) = 100 * n + (62 + 4 * c + 3) by omega]
    exact ⟨f0.trans b1, f1.trans b2, f2.trans b3, f3.trans b4⟩
theorem nar1 : vp_nar .boolean (Int32.ofInt 1) = nI 1 := by decide
theorem im_fin {M M1 : Mem} {L : LMem} {s : Stt} {np n b : Nat} {pd : Nat → Nat} (hb : (n = 0 ∧ b = 14) ∨ (n = 1 ∧ b = 25)) (hI : INVs M s np pd) (hc : Cpy M M1 3 b) {K : Mem → LMem → Prop} (kk : ∀ M2, INV (mput M2 109 n (nI 1)) L → K M2 L) : P_X10_passAll (mput (mput (mput M1 36 n (nI 1)) 74 48 (nI (100 * n))) 74 49 (nI 1)) L K := by
  obtain ⟨hS, hC, hM, hP, hI0, hI1⟩ := hI
  generalize hM3 : mput (mput (mput M1 36 n (nI 1)) 74 48 (nI (100 * n))) 74 49 (nI 1) = M3
  have a1 : ∀ p i, p < b ∨ b + 10 < p → p ≠ 36 → p ≠ 74 → M3 p i = M p i := fun p i h h36 h74 => by
    rw [← hM3, mp_p _ h74, mp_p _ h74, mp_p _ h36]; exact hc.1 p i h
  have a2 : ∀ p i, p ≠ 36 → p ≠ 74 → M3 p i = M1 p i := fun p i h36 h74 => by
    rw [← hM3, mp_p _ h74, mp_p _ h74, mp_p _ h36]
  have a3 : ∀ i, i ≠ 48 → i ≠ 49 → M3 74 i = M 74 i := fun i h48 h49 => by
    rw [← hM3, mp_i _ h49, mp_i _ h48, mp_p _ (by decide)]; exact hc.1 74 i (by omega)
  have af : ∀ i, i < 82 → M3 (fp i) (fi i) = M (fp i) (fi i) := fun i hi => by
    obtain ⟨l1, l2, l3, -⟩ := fl_ok hi
    by_cases e : fp i = 74
    · rw [e]; exact a3 _ (by omega) (by omega)
    · exact a1 _ _ (by omega) (by omega) e
  refine h_passAll (M0 := M3) (n := n) (V := fun j => M3 (fp j) (fi j)) (by omega) (fun j _ => Or.inr ⟨by rw [← hM3, mp_s], rfl⟩) (by rw [← hM3, mp_i _ (by decide), mp_s]) (fun M2 hps => kk M2 ?_)
  obtain ⟨q1, q2, q3, q4, q5, q6, q7⟩ := hps
  have hK : KpK M2 n s := KpK_of hS hM (fun i hi => (q1 i hi).2.trans (af i hi))
  have hM2 : KpM M2 s := KpM_of (M0 := M2) (n := n) hS hK (fun i hi => (q1 i hi).1.trans (q1 i hi).2.symm)
  have own : ImO (mput M2 109 n (nI 1)) n b := by
    refine ⟨?_, Or.inr ⟨?_, mp_s _ _ _ _, s, hS, (hc.kp hS hC).eq (fun p i x y => ?_), hK.eq hS.2.1 hS.2.2.2.2.1 (fun i hi => mp_p _ (by decide))⟩⟩
    · rw [mp_p _ (by decide), q5 68 1 (by decide) (by decide), a1 68 1 (by omega) (by decide) (by decide)]; exact hI0.1
    · rw [mp_p _ (by decide), q5 36 n (by decide) (by decide), ← hM3, mp_p _ (by decide), mp_p _ (by decide), mp_s]
    · rw [mp_p _ (by omega), q5 p i (by omega) (by omega), a2 p i (by omega) (by omega)]
  have other : ∀ n' b', (n' = 0 ∧ b' = 14) ∨ (n' = 1 ∧ b' = 25) → n' ≠ n → ImO M n' b' → ImO (mput M2 109 n (nI 1)) n' b' := by
    intro n' b' hb' hn h
    refine h.eq ?_ ?_ ?_ (fun p i x y => ?_) (fun i hi => ?_)
    · rw [mp_p _ (by decide), q5 68 1 (by decide) (by decide)]; exact a1 68 1 (by omega) (by decide) (by decide)
    · rw [mp_p _ (by decide), q5 36 n' (by decide) (by decide), ← hM3, mp_p _ (by decide), mp_p _ (by decide), mp_i _ hn]; exact hc.1 36 n' (by omega)
    · rw [mp_i _ hn, q5 109 n' (by decide) (by decide)]; exact a1 109 n' (by omega) (by decide) (by decide)
    · rw [mp_p _ (by omega), q5 p i (by omega) (by omega)]; exact a1 p i (by omega) (by omega) (by omega)
    · rw [mp_p _ (by decide), q7 _ (by omega)]; exact a1 108 _ (by omega) (by decide) (by decide)
  refine ⟨s, np, pd, hS, hC.eq (fun p i x y => ?_), hM2.eq (fun i hi => mp_p _ (by decide)) (fun p i x y => mp_p _ (by omega)), hP.eq ?_ ?_ (fun i => ?_) (fun i => ?_), ?_, ?_⟩
  · rw [mp_p _ (by omega), q5 p i (by omega) (by omega)]; exact a1 p i (by omega) (by omega) (by omega)
  · rw [mp_p _ (by decide), q5 1 1 (by decide) (by decide)]; exact a1 1 1 (by omega) (by decide) (by decide)
  · rw [mp_p _ (by decide), q6]; exact a3 16 (by decide) (by decide)
  · rw [mp_p _ (by decide), q5 2 i (by decide) (by decide)]; exact a1 2 i (by omega) (by decide) (by decide)
  · rw [mp_p _ (by decide), q5 84 i (by decide) (by decide)]; exact a1 84 i (by omega) (by decide) (by decide)
  · rcases hb with ⟨rfl, rfl⟩ | ⟨rfl, rfl⟩
    · exact own
    · exact other 0 14 (Or.inl ⟨rfl, rfl⟩) (by decide) hI0
  · rcases hb with ⟨rfl, rfl⟩ | ⟨rfl, rfl⟩
    · exact other 1 25 (Or.inr ⟨rfl, rfl⟩) (by decide) hI1
    · exact own
theorem op_image : Op_image INV := by
  intro M L x1 hI
  obtain ⟨s, np, pd, hI⟩ := hI
  have iv : INV M L := ⟨s, np, pd, hI⟩
  show P_X9_image x1 M L (fun r M1 L1 => P_X10_image x1 M1 L1 (fun r2 M2 L2 => r2 = r ∧ INV M2 L2))
  unfold P_X9_image P_X10_image
  rcases wi_cases x1 0 1 (Int32.ofInt 0) (Int32.ofInt 1) (Int64.ofNat 0) (Int64.ofNat 1) with ⟨k, k1, k2, rfl, k3, k4⟩ | ⟨k1, k3, k4⟩
  · rcases (by omega : k = 0 ∨ k = 1) with rfl | rfl
    · refine br_1 (k3 M) (br_t rfl (h_copy_14_3 (fun M1 hc => ⟨pk_in 0 2 (by decide), br_1 (k4 _) ?_⟩)))
      rw [nar1]
      exact im_fin (n := 0) (b := 14) (Or.inl ⟨rfl, rfl⟩) hI hc (fun M2 h => ⟨pk_in 0 2 (by decide), rfl, h⟩)
    · refine br_1 (k3 M) (br_f one_ne (h_copy_25_3 (fun M1 hc => ⟨pk_in 1 2 (by decide), br_1 (k4 _) ?_⟩)))
      rw [nar1]
      exact im_fin (n := 1) (b := 25) (Or.inr ⟨rfl, rfl⟩) hI hc (fun M2 h => ⟨pk_in 1 2 (by decide), rfl, h⟩)
  · exact br_0 (k3 M) (br_0 (k4 M) ⟨rfl, iv⟩)
theorem re_fin {M M1 : Mem} {L : LMem} {s st : Stt} {np n b : Nat} {pd : Nat → Nat} (hb : (n = 0 ∧ b = 14) ∨ (n = 1 ∧ b = 25)) (hI : INVs M s np pd) (hS : SOK st) (hCb : KpC M b st) (hKb : KpK M n st) (hc : Cpy M M1 b 3) {K : Mem → LMem → Prop} (kk : ∀ M2, INV M2 L → K M2 L) : P_X10_passAll (mput (mput M1 74 48 (nI (100 * n))) 74 49 (nI 0)) L K := by
  obtain ⟨-, hC, hM, hP, hI0, hI1⟩ := hI
  generalize hM3 : mput (mput M1 74 48 (nI (100 * n))) 74 49 (nI 0) = M3
  have a1 : ∀ p i, p < 3 ∨ 13 < p → p ≠ 74 → M3 p i = M p i := fun p i h h74 => by
    rw [← hM3, mp_p _ h74, mp_p _ h74]; exact hc.1 p i (by omega)
  have a2 : ∀ p i, p ≠ 74 → M3 p i = M1 p i := fun p i h74 => by
    rw [← hM3, mp_p _ h74, mp_p _ h74]
  have a3 : ∀ i, i ≠ 48 → i ≠ 49 → M3 74 i = M 74 i := fun i h48 h49 => by
    rw [← hM3, mp_i _ h49, mp_i _ h48]; exact hc.1 74 i (by omega)
  refine h_passAll (M0 := M3) (n := n) (V := fun j => M3 108 (100 * n + j)) (by omega) (fun j _ => Or.inl ⟨by rw [← hM3, mp_s], rfl⟩) (by rw [← hM3, mp_i _ (by decide), mp_s]) (fun M2 hps => kk M2 ?_)
  obtain ⟨q1, q2, q3, q4, q5, q6, q7⟩ := hps
  have k108 : ∀ i, M2 108 i = M 108 i := fun i => by
    refine Eq.trans ?_ (a1 108 i (by omega) (by decide))
    by_cases e : i < 100 * n ∨ 100 * n + 82 ≤ i
    · exact q7 i e
    · have : M2 108 (100 * n + (i - 100 * n)) = M3 108 (100 * n + (i - 100 * n)) := (q1 (i - 100 * n) (by omega)).2
      rw [show 100 * n + (i - 100 * n) = i by omega] at this
      exact this
  have hM2 : KpM M2 st := KpM_of hS hKb (fun i hi => (q1 i hi).1.trans (a1 108 _ (by omega) (by decide)))
  have im : ∀ n' b', (n' = 0 ∧ b' = 14) ∨ (n' = 1 ∧ b' = 25) → ImO M n' b' → ImO M2 n' b' := by
    intro n' b' hb' h
    refine h.eq ?_ ?_ ?_ (fun p i x y => ?_) (fun i hi => k108 _)
    · rw [q5 68 1 (by decide) (by decide)]; exact a1 68 1 (by omega) (by decide)
    · rw [q5 36 n' (by decide) (by decide)]; exact a1 36 n' (by omega) (by decide)
    · rw [q5 109 n' (by decide) (by decide)]; exact a1 109 n' (by omega) (by decide)
    · rw [q5 p i (by omega) (by omega)]; exact a1 p i (by omega) (by omega)
  refine ⟨st, np, pd, hS, (hc.kp hS hCb).eq (fun p i x y => ?_), hM2, hP.eq ?_ ?_ (fun i => ?_) (fun i => ?_), im 0 14 (Or.inl ⟨rfl, rfl⟩) hI0, im 1 25 (Or.inr ⟨rfl, rfl⟩) hI1⟩
  · rw [q5 p i (by omega) (by omega)]; exact a2 p i (by omega)
  · rw [q5 1 1 (by decide) (by decide)]; exact a1 1 1 (by omega) (by decide)
  · rw [q6]; exact a3 16 (by decide) (by decide)
  · rw [q5 2 i (by decide) (by decide)]; exact a1 2 i (by omega) (by decide)
  · rw [q5 84 i (by decide) (by decide)]; exact a1 84 i (by omega) (by decide)
theorem op_restore : Op_restore INV := by
  intro M L x1 hI
  obtain ⟨s, np, pd, hI⟩ := hI
  have iv : INV M L := ⟨s, np, pd, hI⟩
  show P_X9_restore x1 M L (fun r M1 L1 => P_X10_restore x1 M1 L1 (fun r2 M2 L2 => r2 = r ∧ INV M2 L2))
  unfold P_X9_restore P_X10_restore
  rcases wi_cases x1 0 1 (Int32.ofInt 0) (Int32.ofInt 1) (Int64.ofNat 0) (Int64.ofNat 1) with ⟨k, k1, k2, rfl, k3, k4⟩ | ⟨k1, k3, k4⟩
  · rcases (by omega : k = 0 ∨ k = 1) with rfl | rfl
    · have hin : vp_in (nI 0) 2 := pk_in 0 2 (by decide)
      refine br_1 (k3 M) ⟨hin, ?_⟩
      rcases hI.2.2.2.2.1.2 with ⟨h1, h2⟩ | ⟨h1, h2, st, hS, hCb, hKb⟩
      · exact br_0 h1 (br_1 (k4 _) ⟨hin, br_0 h2 ⟨rfl, iv⟩⟩)
      · refine br_1 h1 (br_t rfl (h_copy_3_14 (fun M1 hc => br_1 (k4 _) ⟨hin, br_1 ((hc.1 109 0 (by decide)).trans h2) ?_⟩)))
        exact re_fin (n := 0) (b := 14) (Or.inl ⟨rfl, rfl⟩) hI hS hCb hKb hc (fun M2 h => ⟨rfl, h⟩)
    · have hin : vp_in (nI 1) 2 := pk_in 1 2 (by decide)
      refine br_1 (k3 M) ⟨hin, ?_⟩
      rcases hI.2.2.2.2.2.2 with ⟨h1, h2⟩ | ⟨h1, h2, st, hS, hCb, hKb⟩
      · exact br_0 h1 (br_1 (k4 _) ⟨hin, br_0 h2 ⟨rfl, iv⟩⟩)
      · refine br_1 h1 (br_f one_ne (h_copy_3_25 (fun M1 hc => br_1 (k4 _) ⟨hin, br_1 ((hc.1 109 1 (by decide)).trans h2) ?_⟩)))
        exact re_fin (n := 1) (b := 25) (Or.inr ⟨rfl, rfl⟩) hI hS hCb hKb hc (fun M2 h => ⟨rfl, h⟩)
  · exact br_0 (k3 M) (br_0 (k4 M) ⟨rfl, iv⟩)
