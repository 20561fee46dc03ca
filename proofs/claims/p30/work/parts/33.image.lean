/-! ===== images ===== -/
theorem mc_o {M : Mem} {ks kd sp dp n a i : Nat} (h : a ≠ kd) : mcpy M ks kd sp dp n a i = M a i := by
  unfold mcpy; rw [if_neg h]
theorem mc_in {M : Mem} {ks kd n j : Nat} (h : j < n) : mcpy M ks kd 0 0 n kd j = M ks j := by
  unfold mcpy
  rw [if_pos rfl, pk_cpy_in (by omega) (by omega), Nat.zero_add, Nat.sub_zero]
theorem tn0 : (Int32.ofInt 0).toNatClampNeg = 0 := rfl
theorem tn12 : (Int32.ofInt 12).toNatClampNeg = 12 := rfl
theorem tn8 : (Int32.ofInt 8).toNatClampNeg = 8 := rfl
theorem tn5 : (Int32.ofInt 5).toNatClampNeg = 5 := rfl
def Cpy (M M' : Mem) (s d : Nat) : Prop := (∀ p i, p < d ∨ d + 10 < p → M' p i = M p i) ∧ M' (d + 1) 4 = M (s + 1) 4 ∧ (∀ t, t < 12 → M' (d + 2) t = M (s + 2) t ∧ M' (d + 3) t = M (s + 3) t ∧ M' (d + 4) t = M (s + 4) t ∧ M' (d + 5) t = M (s + 5) t) ∧ M' d 1 = M s 1 ∧ M' d 2 = M s 2 ∧ M' d 8 = M s 8 ∧ M' d 10 = M s 10 ∧ M' d 9 = M s 9 ∧ (∀ r, r < 8 → M' (d + 6) r = M (s + 6) r) ∧ ∀ c, c < 5 → M' (d + 7) c = M (s + 7) c ∧ M' (d + 8) c = M (s + 8) c ∧ M' (d + 9) c = M (s + 9) c ∧ M' (d + 10) c = M (s + 10) c
theorem Cpy.kp {M M' : Mem} {s d : Nat} {st : Stt} (h : Cpy M M' s d) (hS : SOK st) (hC : KpC M s st) : KpC M' d st := by
  obtain ⟨c0, c1, c2, c3, c4, c5, c6, c7, c8, c9⟩ := h
  obtain ⟨h1, h2, h3, h4, h5, h6, h7, h8, h9⟩ := hC
  have h12 := hS.2.1
  have hw := hS.2.2.2.2.1
  refine ⟨c1.trans h1, fun t ht => ?_, c3.trans h3, c4.trans h4, c5.trans h5, c6.trans h6, c7.trans h7, fun r hr => (c8 r hr).trans (h8 r hr), fun c hc => ?_⟩
  · obtain ⟨a1, a2, a3, a4⟩ := c2 t (by omega)
    obtain ⟨b1, b2, b3, b4⟩ := h2 t ht
    exact ⟨a1.trans b1, a2.trans b2, a3.trans b3, a4.trans b4⟩
  · obtain ⟨a1, a2, a3, a4⟩ := c9 c (by omega)
    obtain ⟨b1, b2, b3, b4⟩ := h9 c hc
    exact ⟨a1.trans b1, a2.trans b2, a3.trans b3, a4.trans b4⟩

/-! the model's way through all that is kept -/
def fp (j : Nat) : Nat := if j < 6 then 74 else if j < 54 then 75 + (j - 6) % 4 else if j < 62 then 79 else 80 + (j - 62) % 4
def fi (j : Nat) : Nat := if j < 6 then (if j = 0 then 4 else if j = 1 then 5 else if j = 2 then 6 else if j = 3 then 12 else if j = 4 then 13 else 14) else if j < 54 then (j - 6) / 4 else if j < 62 then j - 54 else (j - 62) / 4
def flOk (j : Nat) : Bool := Nat.ble 74 (fp j) && (Nat.ble (fp j) 83 && (Nat.ble (fi j) 14 && (List.range 82).all (fun i => !(Nat.beq (fp i) (fp j) && Nat.beq (fi i) (fi j)) || Nat.beq i j)))
theorem fl_all : (List.range 82).all flOk = true := by decide +kernel
theorem fl_ok {j : Nat} (h : j < 82) : 74 ≤ fp j ∧ fp j ≤ 83 ∧ fi j ≤ 14 ∧ ∀ i, i < 82 → i ≠ j → fp i ≠ fp j ∨ fi i ≠ fi j := by
  have h1 := List.all_eq_true.mp fl_all j (List.mem_range.mpr h)
  unfold flOk at h1
  simp only [Bool.and_eq_true] at h1
  obtain ⟨a1, a2, a3, a4⟩ := h1
  refine ⟨Nat.le_of_ble_eq_true a1, Nat.le_of_ble_eq_true a2, Nat.le_of_ble_eq_true a3, fun i hi hn => ?_⟩
  have h2 := List.all_eq_true.mp a4 i (List.mem_range.mpr hi)
  rw [nbf hn, Bool.or_false] at h2
  by_cases c : fp i = fp j
  · refine Or.inr (fun e => ?_)
    rw [c, e, Nat.beq_refl, Nat.beq_refl] at h2
    exact absurd h2 (by decide)
  · exact Or.inl c
def PsO (M0 : Mem) (n : Nat) (V : Nat → Int32) (j : Nat) (M : Mem) : Prop := (∀ i, i < j → M (fp i) (fi i) = V i ∧ M 108 (100 * n + i) = V i) ∧ (∀ i, j ≤ i → i < 82 → M (fp i) (fi i) = M0 (fp i) (fi i) ∧ M 108 (100 * n + i) = M0 108 (100 * n + i)) ∧ M 74 48 = nI (100 * n + j) ∧ M 74 49 = M0 74 49 ∧ (∀ p i, p < 74 ∨ 83 < p → p ≠ 108 → M p i = M0 p i) ∧ M 74 16 = M0 74 16 ∧ ∀ i, i < 100 * n ∨ 100 * n + 82 ≤ i → M 108 i = M0 108 i
section PSS
variable {M0 : Mem} {n : Nat} {V : Nat → Int32} {L : LMem}
def PsM (M0 : Mem) (n : Nat) (V : Nat → Int32) : Prop := ∀ j, j < 82 → (M0 74 49 = nI 0 ∧ V j = M0 108 (100 * n + j)) ∨ (M0 74 49 = nI 1 ∧ V j = M0 (fp j) (fi j))
theorem fp_t0 {t : Nat} (h : t < 12) : fp (6 + 4 * t + 0) = 75 ∧ fi (6 + 4 * t + 0) = t := by
  unfold fp fi
  rw [if_neg (by omega), if_pos (by omega), if_neg (by omega), if_pos (by omega)]
  omega
theorem fp_t1 {t : Nat} (h : t < 12) : fp (6 + 4 * t + 1) = 76 ∧ fi (6 + 4 * t + 1) = t := by
  unfold fp fi
  rw [if_neg (by omega), if_pos (by omega), if_neg (by omega), if_pos (by omega)]
  omega
theorem fp_t2 {t : Nat} (h : t < 12) : fp (6 + 4 * t + 2) = 77 ∧ fi (6 + 4 * t + 2) = t := by
  unfold fp fi
  rw [if_neg (by omega), if_pos (by omega), if_neg (by omega), if_pos (by omega)]
  omega
theorem fp_t3 {t : Nat} (h : t < 12) : fp (6 + 4 * t + 3) = 78 ∧ fi (6 + 4 * t + 3) = t := by
  unfold fp fi
  rw [if_neg (by omega), if_pos (by omega), if_neg (by omega), if_pos (by omega)]
  omega
theorem fp_c0 {c : Nat} (h : c < 5) : fp (62 + 4 * c + 0) = 80 ∧ fi (62 + 4 * c + 0) = c := by
  unfold fp fi
  rw [if_neg (by omega), if_neg (by omega), if_neg (by omega), if_neg (by omega), if_neg (by omega), if_neg (by omega)]
  omega
theorem fp_c1 {c : Nat} (h : c < 5) : fp (62 + 4 * c + 1) = 81 ∧ fi (62 + 4 * c + 1) = c := by
  unfold fp fi
  rw [if_neg (by omega), if_neg (by omega), if_neg (by omega), if_neg (by omega), if_neg (by omega), if_neg (by omega)]
  omega
theorem fp_c2 {c : Nat} (h : c < 5) : fp (62 + 4 * c + 2) = 82 ∧ fi (62 + 4 * c + 2) = c := by
  unfold fp fi
  rw [if_neg (by omega), if_neg (by omega), if_neg (by omega), if_neg (by omega), if_neg (by omega), if_neg (by omega)]
  omega
theorem fp_c3 {c : Nat} (h : c < 5) : fp (62 + 4 * c + 3) = 83 ∧ fi (62 + 4 * c + 3) = c := by
  unfold fp fi
  rw [if_neg (by omega), if_neg (by omega), if_neg (by omega), if_neg (by omega), if_neg (by omega), if_neg (by omega)]
  omega
theorem fp_r {r : Nat} (h : r < 8) : fp (54 + r) = 79 ∧ fi (54 + r) = r := by
  unfold fp fi
  rw [if_neg (by omega), if_neg (by omega), if_pos (by omega), if_neg (by omega), if_neg (by omega), if_pos (by omega)]
  omega
end PSS
theorem nar1 : vp_nar .boolean (Int32.ofInt 1) = nI 1 := by decide
