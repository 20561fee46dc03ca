/-! ===== how many bits ===== -/
def popN (n : Nat) : Nat := cnt (fun t => n.testBit t) 13
def bc1 (x : Int32) : Int32 := x - (((x.toUInt32 >>> ((Int32.ofInt 1).toUInt32 &&& Int32.toUInt32 31)).toInt32) &&& (Int32.ofInt 1431655765))
def bc2 (x : Int32) : Int32 := (x &&& (Int32.ofInt 858993459)) + (((x.toUInt32 >>> ((Int32.ofInt 2).toUInt32 &&& Int32.toUInt32 31)).toInt32) &&& (Int32.ofInt 858993459))
def bc3 (x : Int32) : Int32 := (x + ((x.toUInt32 >>> ((Int32.ofInt 4).toUInt32 &&& Int32.toUInt32 31)).toInt32)) &&& (Int32.ofInt 252645135)
def bc4 (x : Int32) : Int32 := x + ((x.toUInt32 >>> ((Int32.ofInt 8).toUInt32 &&& Int32.toUInt32 31)).toInt32)
def bc5 (x : Int32) : Int32 := x + ((x.toUInt32 >>> ((Int32.ofInt 16).toUInt32 &&& Int32.toUInt32 31)).toInt32)
theorem bc_eq (M : Mem) (x : Int32) : f_J6_bitCount_0f7a4 M x = bc5 (bc4 (bc3 (bc2 (bc1 x)))) &&& Int32.ofInt 63 := rfl
def np1 (n : Nat) : Nat := n - (n / 2 &&& 1431655765)
def np2 (n : Nat) : Nat := (n &&& 858993459) + (n / 4 &&& 858993459)
def np3 (n : Nat) : Nat := (n + n / 16) &&& 252645135
def np4 (n : Nat) : Nat := n + n / 256
def np5 (n : Nat) : Nat := n + n / 65536
theorem fa_and (a b : Nat) : nI a &&& nI b = nI (a &&& b) := by
  apply Int32.toBitVec_inj.1
  show BitVec.ofNat 32 a &&& BitVec.ofNat 32 b = BitVec.ofNat 32 (a &&& b)
  apply BitVec.eq_of_getLsbD_eq
  intro i hi
  simp [hi]
theorem bc1_n {n : Nat} (h : n < 2 ^ 31) : bc1 (nI n) = nI (np1 n) := by
  unfold bc1 np1
  rw [pk_ushrN (by omega) _ 1 (by decide), show Int32.ofInt 1431655765 = nI 1431655765 from rfl, fa_and, pk_sub]
  have : n / 2 ^ 1 &&& 1431655765 ≤ n / 2 ^ 1 := Nat.and_le_left
  omega
theorem bc2_n {n : Nat} (h : n < 2 ^ 31) : bc2 (nI n) = nI (np2 n) := by
  unfold bc2 np2
  rw [pk_ushrN (by omega) _ 2 (by decide), show Int32.ofInt 858993459 = nI 858993459 from rfl, fa_and, fa_and, nI_add]
theorem bc3_n {n : Nat} (h : n < 2 ^ 31) : bc3 (nI n) = nI (np3 n) := by
  unfold bc3 np3
  rw [pk_ushrN (by omega) _ 4 (by decide), show Int32.ofInt 252645135 = nI 252645135 from rfl, nI_add, fa_and]
theorem bc4_n {n : Nat} (h : n < 2 ^ 31) : bc4 (nI n) = nI (np4 n) := by
  unfold bc4 np4
  rw [pk_ushrN (by omega) _ 8 (by decide), nI_add]
theorem bc5_n {n : Nat} (h : n < 2 ^ 31) : bc5 (nI n) = nI (np5 n) := by
  unfold bc5 np5
  rw [pk_ushrN (by omega) _ 16 (by decide), nI_add]
def npAll (n : Nat) : Nat := np5 (np4 (np3 (np2 (np1 n)))) &&& 63
def npOk (n : Nat) : Bool := Nat.blt (np1 n) 16384 && (Nat.blt (np2 (np1 n)) 65536 && (Nat.blt (np3 (np2 (np1 n))) 131072 && (Nat.blt (np4 (np3 (np2 (np1 n)))) 262144 && (Nat.beq (npAll n) (popN n) && (Nat.beq n 0 || (Nat.beq (popN (n &&& (n - 1)) + 1) (popN n) && Nat.blt (n &&& (n - 1)) n))))))
set_option maxRecDepth 100000 in
theorem np_all : (List.range 8192).all npOk = true := by decide +kernel
theorem np_ok {n : Nat} (h : n < 8192) : npOk n = true := List.all_eq_true.mp np_all n (List.mem_range.mpr h)
theorem bitc {n : Nat} (h : n < 8192) (M : Mem) : f_J6_bitCount_0f7a4 M (nI n) = nI (popN n) := by
  have h0 := np_ok h
  unfold npOk at h0
  simp only [Bool.and_eq_true, Nat.blt_eq] at h0
  obtain ⟨h1, h2, h3, h4, h5, h6⟩ := h0
  rw [bc_eq, bc1_n (by omega), bc2_n (by omega), bc3_n (by omega), bc4_n (by omega), bc5_n (by omega), show Int32.ofInt 63 = nI 63 from rfl, fa_and, ← Nat.eq_of_beq_eq_true h5]
  rfl
theorem pop_dn {n : Nat} (h : n < 8192) (h0 : n ≠ 0) : popN (n &&& (n - 1)) + 1 = popN n ∧ (n &&& (n - 1)) < n := by
  have h1 := np_ok h
  unfold npOk at h1
  simp only [Bool.and_eq_true, Nat.blt_eq, Bool.or_eq_true] at h1
  obtain ⟨-, -, -, -, -, h6⟩ := h1
  rcases h6 with h6 | h6
  · exact absurd (Nat.eq_of_beq_eq_true h6) h0
  · exact ⟨Nat.eq_of_beq_eq_true h6.1, h6.2⟩
theorem popN_le (n : Nat) : popN n ≤ 13 := by
  have h := cnt_le (p := fun t => n.testBit t) (q := fun _ => true) 13 (fun _ _ _ => rfl)
  rw [cnt_all] at h; exact h
theorem nI_of32 (x : Int32) : ∃ n, n < 2 ^ 32 ∧ x = nI n := ⟨x.toBitVec.toNat, x.toBitVec.isLt, Int32.toBitVec_inj.mp (by show _ = BitVec.ofNat 32 _; simp)⟩
theorem and_lo (c : Nat) (w : Int32) : ∃ c', c' ≤ c ∧ nI c &&& w = nI c' := by
  obtain ⟨n, -, rfl⟩ := nI_of32 w
  exact ⟨c &&& n, Nat.and_le_left, fa_and c n⟩

