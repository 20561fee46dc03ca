/-! ===== the law's house ===== -/
theorem hfm_good {np n : Nat} {pd : Nat → Nat} (hn : np = 4 * n) (hk : ∀ j, j < np → okh pd j = true) : hfm np pd np 0 = Int32.ofInt (-6) := by
  have key : ∀ i, i ≤ np → hfm np pd np 0 = hfm np pd (np - i) i := by
    intro i
    induction i with
    | zero => intro _; rfl
    | succ i ih =>
      intro hi
      rw [ih (by omega), hfm_ok (by omega) (hk i (by omega))]
  rw [key np (Nat.le_refl _)]
  exact hfm_end rfl (by omega)
section LHOUSE
variable {M : Mem} {L : LMem} {s : Stt} {np : Nat} {pd : Nat → Nat} {K : Int32 → Mem → LMem → Prop}
theorem u_fault0 {n : Nat} (hI : INVs M s (4 * n) pd) (hk : ∀ j, j < 4 * n → okh pd j = true) (kk : K (Int32.ofInt (-6)) M L) : P_X9_fault (Int32.ofInt 0) M L K := by
  unfold P_X9_fault
  refine br_t rfl (h_houseFault hI.2.2.2.1 ?_)
  rw [hfm_good rfl hk]
  exact kk
abbrev sHs (s : Stt) (n : Nat) (pd : Nat → Nat) : Stt := sGu (sGu (sGu (hpd n pd, s.2) 2 0) 4 0) 3 (opn (hpd n pd))
theorem u_house {n : Nat} (hI : INVs M s (4 * n) pd) (hk : ∀ j, j < 4 * n → okh pd j = true) (kk : ∀ M1, (∀ p i, 8 < p → M1 p i = M p i) → INVs M1 (sHs s n pd) 0 pd → K (nI n) M1 L) : P_X9_house M L K := by
  obtain ⟨hS, hC, -, hP, h68, -⟩ := id hI
  have p60 := hP.2.2.1
  obtain ⟨hok, h12⟩ := hpd_ok p60 hk
  unfold P_X9_house
  refine h_houseFault hP ?_
  rw [hfm_good rfl hk]
  refine br_t rfl (h_read hP rfl hk (fun M3 hF3 hC3 => ?_))
  have hC4 : HC (mput (g_X5_empty M3) 3 8 (Int32.ofInt 0)) (hpd n pd) := by
    refine ⟨?_, fun t ht => ?_⟩
    · unfold g_X5_empty
      rw [mp_p _ (by decide), mp_p _ (by decide)]; exact hC3.1
    · unfold g_X5_empty
      simp (discharger := decide) only [mp_p]
      exact hC3.2 t ht
  refine h_beginTries hC4 h12 hok ?_
  unfold g_X5_empty at hC4 ⊢
  generalize hM4 : mput (mput (mput (mput M3 1 1 (Int32.ofInt 0)) 3 8 (Int32.ofInt 0)) 3 9 (nI 0)) 3 10 (nI (opn (hpd n pd))) = M4
  have f4 : ∀ p i, 8 < p → M4 p i = M p i := fun p i a => by
    rw [← hM4, mp_p _ (by omega), mp_p _ (by omega), mp_p _ (by omega), mp_p _ (by omega)]
    exact hF3 p i (cHs_o (Or.inr a))
  have g4 : M4 4 4 = nI n := by
    rw [← hM4]
    simp (discharger := decide) only [mp_p]
    exact hC3.1
  rw [g4]
  have s3 : ∀ i, i ≠ 8 → i ≠ 9 → i ≠ 10 → M4 3 i = M 3 i := fun i a b c => by
    rw [← hM4, mp_i _ c, mp_i _ b, mp_i _ a, mp_p _ (by decide)]
    exact hF3 3 i rfl
  have hC4M : HC M4 (hpd n pd) := by
    refine ⟨g4, fun t ht => ?_⟩
    rw [← hM4]
    simp (discharger := decide) only [mp_p]
    exact hC3.2 t ht
  refine kk M4 f4 ⟨SOK_set3 (SOK_set4 (SOK_set2 (s := (hpd n pd, s.2)) ⟨hok, h12, hS.2.2⟩ (by omega)) (by omega)) (opn_lt (h := hpd n pd) h12), (?_ : KpN M4 _), trivial, ⟨?_, trivial, by omega, fun i hi => by omega⟩, (f4 _ _ (by decide)).trans h68, trivial⟩
  · refine ⟨g4, hC4M.2, ?_, ?_, ?_, ?_, ?_, fun r hr => ?_, fun c hc => ?_⟩
    · rw [s3 1 (by decide) (by decide) (by decide)]; exact hC.car
    · rw [s3 2 (by decide) (by decide) (by decide)]; exact hC.sto
    · rw [← hM4, mp_i _ (by decide), mp_i _ (by decide), mp_s]; rfl
    · rw [← hM4, mp_s]; rfl
    · rw [← hM4, mp_i _ (by decide), mp_s]; rfl
    · rw [f4 9 r (by decide)]; exact hC.kno r hr
    · exact absurd (show c < 0 from hc) (Nat.not_lt_zero c)
  · rw [← hM4, mp_p _ (by decide), mp_p _ (by decide), mp_p _ (by decide), mp_s]; rfl
end LHOUSE
/-! the law's row t, a house's numbers -/
def sgn (c : Nat) : Nat := if c = 0 then 45 else if c = 1 then 62 else if c = 2 then 126 else if c = 3 then 61 else 120
/-- the row's four numbers of tube j, and the text of it -/
def TB (M : Mem) (pd : Nat → Nat) (j a b c l : Nat) : Prop := (a < 8 ∧ b < 8 ∧ a ≠ b ∧ c < 5 ∧ 1 ≤ l ∧ l ≤ 9) ∧ (M 74 (4 * j) = nI a ∧ M 74 (4 * j + 1) = nI b ∧ M 74 (4 * j + 2) = nI c ∧ M 74 (4 * j + 3) = nI l) ∧ pd (4 * j) = 65 + a ∧ pd (4 * j + 1) = sgn c ∧ pd (4 * j + 2) = 65 + b ∧ pd (4 * j + 3) = 48 + l
theorem TB_okh {M : Mem} {pd : Nat → Nat} {n : Nat} (hn : n ≤ 12) (h : ∀ j, j < n → ∃ a b c l, TB M pd j a b c l) : ∀ i, i < 4 * n → okh pd i = true := by
  intro i hi
  obtain ⟨a, b, c, l, ⟨h1, h2, h3, h4, h5, h6⟩, -, g1, g2, g3, g4⟩ := h (i / 4) (by omega)
  unfold okh
  rcases (by omega : i % 4 = 0 ∨ i % 4 = 1 ∨ i % 4 = 2 ∨ i % 4 = 3) with e | e | e | e
  · rw [if_pos e]
    rw [show 4 * (i / 4) = i by omega] at g1
    rw [g1, Bool.and_eq_true]
    refine ⟨Nat.blt_eq.mpr (by omega), ?_⟩
    unfold ltr
    rw [Bool.and_eq_true]
    exact ⟨Nat.ble_eq.mpr (by omega), Nat.ble_eq.mpr (by omega)⟩
  · rw [if_neg (by omega), if_pos e]
    rw [show 4 * (i / 4) + 1 = i by omega] at g2
    rw [g2]
    have : ∀ c, c < 5 → knd (sgn c) = true := by decide
    exact this c h4
  · rw [if_neg (by omega), if_neg (by omega), if_pos e]
    rw [show 4 * (i / 4) = i - 2 by omega] at g1
    rw [show 4 * (i / 4) + 2 = i by omega] at g3
    rw [g3, g1, Bool.and_eq_true]
    refine ⟨?_, ?_⟩
    · unfold ltr
      rw [Bool.and_eq_true]
      exact ⟨Nat.ble_eq.mpr (by omega), Nat.ble_eq.mpr (by omega)⟩
    · rw [nbf (by omega)]; rfl
  · rw [if_neg (by omega), if_neg (by omega), if_neg (by omega)]
    rw [show 4 * (i / 4) + 3 = i by omega] at g4
    rw [g4]
    unfold dgt
    rw [Bool.and_eq_true]
    exact ⟨Nat.ble_eq.mpr (by omega), Nat.ble_eq.mpr (by omega)⟩
theorem sign_eq (M : Mem) {c : Nat} (h : c < 5) : f_L_sign M (nI c) = nI (sgn c) := by
  unfold f_L_sign
  match c, h with
  | 0, _ => rfl
  | 1, _ => rfl
  | 2, _ => rfl
  | 3, _ => rfl
  | 4, _ => rfl
theorem sgn_in {c : Nat} (h : c < 5) : 33 ≤ sgn c ∧ sgn c ≤ 126 := by
  have : ∀ c, c < 5 → 33 ≤ sgn c ∧ sgn c ≤ 126 := by decide
  exact this c h
section LHOUSE2
variable {sc : SCT} {L : LMem} {s : Stt} {K : Int32 → Mem → LMem → Prop}
theorem e4 (k i : Nat) : Int32.ofInt 4 * nI k + nI i = nI (4 * k + i) := by
  rw [show Int32.ofInt 4 = nI 4 from rfl, pk_mul, nI_add]
theorem e4z (k : Nat) : Int32.ofInt 4 * nI k = nI (4 * k) := by
  rw [show Int32.ofInt 4 = nI 4 from rfl, pk_mul]
theorem v48 {k i : Nat} (hk : k < 12) (hi : i < 4) : vp_in (nI (4 * k + i)) 48 := pk_in (4 * k + i) 48 (by omega)
/-- what stands of the memory that no row of the house's telling touches -/
def cHl : Nat → Nat → Bool := fun p _ => Nat.beq p 1 || (Nat.beq p 2 || Nat.beq p 74)
theorem TB.keep {M M1 : Mem} {pd pd1 : Nat → Nat} {j a b c l : Nat} (h : TB M pd j a b c l) (h1 : ∀ i, i < 4 * j + 4 → M1 74 i = M 74 i) (h2 : ∀ i, i < 4 * j + 4 → pd1 i = pd i) : TB M1 pd1 j a b c l := by
  obtain ⟨q, ⟨m1, m2, m3, m4⟩, p1, p2, p3, p4⟩ := h
  exact ⟨q, ⟨(h1 _ (by omega)).trans m1, (h1 _ (by omega)).trans m2, (h1 _ (by omega)).trans m3, (h1 _ (by omega)).trans m4⟩, (h2 _ (by omega)).trans p1, (h2 _ (by omega)).trans p2, (h2 _ (by omega)).trans p3, (h2 _ (by omega)).trans p4⟩
/-- between the tubes: k of them told -/
def HL (M0 : Mem) (s : Stt) (k : Nat) (M : Mem) (pd : Nat → Nat) : Prop := INVs M s (4 * k) pd ∧ Fr cHl M0 M ∧ (∀ j, j < k → ∃ a b c l, TB M pd j a b c l) ∧ (k = 0 → M 74 0 = nI 0)
theorem INVs.t74 {M : Mem} {s : Stt} {np i : Nat} {pd : Nat → Nat} {v : Int32} (h : INVs M s np pd) : INVs (mput M 74 i v) s np pd :=
  ⟨h.1, h.2.1.eq (fun p i a b => mp_p _ (by omega)), trivial, h.2.2.2.1.eq' (mp_p _ (by decide)) (fun _ => mp_p _ (by decide)), (mp_p _ (by decide)).trans h.2.2.2.2.1, trivial⟩
theorem hl_h166 {f : Nat} {M0 M : Mem} {pd : Nat → Nat} {k n a b c l : Nat} {v2 v3 : Int32} (hk : k < 12) (hI : INVs M s (4 * k) pd) (hF : Fr cHl M0 M) (hT : ∀ j, j < k → ∃ a b c l, TB M pd j a b c l) (hr : a < 8 ∧ b < 8 ∧ a ≠ b ∧ c < 5 ∧ 1 ≤ l ∧ l ≤ 9) (hm : M 74 (4 * k) = nI a ∧ M 74 (4 * k + 1) = nI b ∧ M 74 (4 * k + 2) = nI c ∧ M 74 (4 * k + 3) = nI l)
    {C : Int32 → Int32 → Int32 → Int32 → Int32 → Mem → LMem → Prop} (kk : ∀ M1 pd1, HL M0 s (k + 1) M1 pd1 → C v2 v3 (Int32.ofInt 1) (nI n) (nI (k + 1)) M1 L) : PL_L_house_166 sc K C (f + 1) v2 v3 (Int32.ofInt 1) (nI n) (nI k) (nI a) M L := by
  obtain ⟨h1, h2, h3, h4, h5, h6⟩ := hr
  obtain ⟨m1, m2, m3, m4⟩ := hm
  have k1 := sgn_in h4
  unfold PL_L_house_166
  dsimp only
  rw [show Int32.ofInt 65 = nI 65 from rfl, show Int32.ofInt 48 = nI 48 from rfl, show Int32.ofInt 1 = nI 1 from rfl, show Int32.ofInt 2 = nI 2 from rfl, show Int32.ofInt 3 = nI 3 from rfl, show Int32.ofInt 4 = nI 4 from rfl, pk_mul]
  simp only [nI_add]
  refine u_say hI (k := 65 + a) (by omega) (by omega) (by omega) (fun M1 hF1 hI1 => br_t rfl ⟨v48 hk (by decide), ?_⟩)
  have f1 : ∀ i, M1 74 i = M 74 i := fun i => hF1 74 i rfl
  rw [nI_clamp (by omega), f1, m3, sign_eq M1 h4]
  refine u_say hI1 (k := sgn c) k1.1 k1.2 (by omega) (fun M2 hF2 hI2 => br_t rfl ⟨v48 hk (by decide), ?_⟩)
  have f2 : ∀ i, M2 74 i = M 74 i := fun i => (hF2 74 i rfl).trans (f1 i)
  rw [nI_clamp (by omega), f2, m2, nI_add]
  refine u_say hI2 (k := 65 + b) (by omega) (by omega) (by omega) (fun M3 hF3 hI3 => br_t rfl ⟨v48 hk (by decide), ?_⟩)
  have f3 : ∀ i, M3 74 i = M 74 i := fun i => (hF3 74 i rfl).trans (f2 i)
  rw [nI_clamp (by omega), f3, m4, nI_add]
  refine u_say hI3 (k := 48 + l) (by omega) (by omega) (by omega) (fun M4 hF4 hI4 => br_t rfl ?_)
  have f4 : ∀ i, M4 74 i = M 74 i := fun i => (hF4 74 i rfl).trans (f3 i)
  have hm : ∀ p i, cHl p i = false → (Nat.beq p 1 || Nat.beq p 2) = false := fun p i h => by
    unfold cHl at h
    cases e1 : Nat.beq p 1 <;> cases e2 : Nat.beq p 2 <;> simp_all
  refine kk M4 _ ⟨hI4, ((((hF.tr (hF1.mono hm)).tr (hF2.mono hm)).tr (hF3.mono hm)).tr (hF4.mono hm)), fun j hj => ?_, fun e => by omega⟩
  by_cases e : j = k
  · subst e
    refine ⟨a, b, c, l, ⟨h1, h2, h3, h4, h5, h6⟩, ⟨(f4 _).trans m1, (f4 _).trans m2, (f4 _).trans m3, (f4 _).trans m4⟩, ?_, ?_, ?_, ?_⟩
    · rw [fup_n (by omega), fup_n (by omega), fup_n (by omega), fup_s]
    · rw [fup_n (by omega), fup_n (by omega), fup_s]
    · rw [fup_n (by omega), fup_s]
    · rw [fup_s]
  · obtain ⟨a', b', c', l', h⟩ := hT j (by omega)
    exact ⟨a', b', c', l', h.keep (fun i _ => f4 i) (fun i hi => by rw [fup_n (by omega), fup_n (by omega), fup_n (by omega), fup_n (by omega)])⟩
theorem hl_h26 {M0 : Mem} {R n : Nat} (hR : 3 ≤ R ∧ R ≤ 8) (hn : n ≤ 12) (kk : ∀ M1 pd, (∀ p i, 8 < p → p ≠ 74 → M1 p i = M0 p i) → INVs M1 (sHs s n pd) 0 pd → (∀ j, j < n → ∃ a b c l, TB M1 pd j a b c l) → (n = 0 → M1 74 0 = nI 0) → K (nI n) M1 L) :
    ∀ (f k : Nat) (M : Mem) (pd : Nat → Nat), k ≤ n → n < f + k → HL M0 s k M pd → PL_L_house_26 sc K f (nI 10) (nI R) (Int32.ofInt 1) (nI n) (nI k) M L := by
  intro f
  induction f with
  | zero => intro k M pd h1 h2; omega
  | succ f ih =>
    intro k M pd h1 h2 hH
    obtain ⟨hI, hF, hT, h0⟩ := hH
    unfold PL_L_house_26
    refine pk_le n k (fun c => ?_) (fun c => ?_)
    · have e : k = n := by omega
      subst e
      have ok := TB_okh hn hT
      refine br_f one_ne (u_fault0 hI ok (br_t rfl (u_house hI ok (fun M1 hF1 hI1 => br_t rfl (kk M1 pd (fun p i a b => ?_) hI1 (fun j hj => ?_) (fun e => ?_))))))
      · rw [hF1 p i a]
        exact hF p i (by unfold cHl; rw [nbf (by omega), nbf (by omega), nbf b]; rfl)
      · obtain ⟨a, b, c, l, h⟩ := hT j hj
        exact ⟨a, b, c, l, h.keep (fun i _ => hF1 74 i (by decide)) (fun _ _ => rfl)⟩
      · rw [hF1 74 0 (by decide)]; exact h0 e
    · have hk12 : k < 12 := by omega
      have a1 : ∀ i, i < 5 → (nI 10 + Int32.ofInt 4 * nI k) + nI i = nI (10 + 4 * k + i) := fun i _ => by rw [e4z, nI_add, nI_add]
      rw [show Int32.ofInt 1 = nI 1 from rfl, show Int32.ofInt 2 = nI 2 from rfl, a1 1 (by decide), a1 2 (by decide), e4z, nI_add]
      obtain ⟨a, ha, ea⟩ := cell_in sc (k := 10 + 4 * k + 1) (n := R) (by omega) (by omega) (by omega)
      obtain ⟨b0, hb0, eb⟩ := cell_in sc (k := 10 + 4 * k + 2) (n := R) (by omega) (by omega) (by omega)
      rw [ea, eb]
      refine ⟨cell_ok (by omega) (by omega) (by omega), cell_ok (by omega) (by omega) (by omega), v48 (i := 0) hk12 (by decide), ?_⟩
      rw [nI_clamp (by omega), nI_clamp (by omega)]
      -- from the place behind both rooms
      have md : ∀ q b, b < 8 → a ≠ b → PL_L_house_99 sc K (PL_L_house_26 sc K f) (q + 1) (nI 10) (nI R) (nI 1) (nI n) (nI k) (nI a) (mput (mput M 74 (4 * k) (nI a)) 74 (4 * k + 1) (nI b)) L := by
        intro q b hb hab
        unfold PL_L_house_99
        dsimp only
        rw [show Int32.ofInt 3 = nI 3 from rfl, show Int32.ofInt 2 = nI 2 from rfl, show Int32.ofInt 5 = nI 5 from rfl]
        rw [show (nI 10 + Int32.ofInt 4 * nI k) + Int32.ofInt 4 = nI (10 + 4 * k + 4) from a1 4 (by decide), a1 3 (by decide), e4]
        refine ⟨cell_ok (by omega) (by decide) (by decide), ?_⟩
        have fin : ∀ q c, c < 5 → PL_L_house_141 sc K (PL_L_house_26 sc K f) (q + 1) (nI 10) (nI R) (nI 1) (nI n) (nI k) (nI a) (mput (mput (mput M 74 (4 * k) (nI a)) 74 (4 * k + 1) (nI b)) 74 ((nI (4 * k + 2)).toNatClampNeg) (nI c)) L := by
          intro q c hc
          unfold PL_L_house_141
          dsimp only
          rw [show Int32.ofInt 3 = nI 3 from rfl, show Int32.ofInt 9 = nI 9 from rfl]
          rw [show (nI 10 + Int32.ofInt 4 * nI k) + Int32.ofInt 4 = nI (10 + 4 * k + 4) from a1 4 (by decide), e4]
          obtain ⟨l, hl, el⟩ := cell_in sc (k := 10 + 4 * k + 4) (n := 9) (by omega) (by decide) (by decide)
          rw [el, show Int32.ofInt 1 = nI 1 from rfl, nI_add, nI_clamp (by omega), nI_clamp (by omega)]
          refine ⟨cell_ok (by omega) (by decide) (by decide), v48 hk12 (by decide), ?_⟩
          refine hl_h166 (f := 99999) (b := b) (c := c) (l := 1 + l) (M0 := M0) (pd := pd) hk12 (((hI.t74).t74).t74).t74 ((((hF.put rfl).put rfl).put rfl).put rfl) (fun j hj => ?_) ⟨by omega, hb, hab, hc, by omega, by omega⟩ ⟨?_, ?_, ?_, ?_⟩ (fun M1 pd1 hH1 => ih (k + 1) M1 pd1 (by omega) (by omega) hH1)
          · obtain ⟨a', b', c', l', h⟩ := hT j hj
            exact ⟨a', b', c', l', h.keep (fun i hi => by rw [mp_i _ (by omega), mp_i _ (by omega), mp_i _ (by omega), mp_i _ (by omega)]) (fun _ _ => rfl)⟩
          · rw [mp_i _ (by omega), mp_i _ (by omega), mp_i _ (by omega), mp_s]
          · rw [mp_i _ (by omega), mp_i _ (by omega), mp_s]
          · rw [mp_i _ (by omega), mp_s]
          · rw [mp_s]
        refine br_c (fun _ => ⟨v48 hk12 (by decide), fin 99999 0 (by decide)⟩) (fun _ => ⟨cell_ok (by omega) (by decide) (by decide), v48 hk12 (by decide), ?_⟩)
        obtain ⟨c, hc, ec⟩ := cell_in sc (k := 10 + 4 * k + 4) (n := 5) (by omega) (by decide) (by decide)
        rw [ec]
        exact fin 99999 c hc
      refine pk_eq a b0 (fun e => ⟨nI_ne0 (by omega) (by omega), v48 (i := 1) hk12 (by decide), ?_⟩) (fun e => ⟨v48 (i := 1) hk12 (by decide), md 99999 b0 (by omega) e⟩)
      rw [nI_add, pk_rem (by omega) (by omega) (by omega)]
      refine md 99999 _ (by have := Nat.mod_lt (b0 + 1) (show 0 < R by omega); omega) (fun h => ?_)
      rw [e] at h
      by_cases c2 : b0 + 1 < R
      · rw [Nat.mod_eq_of_lt c2] at h; omega
      · have e2 : b0 + 1 = R := by omega
        rw [e2, Nat.mod_self] at h
        omega
theorem h_lhouse {M0 : Mem} {R : Nat} {pd0 : Nat → Nat} (hR : 3 ≤ R ∧ R ≤ 8) (hI : INVs M0 s 0 pd0) (h0 : M0 74 0 = nI 0) (kk : ∀ n M1 pd, n ≤ 12 → (∀ p i, 8 < p → p ≠ 74 → M1 p i = M0 p i) → INVs M1 (sHs s n pd) 0 pd → (∀ j, j < n → ∃ a b c l, TB M1 pd j a b c l) → (n = 0 → M1 74 0 = nI 0) → K (nI n) M1 L) : P_L_house sc (nI 10) (nI R) M0 L K := by
  unfold P_L_house
  refine u_wipe hI (fun M1 hF1 hI1 => br_f (nI_pos (by decide)) ⟨cell_ok (by decide) (by decide) (by decide), ?_⟩)
  obtain ⟨n, hn, en⟩ := cell_in sc (k := 10) (n := 13) (by decide) (by decide) (by decide)
  rw [show Int32.ofInt 13 = nI 13 from rfl, en]
  refine hl_h26 (M0 := M0) (s := s) hR (by omega) (fun M1 pd a b c d => kk n M1 pd (by omega) a b c d) 100000 0 M1 pd0 (by omega) (by omega) ⟨hI1, hF1.mono (fun p i h => ?_), fun j hj => by omega, fun _ => (hF1 74 0 rfl).trans h0⟩
  unfold cHl at h
  cases e1 : Nat.beq p 1
  · rfl
  · rw [e1] at h; cases h
end LHOUSE2
