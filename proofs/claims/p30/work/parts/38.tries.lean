/-! ===== tries: masks of ways ===== -/
noncomputable def wbn (h : Hse) (bar : Int32) (D : Nat → Nat) (x : Nat) : Nat → Nat
  | 0 => 0
  | i + 1 => wbn h bar D x i ||| 2 ^ (tb h bar D x i)
theorem wb_n {h : Hse} {bar : Int32} {D : Nat → Nat} {x : Nat} : ∀ m : Nat, (∀ i, i < m → tb h bar D x i < 31) → wb h bar D x m = nI (wbn h bar D x m) := by
  intro m
  induction m with
  | zero => intro _; rfl
  | succ m ih =>
    intro hm
    rw [wb, wbn, ih (fun i hi => hm i (by omega)), sh1 (hm m (by omega)), fa_or]
theorem wbn_lt {h : Hse} {bar : Int32} {D : Nat → Nat} {x n : Nat} : ∀ m : Nat, (∀ i, i < m → tb h bar D x i < n) → wbn h bar D x m < 2 ^ n := by
  intro m
  induction m with
  | zero => intro _; exact Nat.two_pow_pos n
  | succ m ih =>
    intro hm
    rw [wbn]
    exact Nat.or_lt_two_pow (ih (fun i hi => hm i (by omega))) (Nat.pow_lt_pow_right (by decide) (hm m (by omega)))
/-- the tubes of a way; 0 where there is none -/
noncomputable def wm (s : Stt) (x y : Nat) : Nat := if lab (sH s) (Int32.ofInt 0) y x / 16 ≤ sG s 0 then wbn (sH s) (Int32.ofInt 0) (lab (sH s) (Int32.ofInt 0) y) x (lab (sH s) (Int32.ofInt 0) y x % 16) else 0
theorem fin_of {s : Stt} (hS : SOK s) {bar : Int32} {x y : Nat} (c : lab (sH s) bar y x / 16 ≤ sG s 0) : lab (sH s) bar y x < 1048576 := by
  have := hS.2.2.1.2
  omega
theorem wm_lt {s : Stt} (hS : SOK s) {x y : Nat} (hx : x < 8) (hy : y < 8) : wm s x y < 4096 := by
  unfold wm
  split
  · next c =>
    have hW := s_wok hS hx hy (fin_of hS c)
    have h12 := hS.2.1
    exact wbn_lt (n := 12) _ (fun i hi => by have := hW.2.1 i hi; omega)
  · decide
theorem wm_wb {s : Stt} (hS : SOK s) {x y : Nat} (hx : x < 8) (hy : y < 8) (c : lab (sH s) (Int32.ofInt 0) y x / 16 ≤ sG s 0) : wb (sH s) (Int32.ofInt 0) (lab (sH s) (Int32.ofInt 0) y) x (lab (sH s) (Int32.ofInt 0) y x % 16) = nI (wm s x y) := by
  have hW := s_wok hS hx hy (fin_of hS c)
  have h12 := hS.2.1
  unfold wm
  rw [if_pos c]
  exact wb_n _ (fun i hi => by have := hW.2.1 i hi; omega)
theorem wm_x {s : Stt} (hS : SOK s) (x : Nat) : wm s x x = 0 := by
  have e := (lab_is hS.1 (Int32.ofInt 0) x).1
  unfold wm
  rw [e]
  rfl
/-- what of a set a try leaves if it is not heard -/
def sdf (S w : Nat) : Nat := S &&& (w ^^^ 4294967295)
theorem sdf_i (S w : Nat) : nI S &&& (nI w ^^^ Int32.ofInt (-1)) = nI (sdf S w) := by rw [m1_n, fa_xor, fa_and]; rfl
theorem bit_hi {S n i : Nat} (h : S < 2 ^ n) (hi : n ≤ i) : S.testBit i = false := Nat.testBit_lt_two_pow (Nat.lt_of_lt_of_le h (Nat.pow_le_pow_right (by decide) hi))
theorem sdf_bit {S : Nat} (hS : S < 8192) (w i : Nat) : (sdf S w).testBit i = (S.testBit i && !(w.testBit i)) := by
  unfold sdf
  rw [Nat.testBit_and, Nat.testBit_xor, show (4294967295 : Nat) = 2 ^ 32 - 1 from rfl, Nat.testBit_two_pow_sub_one]
  by_cases c : i < 32
  · rw [decide_eq_true c, Bool.xor_true]
  · rw [bit_hi (n := 13) hS (by omega), Bool.false_and, Bool.false_and]
theorem sdf_le (S w : Nat) : sdf S w ≤ S := Nat.and_le_left
theorem cnt_split (p q : Nat → Bool) : ∀ n : Nat, cnt (fun i => p i && q i) n + cnt (fun i => p i && !(q i)) n = cnt p n := by
  intro n
  induction n with
  | zero => rfl
  | succ n ih =>
    rw [cnt, cnt, cnt]
    cases p n <;> cases q n <;> simp <;> omega
theorem cnt_eq {p q : Nat → Bool} : ∀ n : Nat, (∀ i, i < n → p i = q i) → cnt p n = cnt q n := by
  intro n h
  refine Nat.le_antisymm (cnt_le n (fun i hi e => by rw [← h i hi]; exact e)) (cnt_le n (fun i hi e => by rw [h i hi]; exact e))
theorem pop_split {S : Nat} (hS : S < 8192) (w : Nat) : popN (S &&& w) + popN (sdf S w) = popN S := by
  have h := cnt_split (fun i => S.testBit i) (fun i => w.testBit i) 13
  unfold popN
  rw [← h]
  congr 1
  · exact cnt_eq 13 (fun i _ => Nat.testBit_and _ _ _)
  · exact cnt_eq 13 (fun i _ => sdf_bit hS w i)
def lpN (c w : Nat) : Nat := if popN (c &&& w) < popN (sdf c w) then popN (sdf c w) else popN (c &&& w)
theorem lpN_le {c w : Nat} (hc : c < 8192) : lpN c w ≤ popN c ∧ popN (c &&& w) ≤ lpN c w ∧ popN (sdf c w) ≤ lpN c w ∧ popN c ≤ 2 * lpN c w := by
  have h := pop_split hc w
  unfold lpN
  split <;> omega
theorem larger_n {c w : Nat} (hc : c < 8192) (M : Mem) : f_X8_largerPart M (nI c) (nI w) = nI (lpN c w) := by
  have h1 : c &&& w ≤ c := Nat.and_le_left
  have h2 := sdf_le c w
  have p1 := popN_le (c &&& w)
  have p2 := popN_le (sdf c w)
  unfold f_X8_largerPart lpN
  rw [sdf_i, fa_and, bitc (by omega), bitc (by omega)]
  by_cases e : popN (c &&& w) < popN (sdf c w)
  · rw [if_pos e, if_pos (nI_lt e (by omega))]
  · rw [if_neg e, if_neg (nI_nlt (by omega) (by omega))]
/-! the class gathers -/
def cGa : Nat → Nat → Bool := fun p _ => Nat.beq p 66 || (Nat.beq p 38 || (Nat.beq p 37 || (Nat.beq p 39 || Nat.beq p 40)))
theorem cAim_Ga {M M1 : Mem} (h : Fr cAim M M1) : Fr cGa M M1 := h.mono (fun p _ hq => by
  unfold cGa at hq; unfold cAim; revert hq; cases Nat.beq p 66 <;> cases Nat.beq p 38 <;> simp)
theorem cWlk_Ga {M M1 : Mem} (h : Fr cWlk M M1) : Fr cGa M M1 := h.mono (fun p _ hq => by
  unfold cGa at hq; unfold cWlk; revert hq; cases Nat.beq p 66 <;> cases Nat.beq p 38 <;> simp)
theorem HC.ga {M M1 : Mem} {h : Hse} (hC : HC M h) (hF : Fr cGa M M1) : HC M1 h := hC.fr hF rfl (fun _ => rfl) (fun _ => rfl) (fun _ => rfl) (fun _ => rfl)
theorem cGa_scr {M M1 : Mem} (h : Fr cGa M M1) : Fr cScr M M1 := h.mono (fun p i hq => by
  have : ¬ (p = 66 ∨ p = 37 ∨ p = 38 ∨ p = 39 ∨ p = 40) := fun e => by
    rcases e with rfl | rfl | rfl | rfl | rfl <;> exact nomatch (show true = false from hq)
  unfold cGa
  rw [nbf (by omega : p ≠ 66), nbf (by omega : p ≠ 38), nbf (by omega : p ≠ 37), nbf (by omega : p ≠ 39), nbf (by omega : p ≠ 40)]; rfl)
section GAT
variable {M0 : Mem} {s : Stt} {L : LMem} {K : Mem → LMem → Prop}
theorem hl_gather_21 (hS : SOK s) (hC : HC M0 (sH s)) (hcar : M0 3 1 = nI (sG s 0)) {to : Nat} (hto : to < 8) {C : Int32 → Mem → LMem → Prop} (kk : ∀ M, Fr cGa M0 M → (∀ x y, x < 8 → y < 8 → y < to + 1 → M 66 (8 * x + y) = nI (wm s x y)) → C (nI (to + 1)) M L) :
    ∀ (f x : Nat) (M : Mem), x ≤ 8 → 8 < f + x → Fr cGa M0 M → lbl M 38 (lab (sH s) (Int32.ofInt 0) to) → (∀ u y, u < 8 → y < 8 → y < to ∨ (y = to ∧ u < x) → M 66 (8 * u + y) = nI (wm s u y)) → PL_X8_gather_21 K C f (nI to) (nI x) M L := by
  intro f
  induction f with
  | zero => intro x M h1 h2; omega
  | succ f ih =>
    intro x M h1 h2 hF hl hA
    unfold PL_X8_gather_21
    rw [nI_s, nI_s]
    refine pk_le 8 x (fun c => ?_) (fun c => ?_)
    · exact kk M hF (fun u y hu hy h => hA u y hu hy (by omega))
    · have hC1 := hC.ga hF
      have hcar1 : M 3 1 = nI (sG s 0) := (hF 3 1 rfl).trans hcar
      have e8' : (Int32.ofInt 8 * nI x + nI to) = nI (8 * x + to) := e8 x to
      have en : (nI (8 * x + to)).toNatClampNeg = 8 * x + to := nI_clamp (by omega)
      have hin : vp_in (nI (8 * x + to)) 64 := pk_in (8 * x + to) 64 (by omega)
      have fin : ∀ (M2 : Mem) (w : Int32), Fr cWlk M M2 → w = nI (wm s x to) → PL_X8_gather_21 K C f (nI to) (nI (x + 1)) (mput M2 66 (8 * x + to) w) L := by
        intro M2 w hF2 hw
        refine ih (x + 1) _ (by omega) (by omega) ((hF.tr (cWlk_Ga hF2)).put rfl) (fun u hu => ?_) (fun u y hu hy h => ?_)
        · rw [mp_p _ (by decide), hF2 38 u rfl]; exact hl u hu
        · by_cases e : 8 * u + y = 8 * x + to
          · rw [e, mp_s, hw]
            rw [show u = x by omega, show y = to by omega]
          · rw [mp_i _ e, hF2 66 _ rfl]
            exact hA u y hu hy (by omega)
      rw [e8', en]
      refine h_walk hS.1 hS.2.1 hC1 hto (lab_is hS.1 (Int32.ofInt 0) to) hl c hcar1 hS.2.2.1.2 (fun c1 M2 hF2 hR => br_1 rfl ⟨hin, fin M2 _ hF2 ?_⟩) (fun c1 M2 hF2 => br_0 rfl ⟨hin, fin M2 _ hF2 ?_⟩)
      · rw [hR.2.2.1, wm_wb hS c hto c1]
      · unfold wm
        rw [if_neg (by omega)]; rfl
theorem hl_gather_2 (hS : SOK s) (hC : HC M0 (sH s)) (hcar : M0 3 1 = nI (sG s 0)) (kk : ∀ M, Fr cGa M0 M → mtx M 66 (wm s) → K M L) :
    ∀ (f to : Nat) (M : Mem), to ≤ 8 → 8 < f + to → Fr cGa M0 M → (∀ x y, x < 8 → y < 8 → y < to → M 66 (8 * x + y) = nI (wm s x y)) → PL_X8_gather_2 K f (nI to) M L := by
  intro f
  induction f with
  | zero => intro to M h1 h2; omega
  | succ f ih =>
    intro to M h1 h2 hF hA
    unfold PL_X8_gather_2
    refine pk_le 8 to (fun c => ?_) (fun c => ?_)
    · exact kk M hF (fun x y hx hy => hA x y hx hy (by omega))
    · refine h_aim hS.1 hS.2.1 (hC.ga hF) c (lab_is hS.1 (Int32.ofInt 0) to) (fun M2 hF2 hl => ?_)
      have hF3 := hF.tr (cAim_Ga hF2)
      refine hl_gather_21 (M0 := M2) hS (hC.ga hF3) ((hF3 3 1 rfl).trans hcar) c (fun M3 hF4 hA3 => ih (to + 1) M3 (by omega) (by omega) (hF3.tr hF4) hA3) 100000 0 M2 (by omega) (by omega) (Fr.rf _ _) hl (fun u y hu hy h => ?_)
      rw [hF2 66 _ rfl]
      exact hA u y hu hy (by omega)
theorem h_gather (hS : SOK s) (hC : HC M0 (sH s)) (hcar : M0 3 1 = nI (sG s 0)) (kk : ∀ M, Fr cGa M0 M → mtx M 66 (wm s) → K M L) : P_X8_gather M0 L K := by
  unfold P_X8_gather
  exact hl_gather_2 hS hC hcar kk 100000 0 M0 (by omega) (by omega) (Fr.rf _ _) (fun x y _ _ h => by omega)
end GAT
/-! the model finds tries -/
def vld (s : Stt) (k : Nat) : Prop := k % 10 < 8 ∧ k / 10 ≠ k % 10 ∧ lab (sH s) (Int32.ofInt 0) (k % 10) (k / 10) / 16 ≤ sG s 0
section FTR
variable {M0 : Mem} {s : Stt} {L : LMem} {np : Nat} {pd : Nat → Nat}
end FTR
/-! the next try -/
noncomputable def nts (s : Stt) (c k : Nat) (st : Int32 × Nat) : Int32 × Nat := if bdec (vld s k ∧ lpN c (wm s (k / 10) (k % 10)) < st.2) = true then (nI k, lpN c (wm s (k / 10) (k % 10))) else st
noncomputable def ntf (s : Stt) (c : Nat) : Nat → Int32 × Nat
  | 0 => (Int32.ofInt (-6), popN c)
  | k + 1 => nts s c k (ntf s c k)
theorem ntf_le {s : Stt} {c : Nat} (hc : c < 8192) : ∀ k : Nat, (ntf s c k).2 ≤ popN c := by
  intro k
  induction k with
  | zero => exact Nat.le_refl _
  | succ k ih =>
    show (nts s c k (ntf s c k)).2 ≤ popN c
    unfold nts
    split
    · exact (lpN_le hc).1
    · exact ih
theorem nts_no {s : Stt} {c k : Nat} {st : Int32 × Nat} (h : ¬ (vld s k ∧ lpN c (wm s (k / 10) (k % 10)) < st.2)) : nts s c k st = st := by
  unfold nts
  rw [bdec_f h, if_neg Bool.false_ne_true]
theorem nts_yes {s : Stt} {c k : Nat} {st : Int32 × Nat} (h : vld s k ∧ lpN c (wm s (k / 10) (k % 10)) < st.2) : nts s c k st = (nI k, lpN c (wm s (k / 10) (k % 10))) := by
  unfold nts
  rw [bdec_t h, if_pos rfl]
section NTR
variable {M : Mem} {s : Stt} {L : LMem} {K : Int32 → Mem → LMem → Prop} {c : Nat}
theorem lp_0 {c : Nat} (hc : c < 8192) : lpN c 0 = popN c := by
  have h := pop_split hc 0
  have h0 : c &&& 0 = 0 := Nat.and_zero c
  rw [h0] at h
  have p0 : popN 0 = 0 := rfl
  unfold lpN
  rw [h0]
  split <;> omega
theorem hl_nextTry_21 (hS : SOK s) (hc : c < 8192) (hm : mtx M 66 (wm s)) {x : Nat} (hx : x < 8) {C : Int32 → Int32 → Int32 → Int32 → Mem → LMem → Prop} (kk : C (nI c) (nI (ntf s c (10 * (x + 1))).2) (ntf s c (10 * (x + 1))).1 (nI (x + 1)) M L) :
    ∀ (f y : Nat), y ≤ 8 → 8 < f + y → PL_X8_nextTry_21 K C f (nI c) (nI (ntf s c (10 * x + y)).2) (ntf s c (10 * x + y)).1 (nI x) (nI y) M L := by
  intro f
  induction f with
  | zero => intro y h1 h2; omega
  | succ f ih =>
    intro y h1 h2
    unfold PL_X8_nextTry_21
    rw [nI_s, nI_s]
    refine pk_le 8 y (fun c1 => ?_) (fun c1 => ?_)
    · have e : ntf s c (10 * (x + 1)) = ntf s c (10 * x + y) := by
        rw [show 10 * (x + 1) = 10 * x + 8 + 1 + 1 by omega, ntf, ntf, nts_no (fun e => by have := e.1.1; omega), nts_no (fun e => by have := e.1.1; omega), show y = 8 by omega]
      rw [← e]; exact kk
    · have b := (lpN_le (w := wm s x y) hc).1
      have b2 := ntf_le (s := s) hc (10 * x + y)
      have p13 := popN_le c
      have ih2 := ih (y + 1) (by omega) (by omega)
      have e10 : Int32.ofInt 10 * nI x + nI y = nI (10 * x + y) := by rw [o10, pk_mul, nI_add]
      have en : ntf s c (10 * x + (y + 1)) = nts s c (10 * x + y) (ntf s c (10 * x + y)) := rfl
      have d1 : (10 * x + y) / 10 = x := by omega
      have d2 : (10 * x + y) % 10 = y := by omega
      rw [e8, nI_clamp (by omega : 8 * x + y < 2 ^ 31), hm x y hx c1, larger_n hc, e10]
      refine ⟨pk_in (8 * x + y) 64 (by omega), pk_le _ _ (fun c2 => ?_) (fun c2 => ?_) rfl rfl (by omega) (by omega)⟩
      · rw [en, nts_no (fun e => by rw [d1, d2] at e; omega)] at ih2
        exact ih2
      · have hv : vld s (10 * x + y) := by
          refine ⟨by omega, fun e => ?_, ?_⟩
          · rw [d1, d2] at e
            subst e
            rw [wm_x hS, lp_0 hc] at c2; omega
          · rw [d1, d2]
            refine Nat.le_of_not_lt (fun e => ?_)
            have e0 : wm s x y = 0 := by unfold wm; rw [if_neg (by omega)]
            rw [e0, lp_0 hc] at c2; omega
        rw [en, nts_yes ⟨hv, by rw [d1, d2]; exact c2⟩, d1, d2] at ih2
        exact ih2
theorem hl_nextTry_11 (hS : SOK s) (hc : c < 8192) (hm : mtx M 66 (wm s)) (kk : K (ntf s c 80).1 M L) :
    ∀ (f x : Nat), x ≤ 8 → 8 < f + x → PL_X8_nextTry_11 K f (nI c) (nI (ntf s c (10 * x)).2) (ntf s c (10 * x)).1 (nI x) M L := by
  intro f
  induction f with
  | zero => intro x h1 h2; omega
  | succ f ih =>
    intro x h1 h2
    unfold PL_X8_nextTry_11
    refine pk_le 8 x (fun c1 => ?_) (fun c1 => ?_)
    · rw [show x = 8 by omega]; exact kk
    · exact hl_nextTry_21 hS hc hm c1 (ih (x + 1) (by omega) (by omega)) 100000 0 (by omega) (by omega)
theorem h_nextTry (hS : SOK s) (hc : c < 8192) (hm : mtx M 66 (wm s)) (kk : K (ntf s c 80).1 M L) : P_X8_nextTry (nI c) M L K := by
  unfold P_X8_nextTry
  rw [bitc hc]
  exact hl_nextTry_11 hS hc hm kk 100000 0 (by omega) (by omega)
theorem neg1 : Int32.ofInt (-1) < (0 : Int32) := by decide
end NTR

