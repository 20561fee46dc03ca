/-! ===== servants: the model's way through the standings ===== -/
def MKS (M : Mem) (st : Nat) (cn : Nat → Nat) (tk : Nat → Nat → Nat) (cap : Nat → Nat) (w i : Nat) : Prop := ∀ u, u < 32768 → (M 104 u = nI 0 ∨ M 104 u = nI 1) ∧ (M 104 u = nI 1 → RCH st cn tk cap u) ∧ ((u = 0 ∨ ∃ v j, RCH st cn tk cap v ∧ j < 5 ∧ stp st cn tk cap v j ∧ (v < w ∨ (v = w ∧ j < i)) ∧ u = v + 8 ^ j) → M 104 u = nI 1)
def BST (st : Nat) (cn : Nat → Nat) (tk : Nat → Nat → Nat) (cap : Nat → Nat) (v3 : Int32) (w : Nat) : Prop := (v3 = Int32.ofInt (-6) ∧ ∀ v, v < w → RCH st cn tk cap v → ¬ MLK st cn tk cap v) ∨ ∃ x, v3 = nI x ∧ x < 10 ^ 6 ∧ (∃ v, v < w ∧ RCH st cn tk cap v ∧ MLK st cn tk cap v ∧ x = lkN (dgw st cn v) 5) ∧ ∀ v, v < w → RCH st cn tk cap v → MLK st cn tk cap v → x ≤ lkN (dgw st cn v) 5
section LKX
variable {s : Stt} {np : Nat} {pd : Nat → Nat} {L : LMem} {st : Nat} {cn : Nat → Nat} {tk : Nat → Nat → Nat}
theorem MKS.nx {M : Mem} {cap : Nat → Nat} {w i : Nat} (h : MKS M st cn tk cap w i) (hn : RCH st cn tk cap w → ∀ j, i ≤ j → j < 5 → ¬ stp st cn tk cap w j) : MKS M st cn tk cap (w + 1) 0 := fun u hu => by
  obtain ⟨h1, h2, h3⟩ := h u hu
  refine ⟨h1, h2, fun g => h3 (g.elim Or.inl (fun ⟨v, j, g1, g2, g3, g4, g5⟩ => Or.inr ⟨v, j, g1, g2, g3, ?_, g5⟩))⟩
  rcases (by omega : v < w ∨ v = w) with e | e
  · exact Or.inl e
  · subst e
    exact Or.inr ⟨rfl, Nat.lt_of_not_le (fun e => hn g1 j e g2 g3)⟩
theorem MKS.up {M : Mem} {cap : Nat → Nat} {w i : Nat} (h : MKS M st cn tk cap w i) (hn : ¬ stp st cn tk cap w i) : MKS M st cn tk cap w (i + 1) := fun u hu => by
  obtain ⟨h1, h2, h3⟩ := h u hu
  refine ⟨h1, h2, fun g => h3 (g.elim Or.inl (fun ⟨v, j, g1, g2, g3, g4, g5⟩ => Or.inr ⟨v, j, g1, g2, g3, ?_, g5⟩))⟩
  rcases g4 with e | ⟨e, e2⟩
  · exact Or.inl e
  · by_cases e3 : j = i
    · subst e e3; exact absurd g3 hn
    · exact Or.inr ⟨e, by omega⟩
theorem MKS.put {M : Mem} {cap : Nat → Nat} {w i : Nat} (h : MKS M st cn tk cap w i) (hr : RCH st cn tk cap w) (hi : i < 5) (hs : stp st cn tk cap w i) : MKS (mput M 104 (w + 8 ^ i) (nI 1)) st cn tk cap w (i + 1) := fun u hu => by
  obtain ⟨h1, h2, h3⟩ := h u hu
  by_cases e : u = w + 8 ^ i
  · subst e
    exact ⟨Or.inr (mp_s _ _ _ _), fun _ => RCH_s hr hi hs, fun _ => mp_s _ _ _ _⟩
  · rw [mp_i _ e]
    refine ⟨h1, h2, fun g => h3 (g.elim Or.inl (fun ⟨v, j, g1, g2, g3, g4, g5⟩ => Or.inr ⟨v, j, g1, g2, g3, ?_, g5⟩))⟩
    rcases g4 with e1 | ⟨e1, e2⟩
    · exact Or.inl e1
    · by_cases e3 : j = i
      · subst e1 e3; exact absurd g5 e
      · exact Or.inr ⟨e1, by omega⟩
theorem BST.no {cap : Nat → Nat} {v3 : Int32} {w : Nat} (h : BST st cn tk cap v3 w) (hn : RCH st cn tk cap w → ¬ MLK st cn tk cap w) : BST st cn tk cap v3 (w + 1) := by
  rcases h with ⟨h1, h2⟩ | ⟨x, h1, h2, ⟨v, g1, g2, g3, g4⟩, h3⟩
  · refine Or.inl ⟨h1, fun v hv hr => ?_⟩
    by_cases e : v = w
    · subst e; exact hn hr
    · exact h2 v (by omega) hr
  · refine Or.inr ⟨x, h1, h2, ⟨v, by omega, g2, g3, g4⟩, fun v hv hr hm => ?_⟩
    by_cases e : v = w
    · subst e; exact absurd hm (hn hr)
    · exact h3 v (by omega) hr hm
theorem dgw_8 (st : Nat) (cn : Nat → Nat) (w i : Nat) : dgw st cn w i ≤ 7 := by
  have := hv_lt w i
  unfold dgw
  split <;> omega
theorem dgN (st : Nat) (cn : Nat → Nat) (w : Nat) {k : Nat} (hk : k ≤ 5) : lkN (dgw st cn w) k < 10 ^ 5 := Nat.lt_of_lt_of_le (lkN_le k (fun i _ => by have := dgw_8 st cn w i; omega)) (Nat.pow_le_pow_right (by decide) hk)
theorem narB1 : vp_nar .boolean (Int32.ofInt 1) = nI 1 := rfl
theorem narB0 : vp_nar .boolean (Int32.ofInt 0) = nI 0 := rfl
theorem pow_i (M : Mem) {i : Nat} (hi : i < 5) : f_X10_powerOf M (nI i) = nI (8 ^ i) := by
  unfold f_X10_powerOf
  rw [sh3 hi, show Int32.ofInt 1 = nI 1 from rfl, sh1 (by omega), p8]
theorem hl_lk121 {M0 : Mem} (hI : INVs M0 s np pd) (hSo : SOS s st cn tk) (hMD : LMD M0 st cn tk) {w : Nat} (hr : RCH st cn tk (capM (dbl (sH s))) w) {v2 v3 : Int32} (hB : BST st cn tk (capM (dbl (sH s))) v3 w) {C : Int32 → Int32 → Int32 → Int32 → Mem → LMem → Prop} {K : Int32 → Mem → LMem → Prop} (kk : ∀ v3' M, Fr c104 M0 M → MKS M st cn tk (capM (dbl (sH s))) (w + 1) 0 → BST st cn tk (capM (dbl (sH s))) v3' (w + 1) → C (nI st) v2 v3' (nI (w + 1)) M L) :
    ∀ (f i a b : Nat) (M : Mem), i ≤ 5 → 5 < f + i → a ≤ 1 → b ≤ 1 → (a = 1 ↔ ∃ j, j < i ∧ st.testBit j = true ∧ hv w j ≠ cn j) → (b = 1 ↔ ∃ j, j < i ∧ stp st cn tk (capM (dbl (sH s))) w j) → Fr c104 M0 M → HLD M w → MKS M st cn tk (capM (dbl (sH s))) w i → PL_X10_locked_121 K C f (nI st) v2 v3 (nI w) (nI a) (nI b) (nI (lkN (dgw st cn w) i)) (nI i) M L := by
  intro f
  have hS := hI.1
  have h5 := hS.2.2.2.2.1
  have h32 := hSo.1
  obtain ⟨r1, r2, r3⟩ := RIN_of hSo.2.2.1 hr
  induction f with
  | zero => intro i a b M h1 h2; omega
  | succ f ih =>
    intro i a b M h1 h2 ha1 hb1 ha hb hF hH hM
    have hI1 := hI.scr (c104_scr hF)
    have hMD1 : LMD M st cn tk := hMD.fr (fun p i _ hp => c104_lo hF (by omega))
    have hdN := dgN st cn w h1
    have o1 : Int32.ofInt 1 = nI 1 := rfl
    have oz : Int32.ofInt 0 = nI 0 := rfl
    have o10 : Int32.ofInt 10 = nI 10 := rfl
    unfold PL_X10_locked_121
    rw [nI_s, nI_s]
    refine pk_le 5 i (fun c1 => ?_) (fun c1 => ?_)
    · have e : i = 5 := by omega
      subst e
      have hM2 := hM.nx (fun _ j h1 h2 => by omega)
      rcases Nat.le_one_iff_eq_zero_or_eq_one.mp ha1 with e | e
      · subst e
        refine br_0 rfl (kk v3 M hF hM2 (hB.no (fun _ hl => ?_)))
        exact absurd (ha.mpr hl.1) (by decide)
      · subst e
        refine br_1 rfl ?_
        rcases Nat.le_one_iff_eq_zero_or_eq_one.mp hb1 with e | e
        · subst e
          have hl : MLK st cn tk (capM (dbl (sH s))) w := ⟨ha.mp rfl, fun j hj hs => absurd (hb.mpr ⟨j, hj, hs⟩) (by decide)⟩
          refine br_0 rfl ?_
          rcases hB with ⟨q1, q2⟩ | ⟨x, q1, q2, ⟨v, g1, g2, g3, g4⟩, q3⟩
          · subst q1
            refine br_t (by decide) (kk _ M hF hM2 (Or.inr ⟨_, rfl, by omega, ⟨w, by omega, hr, hl, rfl⟩, fun v hv hvr hvl => ?_⟩))
            by_cases e : v = w
            · rw [e]; exact Nat.le_refl _
            · exact absurd hvl (q2 v (by omega) hvr)
          · subst q1
            refine br_f (nI_pos (by omega)) (pk_le x _ (fun c2 => ?_) (fun c2 => ?_) rfl rfl (by omega) (by omega))
            · refine kk _ M hF hM2 (Or.inr ⟨x, rfl, q2, ⟨v, by omega, g2, g3, g4⟩, fun v hv hvr hvl => ?_⟩)
              by_cases e : v = w
              · rw [e]; exact c2
              · exact q3 v (by omega) hvr hvl
            · refine kk _ M hF hM2 (Or.inr ⟨_, rfl, by omega, ⟨w, by omega, hr, hl, rfl⟩, fun v hv hvr hvl => ?_⟩)
              by_cases e : v = w
              · rw [e]; exact Nat.le_refl _
              · have := q3 v (by omega) hvr hvl; omega
        · subst e
          obtain ⟨j, j1, j2⟩ := hb.mp rfl
          exact br_1 rfl (kk v3 M hF hM2 (hB.no (fun _ hl => hl.2 j j1 j2)))
    · have e1 : (nI i).toNatClampNeg = i := nI_clamp (by omega)
      -- nothing more of this one
      have off : ¬ (st.testBit i = true ∧ hv w i ≠ cn i) → PL_X10_locked_121 K C f (nI st) v2 v3 (nI w) (nI a) (nI b) (nI (10 * lkN (dgw st cn w) i + 0)) (nI (i + 1)) M L := fun hn => by
        have hd : dgw st cn w i = 0 := if_neg hn
        have hns : ¬ stp st cn tk (capM (dbl (sH s))) w i := fun g => hn ⟨g.1, g.2.1⟩
        have e2 : 10 * lkN (dgw st cn w) i + 0 = lkN (dgw st cn w) (i + 1) := by rw [lkN, hd]
        rw [e2]
        refine ih (i + 1) a b M (by omega) (by omega) ha1 hb1 ?_ ?_ hF hH (hM.up hns)
        · rw [ha]
          refine ⟨fun ⟨j, j1, j2⟩ => ⟨j, by omega, j2⟩, fun ⟨j, j1, j2⟩ => ⟨j, ?_, j2⟩⟩
          have : j ≠ i := fun e => hn (e ▸ j2)
          omega
        · rw [hb]
          refine ⟨fun ⟨j, j1, j2⟩ => ⟨j, by omega, j2⟩, fun ⟨j, j1, j2⟩ => ⟨j, ?_, j2⟩⟩
          have : j ≠ i := fun e => hns (e ▸ j2)
          omega
      have off2 : ¬ (st.testBit i = true ∧ hv w i ≠ cn i) → ((nI a = 0 → PL_X10_locked_121 K C f (nI st) v2 v3 (nI w) (nI 0) (nI b) (nI (10 * lkN (dgw st cn w) i + 0)) (nI (i + 1)) M L) ∧ (¬ nI a = 0 → PL_X10_locked_121 K C f (nI st) v2 v3 (nI w) (nI 1) (nI b) (nI (10 * lkN (dgw st cn w) i + 0)) (nI (i + 1)) M L)) := fun hn => by
        have h := off hn
        rcases Nat.le_one_iff_eq_zero_or_eq_one.mp ha1 with e | e
        · subst e; exact br_0 rfl h
        · subst e; exact br_1 rfl h
      rw [o1, oz, o10, pk_mul, nI_add]
      refine pk_le (sG s 2) i (fun c2 => off2 (fun h => by have := hSo.2.1 i h.1; omega)) (fun c2 => ?_) hI1.2.2.1.wai
      refine bit_1 (by omega) (by omega) (fun hbit => ⟨pk_in i 5 c1, ?_⟩) (fun hbit => off2 (fun h => by rw [hbit] at h; exact absurd h.1 Bool.false_ne_true))
      refine done_i hMD1 hH hbit c1 (hSo.2.2.1.1 i) (fun c3 => ⟨pk_in i 5 c1, ?_⟩) (fun c3 => off2 (fun h => h.2 c3))
      have hd : dgw st cn w i = hv w i := if_pos ⟨hbit, c3⟩
      have e2 : 10 * lkN (dgw st cn w) i + hv w i = lkN (dgw st cn w) (i + 1) := by rw [lkN, hd]
      have h7 := hSo.2.2.1.1 i
      have hle := r2 i c1
      obtain ⟨u1, u2, u3⟩ := hv_up i w c1 r1 (by omega)
      have p8i : 8 ^ i < 32768 := by omega
      have all : P_X10_canTake (nI i) (nI st) M L (fun v_52 M_50 L_51 => ((v_52 = 0 → PL_X10_locked_121 K C f (nI st) v2 v3 (nI w) (nI 1) (nI b) (nI (10 * lkN (dgw st cn w) i) + (M 105 (nI i).toNatClampNeg)) (nI (i + 1)) M_50 L_51) ∧ (¬ (v_52 = 0) → (vp_in (nI w + (f_X10_powerOf M_50 (nI i))) 32768 ∧ PL_X10_locked_121 K C f (nI st) v2 v3 (nI w) (nI 1) (nI 1) (nI (10 * lkN (dgw st cn w) i) + (M 105 (nI i).toNatClampNeg)) (nI (i + 1)) (mput M_50 104 ((nI w + (f_X10_powerOf M_50 (nI i))).toNatClampNeg) (vp_nar .boolean (nI 1))) L_51)))) := by
        rw [e1, hH i c1, nI_add, e2]
        have ha' : (1 = 1 ↔ ∃ j, j < i + 1 ∧ st.testBit j = true ∧ hv w j ≠ cn j) := ⟨fun _ => ⟨i, by omega, hbit, c3⟩, fun _ => rfl⟩
        refine h_canTake hI1 hSo hMD1 hH r2 hbit c3 (fun hs => br_1 rfl ?_) (fun hs => br_0 rfl ?_)
        · have e3 : nI w + f_X10_powerOf M (nI i) = nI (w + 8 ^ i) := by rw [pow_i M c1, nI_add]
          have e4 : (nI (w + 8 ^ i)).toNatClampNeg = w + 8 ^ i := nI_clamp (by omega)
          have e5 : vp_nar .boolean (nI 1) = nI 1 := narB1
          rw [e3, e4, e5]
          refine ⟨pk_in (w + 8 ^ i) 32768 u1, ih (i + 1) 1 1 _ (by omega) (by omega) (by omega) (by omega) ha' ⟨fun _ => ⟨i, by omega, hs⟩, fun _ => rfl⟩ (hF.put rfl) (fun j hj => by rw [mp_p _ (by decide)]; exact hH j hj) (hM.put hr c1 hs)⟩
        · refine ih (i + 1) 1 b M (by omega) (by omega) (by omega) hb1 ha' ?_ hF hH (hM.up hs)
          rw [hb]
          refine ⟨fun ⟨j, j1, j2⟩ => ⟨j, by omega, j2⟩, fun ⟨j, j1, j2⟩ => ⟨j, ?_, j2⟩⟩
          have : j ≠ i := fun e => hs (e ▸ j2)
          omega
      exact br_c (fun _ => all) (fun _ => all)
theorem hl_lk86 {M0 : Mem} (hI : INVs M0 s np pd) (hSo : SOS s st cn tk) (hMD : LMD M0 st cn tk) {v2 : Int32} {K : Int32 → Mem → LMem → Prop} (kk0 : (∀ v, RCH st cn tk (capM (dbl (sH s))) v → ¬ MLK st cn tk (capM (dbl (sH s))) v) → ∀ M, Fr c104 M0 M → K (Int32.ofInt (-6)) M L) (kk1 : ∀ x v, x < 10 ^ 6 → RCH st cn tk (capM (dbl (sH s))) v → MLK st cn tk (capM (dbl (sH s))) v → x = lkN (dgw st cn v) 5 → (∀ v, RCH st cn tk (capM (dbl (sH s))) v → MLK st cn tk (capM (dbl (sH s))) v → x ≤ lkN (dgw st cn v) 5) → ∀ M, Fr c104 M0 M → K (Int32.ofInt 1000000 + nI x) M L) :
    ∀ (f w : Nat) (v3 : Int32) (M : Mem), w ≤ 32768 → 32768 < f + w → Fr c104 M0 M → MKS M st cn tk (capM (dbl (sH s))) w 0 → BST st cn tk (capM (dbl (sH s))) v3 w → PL_X10_locked_86 K f (nI st) v2 v3 (nI w) M L := by
  intro f
  induction f with
  | zero => intro w v3 M h1 h2; omega
  | succ f ih =>
    intro w v3 M h1 h2 hF hM hB
    have hlt : ∀ v, RCH st cn tk (capM (dbl (sH s))) v → v < 32768 := fun v hv => (RIN_of hSo.2.2.1 hv).1
    unfold PL_X10_locked_86
    rw [nI_s]
    refine pk_le 32768 w (fun c1 => ?_) (fun c1 => ⟨pk_in w 32768 c1, ?_⟩)
    · have e : w = 32768 := by omega
      subst e
      rcases hB with ⟨q1, q2⟩ | ⟨x, q1, q2, ⟨v, g1, g2, g3, g4⟩, q3⟩
      · subst q1
        exact br_f (by decide) (kk0 (fun v hv => q2 v (hlt v hv) hv) M hF)
      · subst q1
        exact br_t (nI_pos' (by omega)) (kk1 x v q2 g2 g3 g4 (fun v hv hl => q3 v (hlt v hv) hv hl) M hF)
    · rw [nI_clamp (by omega)]
      obtain ⟨m1, m2, m3⟩ := hM w c1
      rcases m1 with m1 | m1
      · have hn : ¬ RCH st cn tk (capM (dbl (sH s))) w := fun hr => by
          have : M 104 w = nI 1 := by
            refine m3 ?_
            rcases RCH_inv hr with e | ⟨v, j, q1, q2, q3, q4⟩
            · exact Or.inl e
            · refine Or.inr ⟨v, j, q1, q2, q3, Or.inl ?_, q4⟩
              have : 0 < 8 ^ j := Nat.pow_pos (by decide)
              omega
          rw [m1] at this
          exact absurd this (by decide)
        exact br_0 m1 (ih (w + 1) v3 M (by omega) (by omega) hF (hM.nx (fun hr => absurd hr hn)) (hB.no (fun hr => absurd hr hn)))
      · have hr := m2 m1
        refine br_1 m1 (h_layHolds c1 (fun M2 hF2 hH => ?_))
        have hF3 := hF.tr (c105_4 hF2)
        have hM2 : MKS M2 st cn tk (capM (dbl (sH s))) w 0 := fun u hu => by rw [hF2 104 u rfl]; exact hM u hu
        exact hl_lk121 hI hSo hMD hr hB (fun v3' M3 hF4 hM4 hB4 => ih (w + 1) v3' M3 (by omega) (by omega) hF4 hM4 hB4) 100000 0 0 0 M2 (by omega) (by omega) (by omega) (by omega) ⟨fun e => absurd e (by decide), fun ⟨j, h, _⟩ => absurd h (Nat.not_lt_zero j)⟩ ⟨fun e => absurd e (by decide), fun ⟨j, h, _⟩ => absurd h (Nat.not_lt_zero j)⟩ hF3 hH hM2
theorem h_lk53 {M0 : Mem} (hI : INVs M0 s np pd) (hSo : SOS s st cn tk) (hMD : LMD M0 st cn tk) {v2 : Int32} {K : Int32 → Mem → LMem → Prop} (kk0 : (∀ v, RCH st cn tk (capM (dbl (sH s))) v → ¬ MLK st cn tk (capM (dbl (sH s))) v) → ∀ M, Fr c104 M0 M → K (Int32.ofInt (-6)) M L) (kk1 : ∀ x v, x < 10 ^ 6 → RCH st cn tk (capM (dbl (sH s))) v → MLK st cn tk (capM (dbl (sH s))) v → x = lkN (dgw st cn v) 5 → (∀ v, RCH st cn tk (capM (dbl (sH s))) v → MLK st cn tk (capM (dbl (sH s))) v → x ≤ lkN (dgw st cn v) 5) → ∀ M, Fr c104 M0 M → K (Int32.ofInt 1000000 + nI x) M L) :
    PL_X10_locked_53 K 100000 (nI st) v2 (nI 0) M0 L := by
  have go : ∀ (f k : Nat) (M : Mem), k ≤ 32768 → 32768 < f + k → Fr c104 M0 M → (∀ u, u < k → M 104 u = nI (if u = 0 then 1 else 0)) → PL_X10_locked_53 K f (nI st) v2 (nI k) M L := by
    intro f
    induction f with
    | zero => intro k M h1 h2; omega
    | succ f ih =>
      intro k M h1 h2 hF hA
      unfold PL_X10_locked_53
      rw [nI_s]
      refine pk_le 32768 k (fun c1 => ?_) (fun c1 => ?_)
      · have e : k = 32768 := by omega
        subst e
        refine hl_lk86 hI hSo hMD kk0 kk1 100000 0 _ M (by omega) (by omega) hF (fun u hu => ?_) (Or.inl ⟨rfl, fun v hv => absurd hv (Nat.not_lt_zero v)⟩)
        have := hA u hu
        by_cases e : u = 0
        · rw [if_pos e] at this
          exact ⟨Or.inr this, fun _ => e ▸ RCH_0, fun _ => this⟩
        · rw [if_neg e] at this
          refine ⟨Or.inl this, fun h => ?_, fun g => ?_⟩
          · rw [this] at h; exact absurd h (by decide)
          · rcases g with g | ⟨v, j, q1, q2, q3, q4, q5⟩
            · exact absurd g e
            · omega
      · have e1 : (nI k).toNatClampNeg = k := nI_clamp (by omega)
        rw [e1, narB1, narB0]
        have st1 : ∀ b, b = (if k = 0 then 1 else 0) → PL_X10_locked_53 K f (nI st) v2 (nI (k + 1)) (mput M 104 k (nI b)) L := fun b hb => by
          refine ih (k + 1) _ (by omega) (by omega) (hF.put rfl) (fun u hu => ?_)
          by_cases e : u = k
          · rw [e, mp_s, hb]
          · rw [mp_i _ e]; exact hA u (by omega)
        refine pk_eq k 0 (fun c2 => ⟨pk_in k 32768 c1, st1 1 (by rw [if_pos c2])⟩) (fun c2 => ⟨pk_in k 32768 c1, st1 0 (by rw [if_neg c2])⟩) rfl rfl (by omega)
  exact go 100000 0 M0 (by omega) (by omega) (Fr.rf _ _) (fun u hu => absurd hu (Nat.not_lt_zero u))
/-! every locked standing of the class comes in the model -/
def nmb (e : Nat → Nat) : Nat := e 0 + 8 * e 1 + 64 * e 2 + 512 * e 3 + 4096 * e 4
theorem nmb_hv {e : Nat → Nat} (h : ∀ j, j < 5 → e j ≤ 7) {i : Nat} (hi : i < 5) : hv (nmb e) i = e i := by
  have a0 := h 0 (by omega)
  have a1 := h 1 (by omega)
  have a2 := h 2 (by omega)
  have a3 := h 3 (by omega)
  have a4 := h 4 (by omega)
  unfold hv nmb
  rcases (by omega : i = 0 ∨ i = 1 ∨ i = 2 ∨ i = 3 ∨ i = 4) with e | e | e | e | e <;> subst e <;> omega
theorem nmb_ext {e e' : Nat → Nat} (h : ∀ j, j < 5 → e j = e' j) : nmb e = nmb e' := by
  unfold nmb
  rw [h 0 (by omega), h 1 (by omega), h 2 (by omega), h 3 (by omega), h 4 (by omega)]
theorem nmb_up (e : Nat → Nat) {i T : Nat} (hi : i < 5) : nmb (fup e i T) + 8 ^ i = nmb (fup e i (T + 1)) := by
  unfold nmb fup
  rcases (by omega : i = 0 ∨ i = 1 ∨ i = 2 ∨ i = 3 ∨ i = 4) with e | e | e | e | e <;> subst e <;> simp <;> omega
def dge (st : Nat) (cn : Nat → Nat) (e : Nat → Nat) (j : Nat) : Nat := if st.testBit j = true ∧ e j ≠ cn j then e j else 0
theorem dge_d {e : Nat → Nat} {j : Nat} (h : e j = cn j) : dge st cn e j = 0 := if_neg (fun g => g.2 h)
theorem dge_0 {e : Nat → Nat} {j : Nat} (h : e j = 0) : dge st cn e j = 0 := by
  unfold dge; rw [h]; split <;> rfl
theorem dge_le (st : Nat) (cn : Nat → Nat) (e : Nat → Nat) (j : Nat) : dge st cn e j ≤ e j := by
  unfold dge; split <;> omega
theorem climb {cap : Nat → Nat} (hD : LKD cn tk cap) {e : Nat → Nat} {i : Nat} (he : ∀ j, j < 5 → e j ≤ 7) (hi : i < 5) (hr : RCH st cn tk cap (nmb e)) (h0 : e i = 0) (hb : st.testBit i = true) : ∀ T, T ≤ cn i → (∀ h, h < T → lkO tk (dge st cn e) i (tk i h) 5 < cap (tk i h)) → RCH st cn tk cap (nmb (fup e i T)) := by
  have h7 := hD.1 i
  intro T
  induction T with
  | zero =>
    intro _ _
    rw [nmb_ext (e' := e) (fun j _ => by
      by_cases q : j = i
      · rw [q, fup_s, h0]
      · rw [fup_n q])]
    exact hr
  | succ T ih =>
    intro hT hh
    have h1 := ih (by omega) (fun h hh' => hh h (by omega))
    have he1 : ∀ j, j < 5 → fup e i T j ≤ 7 := fun j hj => by
      by_cases q : j = i
      · rw [q, fup_s]; omega
      · rw [fup_n q]; exact he j hj
    have hvi : hv (nmb (fup e i T)) i = T := by rw [nmb_hv he1 hi, fup_s]
    rw [← nmb_up e hi]
    refine RCH_s h1 hi ⟨hb, by rw [hvi]; omega, ?_⟩
    rw [hvi]
    have eO : lkO tk (dgw st cn (nmb (fup e i T))) i (tk i T) 5 = lkO tk (dge st cn e) i (tk i T) 5 := cnt_eq 5 (fun j hj => by
      by_cases q : j = i
      · rw [q, Nat.beq_refl]; rfl
      · have : dgw st cn (nmb (fup e i T)) j = dge st cn e j := by
          unfold dgw dge
          rw [nmb_hv he1 hj, fup_n q]
        rw [this])
    rw [eO]
    exact hh T (by omega)
theorem L_MLK {cap : Nat → Nat} (hD : LKD cn tk cap) (hc0 : ∀ i, st.testBit i = false → cn i = 0) {d : Nat → Nat} (hl : lkL cn tk cap d) : ∃ w, RCH st cn tk cap w ∧ MLK st cn tk cap w ∧ lkN (dgw st cn w) 5 = lkN d 5 := by
  have hb1 : ∀ i, 1 ≤ cn i → st.testBit i = true := fun i hi => by
    cases e : st.testBit i with
    | true => rfl
    | false => have := hc0 i e; omega
  have hd6 : ∀ i, i < 5 → d i ≤ 6 := fun i hi => by
    have := hD.1 i
    rcases hl.1 i hi with e | e <;> omega
  -- those that are done go through, one after the other
  have A : ∀ k, k ≤ 5 → RCH st cn tk cap (nmb (fun i => if i < k ∧ d i = 0 then cn i else 0)) := by
    intro k
    induction k with
    | zero =>
      intro _
      rw [nmb_ext (e' := fun _ => 0) (fun j _ => if_neg (fun h => absurd h.1 (Nat.not_lt_zero j)))]
      exact RCH_0
    | succ k ih =>
      intro hk
      have h1 := ih (by omega)
      by_cases c : d k = 0 ∧ st.testBit k = true
      · have h2 := climb hD (e := fun i => if i < k ∧ d i = 0 then cn i else 0) (i := k) (fun j hj => by
          show (if j < k ∧ d j = 0 then cn j else 0) ≤ 7
          have := hD.1 j
          split <;> omega) (by omega) h1 (if_neg (fun h => absurd h.1 (Nat.lt_irrefl k))) c.2 (cn k) (Nat.le_refl _) (fun h hh => by
          have hz : ∀ j, dge st cn (fun i => if i < k ∧ d i = 0 then cn i else 0) j = 0 := fun j => by
            by_cases q : j < k ∧ d j = 0
            · exact dge_d (if_pos q)
            · exact dge_0 (if_neg q)
          have hO : ∀ m : Nat, lkO tk (dge st cn (fun i => if i < k ∧ d i = 0 then cn i else 0)) k (tk k h) m = 0 := by
            intro m
            induction m with
            | zero => rfl
            | succ m ih => rw [lkO_s, ih, hz m, show lkB (tk m) 0 (tk k h) = false from rfl, Bool.and_false]; rfl
          rw [hO]
          exact (hD.2.2.2 _).1)
        rw [nmb_ext (e' := fup (fun i => if i < k ∧ d i = 0 then cn i else 0) k (cn k)) (fun j hj => ?_)]
        · exact h2
        · by_cases q : j = k
          · subst q
            rw [fup_s]
            exact if_pos ⟨Nat.lt_succ_self _, c.1⟩
          · rw [fup_n q]
            by_cases q2 : d j = 0
            · by_cases q3 : j < k
              · rw [if_pos ⟨by omega, q2⟩, if_pos ⟨q3, q2⟩]
              · rw [if_neg (fun h => by have := h.1; omega), if_neg (fun h => q3 h.1)]
            · rw [if_neg (fun h => q2 h.2), if_neg (fun h => q2 h.2)]
      · rw [nmb_ext (e' := fun i => if i < k ∧ d i = 0 then cn i else 0) (fun j hj => ?_)]
        · exact h1
        · try dsimp only
          by_cases q2 : d j = 0
          · by_cases q : j = k
            · subst q
              rw [if_pos ⟨Nat.lt_succ_self _, q2⟩, if_neg (fun h => absurd h.1 (Nat.lt_irrefl _))]
              refine hc0 j ?_
              cases e : st.testBit j with
              | false => rfl
              | true => exact absurd ⟨q2, e⟩ c
            · by_cases q3 : j < k
              · rw [if_pos ⟨by omega, q2⟩, if_pos ⟨q3, q2⟩]
              · rw [if_neg (fun h => by have := h.1; omega), if_neg (fun h => q3 h.1)]
          · rw [if_neg (fun h => q2 h.2), if_neg (fun h => q2 h.2)]
  have B : ∀ k, k ≤ 5 → RCH st cn tk cap (nmb (fun i => if d i = 0 then cn i else if i < k then d i else 0)) := by
    intro k
    induction k with
    | zero =>
      intro _
      rw [nmb_ext (e' := fun i => if i < 5 ∧ d i = 0 then cn i else 0) (fun j hj => ?_)]
      · exact A 5 (Nat.le_refl 5)
      · try dsimp only
        by_cases q : d j = 0
        · rw [if_pos q, if_pos ⟨hj, q⟩]
        · rw [if_neg q, if_neg (Nat.not_lt_zero j), if_neg (fun h => q h.2)]
    | succ k ih =>
      intro hk
      have h1 := ih (by omega)
      by_cases c : d k = 0
      · rw [nmb_ext (e' := fun i => if d i = 0 then cn i else if i < k then d i else 0) (fun j hj => ?_)]
        · exact h1
        · try dsimp only
          by_cases q : d j = 0
          · rw [if_pos q, if_pos q]
          · have : j ≠ k := fun e => q (e ▸ c)
            rw [if_neg q, if_neg q]
            by_cases q3 : j < k
            · rw [if_pos q3, if_pos (by omega)]
            · rw [if_neg q3, if_neg (by omega)]
      · have hlt : d k < cn k := (hl.1 k (by omega)).elim (fun e => absurd e c) id
        have h2 := climb hD (e := fun i => if d i = 0 then cn i else if i < k then d i else 0) (i := k) (fun j hj => by
          show (if d j = 0 then cn j else if j < k then d j else 0) ≤ 7
          have := hD.1 j
          have := hd6 j hj
          split
          · omega
          · split <;> omega) (by omega) h1 (by
          show (if d k = 0 then cn k else if k < k then d k else 0) = 0
          rw [if_neg c, if_neg (Nat.lt_irrefl k)]) (hb1 k (by omega)) (d k) (by omega) (fun h hh => by
          have hO : lkO tk (dge st cn (fun i => if d i = 0 then cn i else if i < k then d i else 0)) k (tk k h) 5 ≤ lkO tk d k (tk k h) 5 := cnt_le 5 (fun j hj hq => by
            rw [Bool.and_eq_true] at hq ⊢
            refine ⟨hq.1, lkB_mono ?_ hq.2⟩
            by_cases q : d j = 0
            · have hz : dge st cn (fun i => if d i = 0 then cn i else if i < k then d i else 0) j = 0 := dge_d (if_pos q)
              rw [hz]; exact Nat.zero_le _
            · refine Nat.le_trans (dge_le st cn _ j) ?_
              show (if d j = 0 then cn j else if j < k then d j else 0) ≤ d j
              rw [if_neg q]
              split <;> omega)
          have hC := lkO_C tk d k (tk k h) 5
          rw [if_pos ⟨by omega, (lkB_iff _).mpr ⟨h, hh, rfl⟩⟩] at hC
          have := hl.2.1 (tk k h)
          omega)
        rw [nmb_ext (e' := fup (fun i => if d i = 0 then cn i else if i < k then d i else 0) k (d k)) (fun j hj => ?_)]
        · exact h2
        · by_cases q : j = k
          · subst q
            rw [fup_s]
            try dsimp only
            rw [if_neg c, if_pos (Nat.lt_succ_self _)]
          · rw [fup_n q]
            try dsimp only
            by_cases q2 : d j = 0
            · rw [if_pos q2, if_pos q2]
            · rw [if_neg q2, if_neg q2]
              by_cases q3 : j < k
              · rw [if_pos q3, if_pos (by omega)]
              · rw [if_neg q3, if_neg (by omega)]
  have hr := B 5 (Nat.le_refl 5)
  have he7 : ∀ j, j < 5 → (fun i => if d i = 0 then cn i else if i < 5 then d i else 0) j ≤ 7 := fun j hj => by
    have := hD.1 j
    have := hd6 j hj
    show (if d j = 0 then cn j else if j < 5 then d j else 0) ≤ 7
    rw [if_pos hj]
    split <;> omega
  have hw : ∀ i, i < 5 → hv (nmb (fun i => if d i = 0 then cn i else if i < 5 then d i else 0)) i = if d i = 0 then cn i else d i := fun i hi => by
    rw [nmb_hv he7 hi]
    try dsimp only
    by_cases q : d i = 0
    · rw [if_pos q, if_pos q]
    · rw [if_neg q, if_neg q, if_pos hi]
  have hdg : ∀ i, i < 5 → dgw st cn (nmb (fun i => if d i = 0 then cn i else if i < 5 then d i else 0)) i = d i := fun i hi => by
    unfold dgw
    rw [hw i hi]
    by_cases q : d i = 0
    · rw [if_pos q, if_neg (fun h => h.2 rfl), q]
    · have hlt : d i < cn i := (hl.1 i hi).elim (fun e => absurd e q) id
      rw [if_neg q, if_pos ⟨hb1 i (by omega), by omega⟩]
  refine ⟨_, hr, ⟨?_, fun j hj hs => ?_⟩, lkN_ext 5 hdg⟩
  · obtain ⟨i, i1, i2⟩ := hl.2.2.1
    have hlt : d i < cn i := (hl.1 i i1).elim (fun e => by omega) id
    exact ⟨i, i1, hb1 i (by omega), by rw [hw i i1, if_neg (by omega)]; omega⟩
  · obtain ⟨s1, s2, s3⟩ := hs
    rw [hw j hj] at s2 s3
    by_cases q : d j = 0
    · rw [if_pos q] at s2; exact s2 rfl
    · rw [if_neg q] at s3
      have hlt : d j < cn j := (hl.1 j hj).elim (fun e => absurd e q) id
      have hf := hl.2.2.2 j hj (by omega)
      have eO : lkO tk (dgw st cn (nmb (fun i => if d i = 0 then cn i else if i < 5 then d i else 0))) j (tk j (d j)) 5 = lkO tk d j (tk j (d j)) 5 := cnt_eq 5 (fun i hi => by rw [hdg i hi])
      have hC := lkO_C tk d j (tk j (d j)) 5
      have hown : lkB (tk j) (d j) (tk j (d j)) = false := by
        cases e : lkB (tk j) (d j) (tk j (d j)) with
        | false => rfl
        | true =>
          obtain ⟨q, q1, q2⟩ := (lkB_iff (d j)).mp e
          have := hD.2.2.1 j q (d j) hj (by omega) hlt q2
          omega
      rw [if_neg (fun h => by rw [hown] at h; exact absurd h.2 Bool.false_ne_true)] at hC
      rw [eO] at s3
      omega
end LKX
theorem op_locked : Op_locked INV := by
  intro M L x1 x2 hI
  obtain ⟨s, np, pd, hI⟩ := hI
  have hS := hI.1
  have h5 := hS.2.2.2.2.1
  show P_X9_locked x1 x2 M L (fun r M1 L1 => P_X10_locked x1 x2 M1 L1 (fun r2 M2 L2 => r2 = r ∧ INV M2 L2))
  have o1 : Int32.ofInt 1 = nI 1 := rfl
  have e2n : Int32.ofInt 1 <<< (nI (sG s 2) &&& 31) = nI (2 ^ sG s 2) := by rw [o1, sh1 (by omega)]
  have hp : 2 ^ sG s 2 ≤ 2 ^ 5 := Nat.pow_le_pow_right (by decide) h5
  unfold P_X9_locked
  rw [hI.2.1.wai, e2n]
  have hmod : M 74 12 = nI (sG s 2) := hI.2.2.1.wai
  rcases in_lt x1 (2 ^ sG s 2) (by omega) with ⟨st, st1, rfl, st3⟩ | ⟨hx, st3⟩
  · refine br_f (nI_pos (by omega)) (br_f (nI_ge st1 (by omega)) ?_)
    rcases wi_cases x2 0 1 (Int32.ofInt 0) (Int32.ofInt 1) (Int64.ofNat 0) (Int64.ofNat 1) with ⟨ru, -, ru1, rfl, w1, w2⟩ | ⟨-, w1, w2⟩
    · refine br_1 (w1 M) ?_
      have hst : st < 32 := by omega
      have hsn : ∀ i, st.testBit i = true → i < sG s 2 := fun i hi => Nat.lt_of_not_le (fun e => by
        rw [Nat.testBit_lt_two_pow (Nat.lt_of_lt_of_le st1 (Nat.pow_le_pow_right (by decide) e))] at hi
        exact Bool.false_ne_true hi)
      refine h_lgather hI hst hsn ru1 (fun M1 hF1 hG => br_1 rfl ?_) (fun M1 hF1 hn => br_0 rfl ?_)
      · have hI1 := hI.scr hF1
        have hbit : ∀ i, st.testBit i = true → i < sG s 2 ∧ hw s i ∧ TKP s ru i (tkF s ru i) := fun i hi => by
          have h1 := hsn i hi
          obtain ⟨a1, a2, f, a3, a4⟩ := (hG.2 i (by omega)).1 hi
          exact ⟨h1, a1, tkF_is a3⟩
        have hLD : LKD (fun i => if st.testBit i = true then oN s i else 0) (tkF s ru) (capM (dbl (sH s))) := by
          refine ⟨fun i => ?_, fun i j hi hj => ?_, fun i j j' hi hj hj' e => ?_, fun t => ?_⟩
          · try dsimp only
            split
            · next c => exact oN_7 hS (hsn i c)
            · omega
          · dsimp only at hj
            by_cases c : st.testBit i = true
            · rw [if_pos c] at hj
              obtain ⟨b1, b2, b3⟩ := hbit i c
              exact (TKP_dat hS b1 b2 b3).1 j hj
            · rw [if_neg c] at hj; omega
          · dsimp only at hj hj'
            by_cases c : st.testBit i = true
            · rw [if_pos c] at hj hj'
              obtain ⟨b1, b2, b3⟩ := hbit i c
              exact (TKP_dat hS b1 b2 b3).2 j j' hj hj' e
            · rw [if_neg c] at hj; omega
          · unfold capM; split <;> omega
        have hSo : SOS s st (fun i => if st.testBit i = true then oN s i else 0) (tkF s ru) := by
          refine ⟨hst, hsn, hLD, fun i hi => ?_, fun i hi => ?_, fun i j hi hj => ?_⟩
          · obtain ⟨b1, b2, b3⟩ := hbit i hi
            try dsimp only
            rw [if_pos hi]; exact oN_1 hS b1 b2
          · try dsimp only
            rw [if_neg (by rw [hi]; decide)]
          · dsimp only at hj
            rw [if_pos hi] at hj
            obtain ⟨b1, b2, b3⟩ := hbit i hi
            by_cases e : ru = 0
            · rw [b3.1 e j hj]
              exact oT_q hS b1 ((oT_bit b2 _).mpr ⟨j, hj, rfl⟩)
            · exact oT_q hS b1 (((b3.2 e).2 _).mpr ⟨j, hj, rfl⟩)
        have hLM : LKM M1 (fun i => if st.testBit i = true then oN s i else 0) (tkF s ru) (dbl (sH s)) := by
          refine ⟨hG.1, fun i hi => ?_⟩
          try dsimp only
          cases c : st.testBit i with
          | true =>
            obtain ⟨a1, a2, f, a3, a4⟩ := (hG.2 i hi).1 c
            rw [if_pos rfl]
            exact ⟨a2, fun j hj => by rw [a4 j hj, tkF_eq a3 hj]⟩
          | false =>
            rw [if_neg (by decide)]
            exact ⟨(hG.2 i hi).2 c, fun j hj => absurd hj (Nat.not_lt_zero j)⟩
        have hdb := dbl_lt hS
        refine h_leastLocked hLD hdb hLM (fun v hv hR => ?_)
        -- the model
        have model : ∀ {K : Int32 → Mem → LMem → Prop}, (∀ r M2, (v = 0 → r = Int32.ofInt (-6)) → (v ≠ 0 → r = Int32.ofInt 1000000 + nI v) → INVs M2 s np pd → K r M2 L) → P_X10_locked (nI st) (nI ru) M1 L K := by
          intro K kk
          unfold P_X10_locked
          rw [hI1.2.2.1.wai, e2n]
          refine br_1 (st3 M1) (br_1 (w2 M1) ?_)
          refine h_findWays hI1 hst (fun M2 b hb1 hF2 hW2 hbb => ?_)
          have e1 : b = 1 := hbb.mpr (fun c hc ht => (hbit c ht).2.1)
          subst e1
          have hI2 := hI1.scr hF2
          have fin : ∀ M3, INVs M3 s np pd → WYs M3 s ru → PL_X10_locked_53 K 100000 (nI st) (nI ru) (nI 0) M3 L := fun M3 hI3 hW3 => by
            have hMD : LMD M3 st (fun i => if st.testBit i = true then oN s i else 0) (tkF s ru) := fun i hi => by
              obtain ⟨b1, b2, b3⟩ := hbit i hi
              obtain ⟨q1, q2⟩ := hW3 i b1
              obtain ⟨f, q3, q4⟩ := q2 b2
              try dsimp only
              rw [if_pos hi]
              exact ⟨q1, fun j hj => by rw [q4 j hj, tkF_eq q3 hj]⟩
            refine h_lk53 hI3 hSo hMD (fun hno M4 hF4 => kk _ M4 (fun _ => rfl) (fun hv0 => ?_) (hI3.scr (c104_scr hF4))) (fun x w hx hr hl hxe hmin M4 hF4 => kk _ M4 (fun hv0 => ?_) (fun hv0 => ?_) (hI3.scr (c104_scr hF4)))
            · rcases hR with ⟨g, _⟩ | ⟨_, d, _, d2, _⟩
              · exact absurd g hv0
              · obtain ⟨w, w1, w2, _⟩ := L_MLK hLD hSo.2.2.2.2.1 d2
                exact absurd w2 (hno w w1)
            · rcases hR with ⟨_, g⟩ | ⟨g, _⟩
              · exact absurd (MLK_L hLD hr hl) (g _ trivial)
              · exact absurd hv0 g
            · rcases hR with ⟨g, _⟩ | ⟨_, d, _, d2, d3, d4⟩
              · exact absurd g hv0
              · have h1 := d4 _ trivial (MLK_L hLD hr hl)
                obtain ⟨w', w1, w2, w3⟩ := L_MLK hLD hSo.2.2.2.2.1 d2
                have h2 := hmin w' w1 w2
                have : x = v := by omega
                rw [this]
          rcases Nat.le_one_iff_eq_zero_or_eq_one.mp ru1 with e | e
          · subst e
            exact br_1 rfl (br_f (by decide) (fin M2 hI2 hW2.s0))
          · subst e
            exact br_1 rfl (br_t rfl (h_sortWays hI2 hW2 (fun M3 hF3 hW3 => fin M3 (hI2.scr hF3) hW3)))
        refine pk_eq v 0 (fun c => model (fun r M2 h1 _ hI2 => ⟨h1 c, s, np, pd, hI2⟩)) (fun c => model (fun r M2 _ h1 hI2 => ⟨h1 c, s, np, pd, hI2⟩)) rfl rfl (by omega)
      · have hI1 := hI.scr hF1
        unfold P_X10_locked
        dsimp only
        rw [hI1.2.2.1.wai, e2n]
        refine br_1 (st3 M1) (br_1 (w2 M1) ?_)
        refine h_findWays hI1 hst (fun M2 b hb1 hF2 hW2 hbb => ?_)
        have e0 : b = 0 := by
          rcases Nat.le_one_iff_eq_zero_or_eq_one.mp hb1 with e | e
          · exact e
          · exact absurd (hbb.mp e) hn
        subst e0
        exact br_0 rfl ⟨rfl, s, np, pd, hI1.scr hF2⟩
    · refine br_0 (w1 M) ?_
      unfold P_X10_locked
      dsimp only
      rw [hmod, e2n]
      exact br_1 (st3 M) (br_0 (w2 M) ⟨rfl, s, np, pd, hI⟩)
  · have mdl : P_X10_locked x1 x2 M L (fun r2 M2 L2 => r2 = Int32.ofInt (-2) ∧ INV M2 L2) := by
      unfold P_X10_locked
      rw [hmod, e2n]
      exact br_0 (st3 M) ⟨rfl, s, np, pd, hI⟩
    rcases hx with hx | ⟨hx1, hx2⟩
    · exact br_t hx mdl
    · exact br_f hx1 (br_t hx2 mdl)
