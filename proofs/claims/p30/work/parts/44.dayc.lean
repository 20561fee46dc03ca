/-! ===== the class's day ===== -/
def lsF (A : DA) : Nat → Nat
  | 0 => 0
  | j + 1 => mx (lsF A j) (dF A 0 j)
def uF (A : DA) : Nat → Nat
  | 0 => 0
  | j + 1 => uF A j ||| dF A 2 j
theorem lsF_le (A : DA) : ∀ j c, c < j → dF A 0 c ≤ lsF A j := by
  intro j
  induction j with
  | zero => intro c hc; omega
  | succ j ih =>
    intro c hc
    have := mx_le (lsF A j) (dF A 0 j)
    rw [lsF]
    by_cases e : c = j
    · rw [e]; omega
    · have := ih c (by omega); omega
theorem lsF_600 {s : Stt} {A : DA} {i : Nat} (hA : DOK s A i) : ∀ j, j ≤ dn A → lsF A j ≤ 600 := by
  intro j
  induction j with
  | zero => intro _; show 0 ≤ 600; omega
  | succ j ih =>
    intro hj
    have := mx_le (lsF A j) (dF A 0 j)
    have h1 := ih (by omega)
    have h2 := (hA.2.2.2 j (by omega)).1
    rw [lsF]; omega
def CD (M : Mem) (s : Stt) (A : DA) (z : Nat) (Q : Nat → Prop) : Prop := M 41 7 = nI (dn A) ∧ M 41 8 = nI (dt A) ∧ M 41 9 = nI (lsF A (dn A)) ∧ M 41 10 = nI (dm A) ∧ M 41 11 = nI (uF A (dn A)) ∧ (∀ c, c < dn A → M 42 c = nI (dF A 1 c) ∧ M 43 c = nI (dF A 0 c) ∧ M 44 c = nI (dF A 2 c) ∧ M 45 c = nI (dF A z c) ∧ M 46 c = nI (dF A (z + 1) c) ∧ M 47 c = bI (bdec (Q c))) ∧ ∀ r, r < 8 → M 48 r = nI (knq s A z Q r)
theorem CD.ext {M : Mem} {s : Stt} {A : DA} {z : Nat} {Q Q' : Nat → Prop} (h : CD M s A z Q) (he : ∀ c, c < dn A → (Q c ↔ Q' c)) : CD M s A z Q' := by
  obtain ⟨h1, h2, h3, h4, h5, h6, h7⟩ := h
  refine ⟨h1, h2, h3, h4, h5, fun c hc => ?_, fun r hr => ?_⟩
  · obtain ⟨a1, a2, a3, a4, a5, a6⟩ := h6 c hc
    exact ⟨a1, a2, a3, a4, a5, by rw [a6, bdec_ext (he c hc)]⟩
  · rw [h7 r hr, knq_ext he]
def cDy : Nat → Nat → Bool := fun p _ => Nat.ble 37 p && Nat.ble p 48
theorem cDy_o {p i : Nat} (h : p < 37 ∨ 48 < p) : cDy p i = false := by
  unfold cDy
  rcases h with h | h
  · rw [nlf h]; rfl
  · rw [nlf h, Bool.and_false]
theorem cDy_in {p i : Nat} (h : cDy p i = false) : p < 37 ∨ 48 < p := by
  rcases Nat.lt_or_ge p 37 with e | e
  · exact Or.inl e
  · rcases Nat.lt_or_ge 48 p with e2 | e2
    · exact Or.inr e2
    · unfold cDy at h
      rw [Nat.ble_eq_true_of_le e, Nat.ble_eq_true_of_le e2] at h
      exact nomatch (show true = false from h)
theorem cRt_Dy {M M1 : Mem} (h : Fr cRt M M1) : Fr cDy M M1 := h.mono (fun p i hq => by
  have := cDy_in hq
  unfold cRt
  rw [nbf (by omega : p ≠ 38), nbf (by omega : p ≠ 37), nbf (by omega : p ≠ 39), nbf (by omega : p ≠ 40)]; rfl)
theorem cDy_scr {M M1 : Mem} (h : Fr cDy M M1) : Fr cScr M M1 := h.mono (fun p i hq => by
  rcases Nat.lt_or_ge p 37 with e | e
  · exact cDy_o (Or.inl e)
  · rcases Nat.lt_or_ge 48 p with e2 | e2
    · exact cDy_o (Or.inr e2)
    · unfold cScr at hq
      rw [Nat.ble_eq_true_of_le e, Nat.ble_eq_true_of_le (by omega : p ≤ 73), nbf (by omega : p ≠ 68)] at hq
      exact nomatch (show true = false from hq))
theorem CD.rt {M M1 : Mem} {s : Stt} {A : DA} {z : Nat} {Q : Nat → Prop} (h : CD M s A z Q) (hF : Fr cRt M M1) : CD M1 s A z Q := by
  obtain ⟨h1, h2, h3, h4, h5, h6, h7⟩ := h
  refine ⟨(hF _ _ rfl).trans h1, (hF _ _ rfl).trans h2, (hF _ _ rfl).trans h3, (hF _ _ rfl).trans h4, (hF _ _ rfl).trans h5, fun c hc => ?_, fun r hr => (hF _ _ rfl).trans (h7 r hr)⟩
  obtain ⟨a1, a2, a3, a4, a5, a6⟩ := h6 c hc
  exact ⟨(hF _ _ rfl).trans a1, (hF _ _ rfl).trans a2, (hF _ _ rfl).trans a3, (hF _ _ rfl).trans a4, (hF _ _ rfl).trans a5, (hF _ _ rfl).trans a6⟩
theorem nar1b : vp_nar .boolean (Int32.ofInt 1) = bI true := by decide
theorem nar0b : vp_nar .boolean (Int32.ofInt 0) = bI false := by decide
section EDC
variable {s : Stt} {A : DA} {z : Nat} {L : LMem} {K : Mem → LMem → Prop}
theorem z256 {i c : Nat} (hA : DOK s A i) (hz : z = 3 ∨ z = 5) (hc : c < dn A) : dF A z c < 256 ∧ dF A (z + 1) c < 256 := by
  have := hA.2.2.2 c hc
  rcases hz with rfl | rfl
  · exact ⟨this.2.2.2.1, this.2.2.2.2.1⟩
  · exact ⟨this.2.2.2.2.2.1, this.2.2.2.2.2.2⟩
theorem hl_end41 {i j : Nat} (hA : DOK s A i) (hn20 : dn A ≤ 20) (hz : z = 3 ∨ z = 5) (hj : j < dn A) {Q : Nat → Prop} {M0 : Mem} {C : Int32 → Mem → LMem → Prop} (h45 : M0 45 j = nI (dF A z j)) (h46 : M0 46 j = nI (dF A (z + 1) j)) (kk : ∀ M, Fr (fun p _ => Nat.beq p 48) M0 M → (∀ r, r < 8 → M 48 r = nI (knq s A z (fun c => Q c ∨ c = j) r)) → C (nI (j + 1)) M L) :
    ∀ (f r : Nat) (M : Mem), r ≤ 8 → 8 < f + r → Fr (fun p _ => Nat.beq p 48) M0 M → (∀ q, q < 8 → M 48 q = nI (if q < r then knq s A z (fun c => Q c ∨ c = j) q else knq s A z Q q)) → PL_X0_endCalls_41 K C f (nI j) (nI r) M L := by
  intro f
  induction f with
  | zero => intro r M h1 h2; omega
  | succ f ih =>
    intro r M h1 h2 hF hA2
    obtain ⟨z1, z2⟩ := z256 hA hz hj
    unfold PL_X0_endCalls_41
    rw [nI_s, nI_s]
    refine pk_le 8 r (fun c1 => ?_) (fun c1 => ⟨pk_in j 20 (by omega), ?_⟩)
    · refine kk M hF (fun q hq => ?_)
      rw [hA2 q hq, if_pos (by omega)]
    · have er : (nI r).toNatClampNeg = r := nI_clamp (by omega)
      have ej : (nI j).toNatClampNeg = j := nI_clamp (by omega)
      rw [ej, er, (hF 45 j rfl).trans h45, (hF 46 j rfl).trans h46, show Int32.ofInt 1 = nI 1 from rfl, bit_at (by omega) (by omega)]
      have hr := hA2 r c1
      rw [if_neg (by omega)] at hr
      cases b : (dF A z j).testBit r with
      | false =>
        refine br_0 rfl (ih (r + 1) M (by omega) (by omega) hF (fun q hq => ?_))
        by_cases e : q = r
        · rw [e, hr, if_pos (by omega), knq_no b]
        · rw [hA2 q hq]
          by_cases e2 : q < r
          · rw [if_pos e2, if_pos (by omega)]
          · rw [if_neg e2, if_neg (by omega)]
      | true =>
        refine br_1 rfl ⟨pk_in r 8 c1, ih (r + 1) _ (by omega) (by omega) (hF.put rfl) (fun q hq => ?_)⟩
        by_cases e : q = r
        · rw [e, mp_s, hr, fa_or, knq_add hj z2 b, if_pos (by omega)]
        · rw [mp_i _ e, hA2 q hq]
          by_cases e2 : q < r
          · rw [if_pos e2, if_pos (by omega)]
          · rw [if_neg e2, if_neg (by omega)]
def cEn : Nat → Nat → Bool := fun p _ => Nat.beq p 47 || Nat.beq p 48
theorem cEn_Dy {M M1 : Mem} (h : Fr cEn M M1) : Fr cDy M M1 := h.mono (fun p i hq => by
  have := cDy_in hq
  unfold cEn
  rw [nbf (by omega : p ≠ 47), nbf (by omega : p ≠ 48)]; rfl)
theorem hl_end2 {i : Nat} (hA : DOK s A i) (hn20 : dn A ≤ 20) (ht : dt A ≤ 1000) (hz : z = 3 ∨ z = 5) {Q : Nat → Prop} (hQ : ∀ c, c < dn A → Q c → dF A 0 c ≤ dt A) {M0 : Mem} (kk : ∀ M, Fr cEn M0 M → CD M s A z (tld A (dt A)) → K M L) :
    ∀ (f j : Nat) (M : Mem), j ≤ dn A → dn A < f + j → Fr cEn M0 M → CD M s A z (fun c => Q c ∨ (c < j ∧ dF A 0 c ≤ dt A)) → PL_X0_endCalls_2 K f (nI j) M L := by
  intro f
  induction f with
  | zero => intro j M h1 h2; omega
  | succ f ih =>
    intro j M h1 h2 hF hD
    obtain ⟨d1, d2, d3, d4, d5, d6, d7⟩ := id hD
    unfold PL_X0_endCalls_2
    refine pk_le (dn A) j (fun c1 => ?_) (fun c1 => ⟨pk_in j 20 (by omega), ?_⟩) d1
    · refine kk M hF (hD.ext (fun c hc => ⟨fun h => h.elim (hQ c hc) (fun h => h.2), fun h => Or.inr ⟨by omega, h⟩⟩))
    · obtain ⟨a1, a2, a3, a4, a5, a6⟩ := d6 j c1
      have ej : (nI j).toNatClampNeg = j := nI_clamp (by omega)
      have ho := (hA.2.2.2 j c1).1
      have skip : (Q j ∨ ¬ dF A 0 j ≤ dt A) → PL_X0_endCalls_2 K f (nI (j + 1)) M L := fun h => ih (j + 1) M (by omega) (by omega) hF (hD.ext (fun c hc => by
        by_cases e : c = j
        · subst e
          refine ⟨fun h2 => h2.elim Or.inl (fun h3 => by omega), fun h2 => h2.elim Or.inl (fun h3 => ?_)⟩
          rcases h with h | h
          · exact Or.inl h
          · exact absurd h3.2 h
        · exact or_congr Iff.rfl ⟨fun h => ⟨by omega, h.2⟩, fun h => ⟨by omega, h.2⟩⟩))
      rw [ej, a6, a2, d2, nI_s]
      refine br_b rfl (fun b => skip (Or.inl ?_)) (fun b => ?_)
      · have := bdec_iff.mp b
        exact this.elim id (fun h => by omega)
      · refine pk_lt _ _ (fun c2 => skip (Or.inr (by omega))) (fun c2 => ?_) rfl rfl (by omega) (by omega)
        have hFp : Fr cEn M (mput M 47 j (vp_nar .boolean (Int32.ofInt 1))) := (Fr.rf _ _).put rfl
        refine hl_end41 (Q := fun c => Q c ∨ (c < j ∧ dF A 0 c ≤ dt A)) (M0 := mput M 47 j (vp_nar .boolean (Int32.ofInt 1))) hA hn20 hz c1 ((mp_p _ (by decide)).trans a4) ((mp_p _ (by decide)).trans a5) (fun M2 hF2 hk2 => ?_) 100000 0 _ (by omega) (by omega) (Fr.rf _ _) (fun q hq => ?_)
        · have o : ∀ p i, p ≠ 48 → M2 p i = (mput M 47 j (vp_nar .boolean (Int32.ofInt 1))) p i := fun p i h => hF2 p i (nbf h)
          have eqv : ∀ c, c < dn A → ((Q c ∨ (c < j ∧ dF A 0 c ≤ dt A)) ∨ c = j ↔ Q c ∨ (c < j + 1 ∧ dF A 0 c ≤ dt A)) := fun c hc => by
            by_cases e : c = j
            · subst e
              exact ⟨fun _ => Or.inr ⟨by omega, c2⟩, fun _ => Or.inr rfl⟩
            · constructor
              · intro h
                rcases h with (h | h) | h
                · exact Or.inl h
                · exact Or.inr ⟨by omega, h.2⟩
                · exact absurd h e
              · intro h
                rcases h with h | h
                · exact Or.inl (Or.inl h)
                · exact Or.inl (Or.inr ⟨by omega, h.2⟩)
          refine ih (j + 1) M2 (by omega) (by omega) ((hF.tr hFp).tr (hF2.mono (fun p i hq => by
            unfold cEn at hq; revert hq; cases Nat.beq p 47 <;> cases Nat.beq p 48 <;> simp))) ⟨?_, ?_, ?_, ?_, ?_, fun c hc => ?_, fun r hr => ?_⟩
          · rw [o _ _ (by decide), mp_p _ (by decide)]; exact d1
          · rw [o _ _ (by decide), mp_p _ (by decide)]; exact d2
          · rw [o _ _ (by decide), mp_p _ (by decide)]; exact d3
          · rw [o _ _ (by decide), mp_p _ (by decide)]; exact d4
          · rw [o _ _ (by decide), mp_p _ (by decide)]; exact d5
          · obtain ⟨g1, g2, g3, g4, g5, g6⟩ := d6 c hc
            rw [o _ _ (by decide), o _ _ (by decide), o _ _ (by decide), o _ _ (by decide), o _ _ (by decide), o _ _ (by decide), mp_p _ (by decide), mp_p _ (by decide), mp_p _ (by decide), mp_p _ (by decide), mp_p _ (by decide)]
            refine ⟨g1, g2, g3, g4, g5, ?_⟩
            by_cases e : c = j
            · subst e
              rw [mp_s, nar1b, bdec_t ((eqv c hc).mp (Or.inr rfl))]
            · rw [mp_i _ e, g6]
              exact congrArg bI (bdec_ext ⟨fun h => (eqv c hc).mp (Or.inl h), fun h => ((eqv c hc).mpr h).elim id (fun h => absurd h e)⟩)
          · rw [hk2 r hr, knq_ext eqv]
        · rw [mp_p _ (by decide), d7 q hq, if_neg (by omega)]
theorem h_end {i : Nat} (hA : DOK s A i) (hn20 : dn A ≤ 20) (ht : dt A ≤ 1000) (hz : z = 3 ∨ z = 5) {Q : Nat → Prop} (hQ : ∀ c, c < dn A → Q c → dF A 0 c ≤ dt A) {M0 : Mem} (hD : CD M0 s A z Q) (kk : ∀ M, Fr cEn M0 M → CD M s A z (tld A (dt A)) → K M L) : P_X0_endCalls M0 L K := by
  unfold P_X0_endCalls
  exact hl_end2 hA hn20 ht hz hQ kk 100000 0 M0 (by omega) (by omega) (Fr.rf _ _) (hD.ext (fun c _ => ⟨Or.inl, fun h => h.elim id (fun h => by omega)⟩))
end EDC
section WHY
variable {s : Stt} {A : DA} {z : Nat} {L : LMem} {np : Nat} {pd : Nat → Nat}
theorem hl_why {i : Nat} (hS : SOK s) (hA : DOK s A i) (hn20 : dn A ≤ 20) (ht : dt A ≤ 1000) {M0 : Mem} (hI : INVs M0 s np pd) (hD : CD M0 s A z (tld A (dt A))) {x y : Nat} (hx : x < 8) (hy : y < 8) {K : Int32 → Mem → LMem → Prop} (kk : ∀ M, Fr cRt M0 M → (dwhy s A x y = 0 → RT M (sH s) (nI (dfull s A)) (dD s A y) x (dD s A y x % 16)) → K (nI (dwhy s A x y)) M L) :
    ∀ (f j : Nat), j ≤ dn A → dn A < f + j → PL_X0_whyNot_12 K f (nI x) (nI y) (nI (dbz A j)) (nI (don A j)) (nI (dtw A j)) (nI j) M0 L := by
  intro f
  induction f with
  | zero => intro j h1 h2; omega
  | succ f ih =>
    intro j h1 h2
    obtain ⟨d1, d2, d3, d4, d5, d6, d7⟩ := id hD
    have hbz := dbz_lt hA j h1
    unfold PL_X0_whyNot_12
    refine pk_le (dn A) j (fun c1 => ?_) (fun c1 => ⟨pk_in j 20 (by omega), ?_⟩) d1
    · have e : j = dn A := by omega
      subst e
      have hfl := dfull_lt hS hA
      refine s_find hI (Int32.ofInt 0) hx hy (fun w1 wI M1 hF1 hI1 hR1 => br_1 rfl ?_) (fun w1 M1 hF1 hI1 => br_0 rfl ?_)
      · rw [show Int32.ofInt 1 = nI 1 from rfl, bit_at (by omega) (by omega), bit_at (by omega) (by omega)]
        cases b1 : (dbz A (dn A)).testBit x with
        | true =>
          have ew : dwhy s A x y = 2 := by unfold dwhy; rw [if_pos w1, if_pos b1]
          have e := kk M1 hF1 (fun h => by omega)
          rw [ew] at e
          exact br_1 rfl e
        | false =>
          refine br_0 rfl ?_
          cases b2 : (dbz A (dn A)).testBit y with
          | true =>
            have ew : dwhy s A x y = 3 := by unfold dwhy; rw [if_pos w1, if_neg (by rw [b1]; exact Bool.false_ne_true), if_pos b2]
            have e := kk M1 hF1 (fun h => by omega)
            rw [ew] at e
            exact br_1 rfl e
          | false =>
            refine br_0 rfl (h_ofKind (kd := 61) hI1.2.1.hc hS.2.1 hS.1 (by decide) ?_)
            have et : f_X9_takenOf M1 (nI (don A (dn A))) (nI (dtw A (dn A))) (nI (mk (fun t => Nat.beq (qk (sH s) t) 61) (qn (sH s)))) = nI (dfull s A) := by
              unfold f_X9_takenOf
              rw [sdf_i, fa_or]; rfl
            rw [et]
            refine s_find hI1 (nI (dfull s A)) hx hy (fun w2 wI2 M2 hF2 hI2 hR2 => br_1 rfl ?_) (fun w2 M2 hF2 hI2 => br_0 rfl ?_)
            · have ew : dwhy s A x y = 0 := by unfold dwhy; rw [if_pos w1, if_neg (by rw [b1]; exact Bool.false_ne_true), if_neg (by rw [b2]; exact Bool.false_ne_true), if_pos w2]
              have e := kk M2 (hF1.tr hF2) (fun _ => hR2)
              rw [ew] at e
              exact e
            · have ew : dwhy s A x y = 4 := by unfold dwhy; rw [if_pos w1, if_neg (by rw [b1]; exact Bool.false_ne_true), if_neg (by rw [b2]; exact Bool.false_ne_true), if_neg w2]
              have e := kk M2 (hF1.tr hF2) (fun h => by omega)
              rw [ew] at e
              exact e
      · have ew : dwhy s A x y = 1 := by unfold dwhy; rw [if_neg w1]
        have e := kk M1 hF1 (fun h => by omega)
        rw [ew] at e
        exact e
    · obtain ⟨a1, a2, a3, a4, a5, a6⟩ := d6 j c1
      have ih2 := ih (j + 1) (by omega) (by omega)
      rw [dbz, don, dtw] at ih2
      rw [nI_clamp (by omega), a6, a1, a3, nI_s]
      refine br_b rfl (fun b => ?_) (fun b => ?_)
      · have hq : dF A 0 j ≤ dt A := bdec_iff.mp b
        rw [if_neg (by omega), if_neg (by omega), if_neg (by omega)] at ih2
        exact ih2
      · have hq : dt A < dF A 0 j := by
          rcases Nat.lt_or_ge (dt A) (dF A 0 j) with e | e
          · exact e
          · rw [bdec_t (show tld A (dt A) j from e)] at b; exact absurd b (by decide)
        rw [if_pos hq, if_pos hq, if_pos hq] at ih2
        rw [fa_or, fa_or, fa_and, fa_or]
        exact ih2
theorem knq_beg {x y m r : Nat} (hm : 1 ≤ m) (hz : z = 3 ∨ z = 5) : knq s (dbeg s A x y m) z (tld (dbeg s A x y m) (dt A)) r = knq s A z (tld A (dt A)) r := by
  refine mk_ext 8 (fun b _ => bdec_ext (or_congr Iff.rfl ⟨fun ⟨c, c1, c2, c3, c4⟩ => ?_, fun ⟨c, c1, c2, c3, c4⟩ => ?_⟩))
  · have c2' : dFb s A x y m 0 c ≤ dt A := c2
    have c3' : (dFb s A x y m z c).testBit r = true := c3
    have c4' : (dFb s A x y m (z + 1) c).testBit b = true := c4
    unfold dFb at c2' c3' c4'
    by_cases e : c = dn A
    · rw [if_pos e] at c2'
      have : dt A + m ≤ dt A := c2'
      omega
    · rw [if_neg e] at c2' c3' c4'
      exact ⟨c, by have : c < dn A + 1 := c1; omega, c2', c3', c4'⟩
  · have e : ¬ c = dn A := by omega
    have n0 : dFb s A x y m 0 c = dF A 0 c := by unfold dFb; rw [if_neg e]
    have n1 : dFb s A x y m z c = dF A z c := by unfold dFb; rw [if_neg e]
    have n2 : dFb s A x y m (z + 1) c = dF A (z + 1) c := by unfold dFb; rw [if_neg e]
    refine ⟨c, by show c < dn A + 1; omega, ?_, ?_, ?_⟩
    · show dFb s A x y m 0 c ≤ dt A
      rw [n0]; exact c2
    · show (dFb s A x y m z c).testBit r = true
      rw [n1]; exact c3
    · show (dFb s A x y m (z + 1) c).testBit b = true
      rw [n2]; exact c4
theorem lsF_beg {x y m : Nat} : ∀ j, j ≤ dn A → lsF (dbeg s A x y m) j = lsF A j ∧ uF (dbeg s A x y m) j = uF A j := by
  intro j
  induction j with
  | zero => intro _; exact ⟨rfl, rfl⟩
  | succ j ih =>
    intro hj
    obtain ⟨h1, h2⟩ := ih (by omega)
    have e : ¬ j = dn A := by omega
    have n0 : dF (dbeg s A x y m) 0 j = dF A 0 j := if_neg e
    have n2 : dF (dbeg s A x y m) 2 j = dF A 2 j := if_neg e
    rw [lsF, lsF, uF, uF, h1, h2, n0, n2]
    exact ⟨rfl, rfl⟩
theorem hl_going {M : Mem} {n t : Nat} {F : Nat → Nat} {K : Int32 → Mem → LMem → Prop} (hn : M 41 7 = nI n) (hn20 : n ≤ 20) (hA : ∀ c, c < n → M 47 c = bI (bdec (F c ≤ t))) (kk : K (nI (cnt (fun c => Nat.blt t (F c)) n)) M L) :
    ∀ (f j : Nat), j ≤ n → n < f + j → PL_X0_goingOn_4 K f (nI (cnt (fun c => Nat.blt t (F c)) j)) (nI j) M L := by
  intro f
  induction f with
  | zero => intro j h1 h2; omega
  | succ f ih =>
    intro j h1 h2
    unfold PL_X0_goingOn_4
    refine pk_le n j (fun c1 => ?_) (fun c1 => ⟨pk_in j 20 (by omega), ?_⟩) hn
    · rw [show j = n by omega]; exact kk
    · have ih2 := ih (j + 1) (by omega) (by omega)
      rw [cnt] at ih2
      rw [nI_clamp (by omega), hA j c1, nI_s, nI_s]
      by_cases c : F j ≤ t
      · rw [bdec_t c]
        rw [if_neg (by rw [show Nat.blt t (F j) = false from nlf (by omega)]; exact Bool.false_ne_true)] at ih2
        exact br_1 rfl ih2
      · rw [bdec_f c]
        rw [if_pos (show Nat.blt t (F j) = true from Nat.ble_eq_true_of_le (by omega))] at ih2
        exact br_0 rfl ih2
end WHY

