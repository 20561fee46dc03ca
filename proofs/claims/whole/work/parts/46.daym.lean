/-! ===== the model's day ===== -/
def MD (M : Mem) (s : Stt) (A : DA) (Q : Nat → Prop) : Prop := M 74 31 = nI (dn A) ∧ M 74 36 = nI (dm A) ∧ (∀ c, c < dn A → M 89 c = nI (dF A 0 c) ∧ M 90 c = nI (dF A 1 c) ∧ M 91 c = nI (dF A 2 c) ∧ M 92 c ||| M 90 c = nI (dF A 3 c) ∧ M 94 c = nI (dF A 4 c) ∧ M 93 c ||| M 90 c = nI (dF A 5 c) ∧ M 95 c = nI (dF A 6 c) ∧ M 96 c = bI (bdec (Q c))) ∧ ∀ r, r < 8 → M 97 r = nI (knq s A 3 Q r) ∧ M 98 r = nI (knq s A 5 Q r)
theorem MD.ext {M : Mem} {s : Stt} {A : DA} {Q Q' : Nat → Prop} (h : MD M s A Q) (he : ∀ c, c < dn A → (Q c ↔ Q' c)) : MD M s A Q' := by
  obtain ⟨h1, h2, h3, h4⟩ := h
  refine ⟨h1, h2, fun c hc => ?_, fun r hr => ?_⟩
  · obtain ⟨a1, a2, a3, a4, a5, a6, a7, a8⟩ := h3 c hc
    exact ⟨a1, a2, a3, a4, a5, a6, a7, by rw [a8, bdec_ext (he c hc)]⟩
  · obtain ⟨a1, a2⟩ := h4 r hr
    exact ⟨by rw [a1, knq_ext he], by rw [a2, knq_ext he]⟩
def cDm : Nat → Nat → Bool := fun p i => (Nat.ble 85 p && Nat.ble p 98) || (Nat.beq p 74 && (Nat.beq i 20 || (Nat.beq i 21 || (Nat.beq i 31 || (Nat.beq i 32 || (Nat.beq i 33 || Nat.beq i 36))))))
theorem cDm_scr {M M1 : Mem} (h : Fr cDm M M1) : Fr cScr M M1 := h.mono (fun p i hq => by
  by_cases e : p = 74
  · subst e
    have hq2 : (false || ((true && (Nat.beq i 20 || (Nat.beq i 21 || (Nat.beq i 31 || (Nat.beq i 32 || (Nat.beq i 33 || (Nat.beq i 36 || (Nat.beq i 48 || Nat.beq i 49)))))))) || false)) = false := hq
    show (false || (true && (Nat.beq i 20 || (Nat.beq i 21 || (Nat.beq i 31 || (Nat.beq i 32 || (Nat.beq i 33 || Nat.beq i 36))))))) = false
    revert hq2
    cases Nat.beq i 20 <;> cases Nat.beq i 21 <;> cases Nat.beq i 31 <;> cases Nat.beq i 32 <;> cases Nat.beq i 33 <;> cases Nat.beq i 36 <;> simp
  · unfold cDm
    rw [nbf e]
    rcases Nat.lt_or_ge p 85 with e1 | e1
    · rw [nlf e1]; rfl
    · rcases Nat.lt_or_ge 98 p with e2 | e2
      · rw [nlf e2, Bool.and_false]; rfl
      · unfold cScr at hq
        rw [nbf e, Nat.ble_eq_true_of_le e1, Nat.ble_eq_true_of_le (by omega : p ≤ 107), nlf (by omega : 73 < p)] at hq
        revert hq
        cases Nat.ble 37 p <;> simp)
theorem cMw_Dm {M M1 : Mem} (h : Fr cMw M M1) : Fr cDm M M1 := h.mono (fun p i hq => by
  unfold cMw
  by_cases e : p = 74
  · subst e
    have hq2 : (false || (true && (Nat.beq i 20 || (Nat.beq i 21 || (Nat.beq i 31 || (Nat.beq i 32 || (Nat.beq i 33 || Nat.beq i 36))))))) = false := hq
    show (false || (false || (false || (true && (Nat.beq i 20 || Nat.beq i 21))))) = false
    revert hq2
    cases Nat.beq i 20 <;> cases Nat.beq i 21 <;> simp
  · have : ¬ (p = 85 ∨ p = 86 ∨ p = 87) := fun e => by
      rcases e with rfl | rfl | rfl <;> exact nomatch (show true = false from hq)
    rw [nbf (by omega : p ≠ 85), nbf (by omega : p ≠ 86), nbf (by omega : p ≠ 87), nbf e]; rfl)
theorem MD.mw {M M1 : Mem} {s : Stt} {A : DA} {Q : Nat → Prop} (h : MD M s A Q) (hF : Fr cMw M M1) : MD M1 s A Q := by
  obtain ⟨h1, h2, h3, h4⟩ := h
  refine ⟨(hF _ _ rfl).trans h1, (hF _ _ rfl).trans h2, fun c hc => ?_, fun r hr => ?_⟩
  · rw [hF 89 c rfl, hF 90 c rfl, hF 91 c rfl, hF 92 c rfl, hF 93 c rfl, hF 94 c rfl, hF 95 c rfl, hF 96 c rfl]
    exact h3 c hc
  · rw [hF 97 r rfl, hF 98 r rfl]; exact h4 r hr
theorem bit_1 {B t : Nat} (hB : B < 2 ^ 31) (ht : t < 32) {X Y : Prop} (f : B.testBit t = true → X) (g : B.testBit t = false → Y) : ((nI B >>> (nI t &&& 31)) &&& nI 1 = nI 1 → X) ∧ (¬ (nI B >>> (nI t &&& 31)) &&& nI 1 = nI 1 → Y) := by
  rw [bit_at hB ht]
  cases b : B.testBit t with
  | true => exact br_t rfl (f b)
  | false => exact br_f (by decide) (g b)
section TEL
variable {s : Stt} {A : DA} {L : LMem} {K : Mem → LMem → Prop}
theorem hl_add97 {i j : Nat} (hA : DOK s A i) (hj : j < dn A) {Q : Nat → Prop} {M0 : Mem} (kk : ∀ M, Fr (fun p _ => Nat.beq p 97) M0 M → (∀ r, r < 8 → M 97 r = nI (knq s A 3 (fun c => Q c ∨ c = j) r)) → K M L) :
    ∀ (f r : Nat) (M : Mem), r ≤ 8 → 8 < f + r → Fr (fun p _ => Nat.beq p 97) M0 M → (∀ q, q < 8 → M 97 q = nI (if q < r then knq s A 3 (fun c => Q c ∨ c = j) q else knq s A 3 Q q)) → PL_X10_add_97_2 K f (nI (dF A 3 j)) (nI (dF A 4 j)) (nI r) M L := by
  intro f
  induction f with
  | zero => intro r M h1 h2; omega
  | succ f ih =>
    intro r M h1 h2 hF hA2
    have z1 := (hA.2.2.2 j hj).2.2.2.1
    have z2 := (hA.2.2.2 j hj).2.2.2.2.1
    unfold PL_X10_add_97_2
    rw [nI_s]
    refine pk_le 8 r (fun c1 => ?_) (fun c1 => ⟨pk_in r 8 c1, ?_⟩)
    · refine kk M hF (fun q hq => ?_)
      rw [hA2 q hq, if_pos (by omega)]
    · have hr := hA2 r c1
      rw [if_neg (by omega)] at hr
      rw [nI_clamp (by omega), hr, show Int32.ofInt 0 = nI 0 from rfl, or0]
      refine bit_1 (by omega) (by omega) (fun b => ih (r + 1) _ (by omega) (by omega) (hF.put rfl) (fun q hq => ?_)) (fun b => ih (r + 1) _ (by omega) (by omega) (hF.put rfl) (fun q hq => ?_))
      · by_cases e : q = r
        · rw [e, mp_s, fa_or, knq_add (z := 3) hj z2 b, if_pos (by omega)]
        · rw [mp_i _ e, hA2 q hq]
          by_cases e2 : q < r
          · rw [if_pos e2, if_pos (by omega)]
          · rw [if_neg e2, if_neg (by omega)]
      · by_cases e : q = r
        · rw [e, mp_s, if_pos (by omega), knq_no b]
        · rw [mp_i _ e, hA2 q hq]
          by_cases e2 : q < r
          · rw [if_pos e2, if_pos (by omega)]
          · rw [if_neg e2, if_neg (by omega)]
theorem hl_add98 {i j : Nat} (hA : DOK s A i) (hj : j < dn A) {Q : Nat → Prop} {M0 : Mem} (kk : ∀ M, Fr (fun p _ => Nat.beq p 98) M0 M → (∀ r, r < 8 → M 98 r = nI (knq s A 5 (fun c => Q c ∨ c = j) r)) → K M L) :
    ∀ (f r : Nat) (M : Mem), r ≤ 8 → 8 < f + r → Fr (fun p _ => Nat.beq p 98) M0 M → (∀ q, q < 8 → M 98 q = nI (if q < r then knq s A 5 (fun c => Q c ∨ c = j) q else knq s A 5 Q q)) → PL_X10_add_98_2 K f (nI (dF A 5 j)) (nI (dF A 6 j)) (nI r) M L := by
  intro f
  induction f with
  | zero => intro r M h1 h2; omega
  | succ f ih =>
    intro r M h1 h2 hF hA2
    have z1 := (hA.2.2.2 j hj).2.2.2.2.2.1
    have z2 := (hA.2.2.2 j hj).2.2.2.2.2.2
    unfold PL_X10_add_98_2
    rw [nI_s]
    refine pk_le 8 r (fun c1 => ?_) (fun c1 => ⟨pk_in r 8 c1, ?_⟩)
    · refine kk M hF (fun q hq => ?_)
      rw [hA2 q hq, if_pos (by omega)]
    · have hr := hA2 r c1
      rw [if_neg (by omega)] at hr
      rw [nI_clamp (by omega), hr, show Int32.ofInt 0 = nI 0 from rfl, or0]
      refine bit_1 (by omega) (by omega) (fun b => ih (r + 1) _ (by omega) (by omega) (hF.put rfl) (fun q hq => ?_)) (fun b => ih (r + 1) _ (by omega) (by omega) (hF.put rfl) (fun q hq => ?_))
      · by_cases e : q = r
        · rw [e, mp_s, fa_or, knq_add (z := 5) hj z2 b, if_pos (by omega)]
        · rw [mp_i _ e, hA2 q hq]
          by_cases e2 : q < r
          · rw [if_pos e2, if_pos (by omega)]
          · rw [if_neg e2, if_neg (by omega)]
      · by_cases e : q = r
        · rw [e, mp_s, if_pos (by omega), knq_no b]
        · rw [mp_i _ e, hA2 q hq]
          by_cases e2 : q < r
          · rw [if_pos e2, if_pos (by omega)]
          · rw [if_neg e2, if_neg (by omega)]
def cTl : Nat → Nat → Bool := fun p _ => Nat.beq p 96 || (Nat.beq p 97 || Nat.beq p 98)
theorem cTl_Dm {M M1 : Mem} (h : Fr cTl M M1) : Fr cDm M M1 := h.mono (fun p i hq => by
  have : ¬ (p = 96 ∨ p = 97 ∨ p = 98) := fun e => by
    rcases e with rfl | rfl | rfl <;> exact nomatch (show true = false from hq)
  unfold cTl
  rw [nbf (by omega : p ≠ 96), nbf (by omega : p ≠ 97), nbf (by omega : p ≠ 98)]; rfl)
theorem hl_tell {i t : Nat} (hA : DOK s A i) (hn20 : dn A ≤ 20) (ht : t ≤ 10000) {Q : Nat → Prop} (hQ : ∀ c, c < dn A → Q c → dF A 0 c ≤ t) {M0 : Mem} (kk : ∀ M, Fr cTl M0 M → MD M s A (tld A t) → K M L) :
    ∀ (f j : Nat) (M : Mem), j ≤ dn A → dn A < f + j → Fr cTl M0 M → MD M s A (fun c => Q c ∨ (c < j ∧ dF A 0 c ≤ t)) → PL_X10_tellBy_2 K f (nI t) (nI j) M L := by
  intro f
  induction f with
  | zero => intro j M h1 h2; omega
  | succ f ih =>
    intro j M h1 h2 hF hD
    obtain ⟨d1, d2, d3, d4⟩ := id hD
    unfold PL_X10_tellBy_2
    refine pk_le (dn A) j (fun c1 => ?_) (fun c1 => ⟨pk_in j 20 (by omega), ?_⟩) d1
    · refine kk M hF (hD.ext (fun c hc => ⟨fun h => h.elim (hQ c hc) (fun h => h.2), fun h => Or.inr ⟨by omega, h⟩⟩))
    · obtain ⟨a1, a2, a3, a4, a5, a6, a7, a8⟩ := d3 j c1
      have ej : (nI j).toNatClampNeg = j := nI_clamp (by omega)
      have ho := (hA.2.2.2 j c1).1
      have skip : (Q j ∨ ¬ dF A 0 j ≤ t) → PL_X10_tellBy_2 K f (nI t) (nI (j + 1)) M L := fun h => ih (j + 1) M (by omega) (by omega) hF (hD.ext (fun c hc => by
        by_cases e : c = j
        · subst e
          refine ⟨fun h2 => h2.elim Or.inl (fun h3 => by omega), fun h2 => h2.elim Or.inl (fun h3 => ?_)⟩
          rcases h with h | h
          · exact Or.inl h
          · exact absurd h3.2 h
        · exact or_congr Iff.rfl ⟨fun h => ⟨by omega, h.2⟩, fun h => ⟨by omega, h.2⟩⟩))
      rw [ej, a8, a1, nI_s]
      refine br_b rfl (fun b => skip (Or.inl ?_)) (fun b => ?_)
      · have := bdec_iff.mp b
        exact this.elim id (fun h => by omega)
      · refine pk_lt _ _ (fun c2 => skip (Or.inr (by omega))) (fun c2 => ?_) rfl rfl (by omega) (by omega)
        rw [a4, a5]
        unfold P_X10_add_97
        have hFp : Fr cTl M (mput M 96 j (vp_nar .boolean (Int32.ofInt 1))) := (Fr.rf _ _).put rfl
        refine hl_add97 (Q := fun c => Q c ∨ (c < j ∧ dF A 0 c ≤ t)) (M0 := mput M 96 j (vp_nar .boolean (Int32.ofInt 1))) hA c1 (fun M2 hF2 hk2 => ?_) 100000 0 _ (by omega) (by omega) (Fr.rf _ _) (fun q hq => ?_)
        · have o : ∀ p i, p ≠ 97 → M2 p i = (mput M 96 j (vp_nar .boolean (Int32.ofInt 1))) p i := fun p i h => hF2 p i (nbf h)
          have b6 : M2 93 j ||| M2 90 j = nI (dF A 5 j) := by
            rw [o _ _ (by decide), o _ _ (by decide), mp_p _ (by decide), mp_p _ (by decide)]; exact a6
          have b7 : M2 95 j = nI (dF A 6 j) := by rw [o _ _ (by decide), mp_p _ (by decide)]; exact a7
          rw [b6, b7]
          unfold P_X10_add_98
          refine hl_add98 (Q := fun c => Q c ∨ (c < j ∧ dF A 0 c ≤ t)) (M0 := M2) hA c1 (fun M3 hF3 hk3 => ?_) 100000 0 _ (by omega) (by omega) (Fr.rf _ _) (fun q hq => ?_)
          · have o3 : ∀ p i, p ≠ 97 → p ≠ 98 → M3 p i = (mput M 96 j (vp_nar .boolean (Int32.ofInt 1))) p i := fun p i h h' => (hF3 p i (nbf h')).trans (o p i h)
            have eqv : ∀ c, c < dn A → ((Q c ∨ (c < j ∧ dF A 0 c ≤ t)) ∨ c = j ↔ Q c ∨ (c < j + 1 ∧ dF A 0 c ≤ t)) := fun c hc => by
              by_cases e : c = j
              · subst e
                exact ⟨fun _ => Or.inr ⟨by omega, c2⟩, fun _ => Or.inr rfl⟩
              · constructor
                · intro h
                  rcases h with (h | h) | h
                  · exact Or.inl h
                  · exact Or.inr ⟨by omega, h.2⟩
                  · exact absurd h e
                · intro h
                  rcases h with h | h
                  · exact Or.inl (Or.inl h)
                  · exact Or.inl (Or.inr ⟨by omega, h.2⟩)
            have up2 : Fr cTl (mput M 96 j (vp_nar .boolean (Int32.ofInt 1))) M3 := (hF2.mono (fun p i hq => by
              unfold cTl at hq; revert hq; cases Nat.beq p 96 <;> cases Nat.beq p 97 <;> cases Nat.beq p 98 <;> simp)).tr (hF3.mono (fun p i hq => by
              unfold cTl at hq; revert hq; cases Nat.beq p 96 <;> cases Nat.beq p 97 <;> cases Nat.beq p 98 <;> simp))
            refine ih (j + 1) M3 (by omega) (by omega) ((hF.tr hFp).tr up2) ⟨?_, ?_, fun c hc => ?_, fun r hr => ?_⟩
            · rw [o3 _ _ (by decide) (by decide), mp_p _ (by decide)]; exact d1
            · rw [o3 _ _ (by decide) (by decide), mp_p _ (by decide)]; exact d2
            · obtain ⟨g1, g2, g3, g4, g5, g6, g7, g8⟩ := d3 c hc
              rw [o3 89 c (by decide) (by decide), o3 90 c (by decide) (by decide), o3 91 c (by decide) (by decide), o3 92 c (by decide) (by decide), o3 93 c (by decide) (by decide), o3 94 c (by decide) (by decide), o3 95 c (by decide) (by decide), o3 96 c (by decide) (by decide)]
              simp (discharger := decide) only [mp_p]
              refine ⟨g1, g2, g3, g4, g5, g6, g7, ?_⟩
              by_cases e : c = j
              · subst e
                rw [mp_s, nar1b, bdec_t ((eqv c hc).mp (Or.inr rfl))]
              · rw [mp_i _ e, g8]
                exact congrArg bI (bdec_ext ⟨fun h => (eqv c hc).mp (Or.inl h), fun h => ((eqv c hc).mpr h).elim id (fun h => absurd h e)⟩)
            · refine ⟨?_, ?_⟩
              · rw [hF3 97 r rfl, hk2 r hr, knq_ext eqv]
              · rw [hk3 r hr, knq_ext eqv]
          · rw [o 98 q (by decide), mp_p _ (by decide), (d4 q hq).2, if_neg (by omega)]
        · rw [mp_p _ (by decide), (d4 q hq).1, if_neg (by omega)]
theorem h_tell {i t : Nat} (hA : DOK s A i) (hn20 : dn A ≤ 20) (ht : t ≤ 10000) {Q : Nat → Prop} (hQ : ∀ c, c < dn A → Q c → dF A 0 c ≤ t) {M0 : Mem} (hD : MD M0 s A Q) (kk : ∀ M, Fr cTl M0 M → MD M s A (tld A t) → K M L) : P_X10_tellBy (nI t) M0 L K := by
  unfold P_X10_tellBy
  exact hl_tell hA hn20 ht hQ kk 100000 0 M0 (by omega) (by omega) (Fr.rf _ _) (hD.ext (fun c _ => ⟨Or.inl, fun h => h.elim id (fun h => by omega)⟩))
end TEL
section MWH
variable {s : Stt} {A : DA} {L : LMem} {np : Nat} {pd : Nat → Nat} {Q : Nat → Prop}
theorem hl_rooms {i : Nat} (hA : DOK s A i) (hn20 : dn A ≤ 20) (ht : dt A ≤ 1000) {M : Mem} (hD : MD M s A Q) {K : Int32 → Mem → LMem → Prop} (kk : K (nI (dbz A (dn A))) M L) :
    ∀ (f j : Nat), j ≤ dn A → dn A < f + j → PL_X10_roomsAt_4 K f (nI (dt A)) (nI (dbz A j)) (nI j) M L := by
  intro f
  induction f with
  | zero => intro j h1 h2; omega
  | succ f ih =>
    intro j h1 h2
    unfold PL_X10_roomsAt_4
    refine pk_le (dn A) j (fun c1 => ?_) (fun c1 => ⟨pk_in j 20 (by omega), ?_⟩) hD.1
    · rw [show j = dn A by omega]; exact kk
    · obtain ⟨a1, a2, -⟩ := hD.2.2.1 j c1
      have ho := (hA.2.2.2 j c1).1
      have ih2 := ih (j + 1) (by omega) (by omega)
      rw [dbz] at ih2
      rw [nI_clamp (by omega), a1, a2, nI_s, show Int32.ofInt 0 = nI 0 from rfl, or0, fa_or]
      refine pk_le _ _ (fun c2 => ?_) (fun c2 => ?_) rfl rfl (by omega) (by omega)
      · rw [if_neg (by omega)] at ih2; exact ih2
      · rw [if_pos c2] at ih2; exact ih2
/-- how many going on hold a tube -/
def dcb (A : DA) (b : Nat) : Nat → Nat := cnt (fun c => Nat.blt (dt A) (dF A 0 c) && (dF A 2 c).testBit b)
theorem dcb_bits (b : Nat) : ∀ j, ((don A j).testBit b = true ↔ 1 ≤ dcb A b j) ∧ ((dtw A j).testBit b = true ↔ 2 ≤ dcb A b j) := by
  intro j
  induction j with
  | zero =>
    rw [don, dtw, Nat.zero_testBit, show dcb A b 0 = 0 from rfl]
    exact ⟨⟨fun h => absurd h Bool.false_ne_true, fun h => by omega⟩, ⟨fun h => absurd h Bool.false_ne_true, fun h => by omega⟩⟩
  | succ j ih =>
    obtain ⟨h1, h2⟩ := ih
    have es : dcb A b (j + 1) = dcb A b j + (if (Nat.blt (dt A) (dF A 0 j) && (dF A 2 j).testBit b) = true then 1 else 0) := rfl
    rw [don, dtw, es]
    by_cases c : dt A < dF A 0 j
    · rw [if_pos c, if_pos c, show Nat.blt (dt A) (dF A 0 j) = true from Nat.ble_eq_true_of_le c, Bool.true_and, Nat.testBit_or, Nat.testBit_or, Nat.testBit_and, Bool.or_eq_true, Bool.or_eq_true, Bool.and_eq_true, h1, h2]
      cases e : (dF A 2 j).testBit b with
      | true => rw [if_pos rfl]; constructor <;> constructor <;> intro h <;> simp at h ⊢ <;> omega
      | false => rw [if_neg Bool.false_ne_true]; constructor <;> constructor <;> intro h <;> simp at h ⊢ <;> omega
    · rw [if_neg c, if_neg c, show Nat.blt (dt A) (dF A 0 j) = false from nlf (by omega), Bool.false_and, if_neg Bool.false_ne_true]
      exact ⟨h1, h2⟩
def dcap (h : Hse) (b : Nat) : Nat := if qk h b = 61 then 2 else 1
theorem dfull_mk {i : Nat} (hS : SOK s) (hA : DOK s A i) : mk (fun b => Nat.ble (dcap (sH s) b) (dcb A b (dn A))) (qn (sH s)) = dfull s A := by
  refine Nat.eq_of_testBit_eq (fun b => ?_)
  have hl := don_lt hA (dn A) (Nat.le_refl _)
  have h12 := hS.2.1
  have p12 : 2 ^ qn (sH s) ≤ 2 ^ 12 := Nat.pow_le_pow_right (by decide) h12
  obtain ⟨h1, h2⟩ := dcb_bits (A := A) b (dn A)
  unfold dfull
  rw [mk_bit, Nat.testBit_or, sdf_bit (by omega)]
  by_cases c : b < qn (sH s)
  · rw [decide_eq_true c, Bool.true_and]
    unfold dbl
    rw [mk_bit, decide_eq_true c, Bool.true_and]
    unfold dcap
    by_cases e : qk (sH s) b = 61
    · rw [if_pos e, e, Nat.beq_refl]
      cases k : (dtw A (dn A)).testBit b with
      | true => rw [Nat.ble_eq_true_of_le (h2.mp k)]; simp
      | false =>
        rw [nlf (Nat.lt_of_not_le (fun h => by rw [h2.mpr h] at k; exact absurd k (by decide)))]
        simp
    · rw [if_neg e, nbf e]
      cases k : (don A (dn A)).testBit b with
      | true => rw [Nat.ble_eq_true_of_le (h1.mp k)]; simp
      | false =>
        have hn : ¬ 1 ≤ dcb A b (dn A) := fun h => by rw [h1.mpr h] at k; exact absurd k (by decide)
        rw [nlf (by omega)]
        cases k2 : (dtw A (dn A)).testBit b with
        | true => exact absurd (h2.mp k2) (by omega)
        | false => rfl
  · rw [decide_eq_false c, Bool.false_and, Nat.testBit_lt_two_pow (Nat.lt_of_lt_of_le hl.1 (Nat.pow_le_pow_right (by decide) (by omega))), Nat.testBit_lt_two_pow (Nat.lt_of_lt_of_le hl.2 (Nat.pow_le_pow_right (by decide) (by omega)))]
    rfl
theorem hl_full18 {i : Nat} (hS : SOK s) (hA : DOK s A i) (hn20 : dn A ≤ 20) (ht : dt A ≤ 1000) {M : Mem} (hD : MD M s A Q) (hM : HM4 M (sH s)) {b v : Nat} (hb : b < qn (sH s)) {C : Int32 → Int32 → Int32 → Mem → LMem → Prop} {K : Int32 → Mem → LMem → Prop} (kk : C (nI (dt A)) (nI (if Nat.ble (dcap (sH s) b) (dcb A b (dn A)) = true then v ||| 2 ^ b else v)) (nI (b + 1)) M L) :
    ∀ (f j : Nat), j ≤ dn A → dn A < f + j → PL_X10_fullAt_18 K C f (nI (dt A)) (nI v) (nI b) (nI (dcb A b j)) (nI j) M L := by
  intro f
  induction f with
  | zero => intro j h1 h2; omega
  | succ f ih =>
    intro j h1 h2
    have h12 := hS.2.1
    have hq := (hS.1.2 b hb).2.2.2.2.2
    have bc : dcb A b j ≤ j := by
      have := cnt_le (p := fun c => Nat.blt (dt A) (dF A 0 c) && (dF A 2 c).testBit b) (q := fun _ => true) j (fun _ _ _ => rfl)
      rw [cnt_all] at this; exact this
    have eb : (nI b).toNatClampNeg = b := nI_clamp (by omega)
    have ejj : (nI j).toNatClampNeg = j := nI_clamp (by omega)
    unfold PL_X10_fullAt_18
    rw [nI_s, nI_s, eb, ejj, (hM.2 b hb).2.2.1, show Int32.ofInt 0 = nI 0 from rfl, or0, show Int32.ofInt 1 = nI 1 from rfl, sh1 (by omega), fa_or]
    refine pk_le (dn A) j (fun c1 => ?_) (fun c1 => ⟨pk_in j 20 (by omega), ?_⟩) hD.1
    · have e : j = dn A := by omega
      subst e
      refine ⟨pk_in b 13 (by omega), ?_⟩
      unfold dcap at kk
      refine pk_eq (qk (sH s) b) 61 (fun c2 => ?_) (fun c2 => ?_) rfl rfl (by omega)
      · rw [if_pos c2] at kk
        refine pk_lt _ 2 (fun c3 => ?_) (fun c3 => ?_) rfl rfl (by omega)
        · rw [if_neg (by rw [nlf c3]; exact Bool.false_ne_true)] at kk; exact kk
        · rw [if_pos (Nat.ble_eq_true_of_le c3)] at kk; exact kk
      · rw [if_neg c2] at kk
        refine pk_lt _ 1 (fun c3 => ?_) (fun c3 => ?_) rfl rfl (by omega)
        · rw [if_neg (by rw [nlf c3]; exact Bool.false_ne_true)] at kk; exact kk
        · rw [if_pos (Nat.ble_eq_true_of_le c3)] at kk; exact kk
    · obtain ⟨a1, a2, a3, -⟩ := hD.2.2.1 j c1
      have ho := (hA.2.2.2 j c1).1
      have p12 : 2 ^ qn (sH s) ≤ 2 ^ 12 := Nat.pow_le_pow_right (by decide) h12
      have h3 := (hA.2.2.2 j c1).2.2.1
      have ih2 := ih (j + 1) (by omega) (by omega)
      have es : dcb A b (j + 1) = dcb A b j + (if (Nat.blt (dt A) (dF A 0 j) && (dF A 2 j).testBit b) = true then 1 else 0) := rfl
      rw [es] at ih2
      rw [a1, a3, bit_at (by omega) (by omega), nI_add, nI_add, Nat.add_zero]
      refine pk_le _ _ (fun c2 => ?_) (fun c2 => ?_) rfl rfl (by omega) (by omega)
      · rw [show Nat.blt (dt A) (dF A 0 j) = false from nlf (by omega), Bool.false_and, if_neg Bool.false_ne_true] at ih2
        exact ih2
      · rw [show Nat.blt (dt A) (dF A 0 j) = true from Nat.ble_eq_true_of_le c2, Bool.true_and] at ih2
        exact ih2
theorem hl_full4 {i : Nat} (hS : SOK s) (hA : DOK s A i) (hn20 : dn A ≤ 20) (ht : dt A ≤ 1000) {M : Mem} (hD : MD M s A Q) (hM : HM4 M (sH s)) {K : Int32 → Mem → LMem → Prop} (kk : K (nI (dfull s A)) M L) :
    ∀ (f b : Nat), b ≤ qn (sH s) → qn (sH s) < f + b → PL_X10_fullAt_4 K f (nI (dt A)) (nI (mk (fun b => Nat.ble (dcap (sH s) b) (dcb A b (dn A))) b)) (nI b) M L := by
  intro f
  induction f with
  | zero => intro b h1 h2; omega
  | succ f ih =>
    intro b h1 h2
    have h12 := hS.2.1
    unfold PL_X10_fullAt_4
    refine pk_le (qn (sH s)) b (fun c1 => ?_) (fun c1 => ?_) hM.1
    · rw [show b = qn (sH s) by omega, dfull_mk hS hA]; exact kk
    · have ih2 := ih (b + 1) (by omega) (by omega)
      rw [mk] at ih2
      exact hl_full18 hS hA hn20 ht hD hM c1 ih2 100000 0 (by omega) (by omega)
theorem h_mwhy {i : Nat} (hS : SOK s) (hA : DOK s A i) (hn20 : dn A ≤ 20) (ht : dt A ≤ 1000) {M : Mem} (hI : INVs M s np pd) (hD : MD M s A Q) {x y : Nat} (hx : x < 8) (hy : y < 8) {K : Int32 → Mem → LMem → Prop} (kk0 : dwhy s A x y = 0 → ∀ M1, Fr cMw M M1 → HM M1 (sH s) → MT M1 (sH s) (nI (dfull s A)) (dD s A y) x (dD s A y x % 16) → K (Int32.ofInt (-6)) M1 L) (kk1 : dwhy s A x y ≠ 0 → ∀ M1, Fr cMw M M1 → K (nI (dwhy s A x y)) M1 L) : P_X10_whyNot (nI x) (nI y) (nI (dt A)) M L K := by
  have hbz := dbz_lt hA (dn A) (Nat.le_refl _)
  unfold P_X10_whyNot
  refine s_lay hI (Int32.ofInt 0) hx hy (fun w1 wI M1 hF1 hI1 hM1 hR1 => br_1 rfl ?_) (fun w1 M1 hF1 hI1 h0 => br_0 rfl ?_)
  · unfold P_X10_roomsAt
    have hD1 := hD.mw hF1
    refine hl_rooms hA hn20 ht hD1 ?_ 100000 0 (by omega) (by omega)
    refine bit_1 (by omega) (by omega) (fun b1 => ?_) (fun b1 => bit_1 (by omega) (by omega) (fun b2 => ?_) (fun b2 => ?_))
    · have ew : dwhy s A x y = 2 := by unfold dwhy; rw [if_pos w1, if_pos b1]
      have e := kk1 (by omega) M1 hF1
      rw [ew] at e
      exact e
    · have ew : dwhy s A x y = 3 := by unfold dwhy; rw [if_pos w1, if_neg (by rw [b1]; exact Bool.false_ne_true), if_pos b2]
      have e := kk1 (by omega) M1 hF1
      rw [ew] at e
      exact e
    · unfold P_X10_fullAt
      have h12 := hS.2.1
      refine hl_full4 hS hA hn20 ht hD1 hI1.2.2.1.hm ?_ 100000 0 (by omega) (by omega)
      refine s_lay hI1 (nI (dfull s A)) hx hy (fun w2 wI2 M2 hF2 hI2 hM2 hR2 => br_1 rfl ?_) (fun w2 M2 hF2 hI2 h0 => br_0 rfl ?_)
      · have ew : dwhy s A x y = 0 := by unfold dwhy; rw [if_pos w1, if_neg (by rw [b1]; exact Bool.false_ne_true), if_neg (by rw [b2]; exact Bool.false_ne_true), if_pos w2]
        exact kk0 ew M2 (hF1.tr hF2) hM2 hR2
      · have ew : dwhy s A x y = 4 := by unfold dwhy; rw [if_pos w1, if_neg (by rw [b1]; exact Bool.false_ne_true), if_neg (by rw [b2]; exact Bool.false_ne_true), if_neg w2]
        have e := kk1 (by omega) M2 (hF1.tr hF2)
        rw [ew] at e
        exact e
  · have ew : dwhy s A x y = 1 := by unfold dwhy; rw [if_neg w1]
    have e := kk1 (by omega) M1 hF1
    rw [ew] at e
    exact e
end MWH
