/-! ===== the model goes through a day; judge, day, knows ===== -/
section MGO
variable {s : Stt} {A : DA} {L : LMem} {np : Nat} {pd : Nat → Nat}
theorem hl_mgo {M : Mem} {n t d : Nat} {F : Nat → Nat} {v1 v2 v4 : Int32} {K : Mem → LMem → Prop} (hn : M 74 31 = nI n) (hn20 : n ≤ 20) (ht : t ≤ 1000) (hd : d ≤ 20) (h36 : M 74 36 = nI d) (hF : ∀ c, c < n → M 89 c = nI (F c) ∧ F c ≤ 1000) (kk : K (mput M 74 36 (nI (mx d (cnt (fun c => Nat.blt t (F c)) n)))) L) :
    ∀ (f j : Nat), j ≤ n → n < f + j → PL_X10_begin_139 K f v1 v2 (nI t) v4 (nI (cnt (fun c => Nat.blt t (F c)) j)) (nI j) M L := by
  intro f
  induction f with
  | zero => intro j h1 h2; omega
  | succ f ih =>
    intro j h1 h2
    have bc : cnt (fun c => Nat.blt t (F c)) j ≤ j := by
      have := cnt_le (p := fun c => Nat.blt t (F c)) (q := fun _ => true) j (fun _ _ _ => rfl)
      rw [cnt_all] at this; exact this
    unfold PL_X10_begin_139
    refine pk_le n j (fun c1 => ?_) (fun c1 => ⟨pk_in j 20 (by omega), ?_⟩) hn
    · have e : j = n := by omega
      subst e
      rw [h36]
      unfold mx at kk
      refine pk_le _ _ (fun c2 => ?_) (fun c2 => ?_) rfl rfl (by omega) (by omega)
      · rw [if_neg (by omega)] at kk; exact kk
      · rw [if_pos c2] at kk; exact kk
    · have ih2 := ih (j + 1) (by omega) (by omega)
      rw [cnt] at ih2
      obtain ⟨f1, f2⟩ := hF j c1
      rw [nI_clamp (by omega), f1, nI_s, show Int32.ofInt 0 = nI 0 from rfl, show Int32.ofInt 1 = nI 1 from rfl, nI_add, nI_add]
      refine pk_le _ _ (fun c2 => ?_) (fun c2 => ?_) rfl rfl (by omega) (by omega)
      · rw [if_neg (by rw [show Nat.blt t (F j) = false from nlf (by omega)]; exact Bool.false_ne_true)] at ih2; exact ih2
      · rw [if_pos (show Nat.blt t (F j) = true from Nat.ble_eq_true_of_le c2)] at ih2; exact ih2
theorem h_mbegin {i : Nat} (hS : SOK s) (hA : DOK s A i) (hi : i ≤ 57) {M : Mem} (hD : MD M s A (tld A (dt A))) (hsto : M 74 6 = nI (sG s 1)) {x y m : Nat} (hx : x < 8) (hy : y < 8) (hm1 : 1 ≤ m) (hm : m ≤ 9) (hw : dwhy s A x y = 0) (hM : HM M (sH s)) (hT : MT M (sH s) (nI (dfull s A)) (dD s A y) x (dD s A y x % 16)) {K : Mem → LMem → Prop} (kk : ∀ M1, Fr cDm M M1 → M1 74 32 = M 74 32 → M1 74 33 = M 74 33 → MD M1 s (dbeg s A x y m) (tld (dbeg s A x y m) (dt A)) → K M1 L) : P_X10_begin (nI x) (nI y) (nI (dt A)) (nI m) M L K := by
  obtain ⟨d1, d2, d3, d4⟩ := id hD
  obtain ⟨a1, a2, a3, a4⟩ := id hA
  obtain ⟨-, -, -, w4⟩ := why0 hw
  have cI : dD s A y x < 1048576 := fin_of hS w4
  have hW : WOK (sH s) (nI (dfull s A)) (dD s A y) x (dD s A y x % 16) := s_wok hS hx hy cI
  have h12 := hS.2.1
  have hn : dn A < 20 := by omega
  have en : (nI (dn A)).toNatClampNeg = dn A := nI_clamp (by omega)
  have ex : (nI x).toNatClampNeg = x := nI_clamp (by omega)
  have hin : vp_in (nI (dn A)) 20 := pk_in (dn A) 20 hn
  have hwb : wb (sH s) (nI (dfull s A)) (dD s A y) x (dD s A y x % 16) = nI (dtk s A x y) := wb_n _ (fun i hi => by have := hW.2.1 i hi; omega)
  have mtk : ∀ {M1 M2 : Mem}, Fr (fun p _ => Nat.ble 88 p && Nat.ble p 98) M1 M2 → HM M1 (sH s) ∧ MT M1 (sH s) (nI (dfull s A)) (dD s A y) x (dD s A y x % 16) → HM M2 (sH s) ∧ MT M2 (sH s) (nI (dfull s A)) (dD s A y) x (dD s A y x % 16) := by
    intro M1 M2 hF ⟨h1, t1, t2, t3⟩
    exact ⟨h1.fr hF rfl (fun _ => rfl) (fun _ => rfl) (fun _ => rfl) (fun _ => rfl), (hF 74 20 rfl).trans t1, fun j hj => (hF 86 j rfl).trans (t2 j hj), fun j hj => (hF 87 j rfl).trans (t3 j hj)⟩
  unfold P_X10_begin
  rw [d1, en, nI_add, show Int32.ofInt 1 = nI 1 from rfl, sh1 (by omega), sh1 (by omega), fa_or]
  refine ⟨hin, ?_⟩
  have f1 : Fr (fun p _ => Nat.ble 88 p && Nat.ble p 98) M (mput (mput (mput M 88 (dn A) (nI (dt A))) 89 (dn A) (nI (dt A + m))) 90 (dn A) (nI (2 ^ x ||| 2 ^ y))) := (((Fr.rf _ _).put rfl).put rfl).put rfl
  have k1 := mtk f1 ⟨hM, hT⟩
  refine h_wayBits k1.2 hW.1 ?_
  rw [hwb]
  have f2 : Fr (fun p _ => Nat.ble 88 p && Nat.ble p 98) M (mput (mput (mput (mput M 88 (dn A) (nI (dt A))) 89 (dn A) (nI (dt A + m))) 90 (dn A) (nI (2 ^ x ||| 2 ^ y))) 91 (dn A) (nI (dtk s A x y))) := f1.put rfl
  have k2 := mtk f2 ⟨hM, hT⟩
  have es : (mput (mput (mput M 88 (dn A) (nI (dt A))) 89 (dn A) (nI (dt A + m))) 90 (dn A) (nI (2 ^ x ||| 2 ^ y))) 74 6 = nI (sG s 1) := (f1 74 6 rfl).trans hsto
  have e31 : (mput (mput (mput M 88 (dn A) (nI (dt A))) 89 (dn A) (nI (dt A + m))) 90 (dn A) (nI (2 ^ x ||| 2 ^ y))) 74 31 = nI (dn A) := (f1 74 31 rfl).trans d1
  rw [es, e31, en]
  refine h_heardBy hS.1 k2.1 k2.2 hW ⟨hin, ?_⟩
  rw [(hvn_eq hS.2.2.2.1 hW.2.2 _ (Nat.le_refl _)).1]
  have f3 : Fr (fun p _ => Nat.ble 88 p && Nat.ble p 98) M (mput (mput (mput (mput (mput M 88 (dn A) (nI (dt A))) 89 (dn A) (nI (dt A + m))) 90 (dn A) (nI (2 ^ x ||| 2 ^ y))) 91 (dn A) (nI (dtk s A x y))) 92 (dn A) (nI (dhv s A x y (sG s 1)))) := f2.put rfl
  have k3 := mtk f3 ⟨hM, hT⟩
  have e31b : (mput (mput (mput (mput M 88 (dn A) (nI (dt A))) 89 (dn A) (nI (dt A + m))) 90 (dn A) (nI (2 ^ x ||| 2 ^ y))) 91 (dn A) (nI (dtk s A x y))) 74 31 = nI (dn A) := (f2 74 31 rfl).trans d1
  have e31c : (mput (mput (mput (mput (mput M 88 (dn A) (nI (dt A))) 89 (dn A) (nI (dt A + m))) 90 (dn A) (nI (2 ^ x ||| 2 ^ y))) 91 (dn A) (nI (dtk s A x y))) 92 (dn A) (nI (dhv s A x y (sG s 1)))) 74 31 = nI (dn A) := (f3 74 31 rfl).trans d1
  rw [e31b]
  refine h_heardBy (sto := nI 0) hS.1 k3.1 k3.2 hW ⟨hin, pk_in x 8 hx, ?_⟩
  rw [(hvn_eq (sto := 0) (by decide) hW.2.2 _ (Nat.le_refl _)).1]
  have e97 : (mput (mput (mput (mput (mput M 88 (dn A) (nI (dt A))) 89 (dn A) (nI (dt A + m))) 90 (dn A) (nI (2 ^ x ||| 2 ^ y))) 91 (dn A) (nI (dtk s A x y))) 92 (dn A) (nI (dhv s A x y (sG s 1)))) 97 x = nI (knq s A 3 (tld A (dt A)) x) := by
    simp (discharger := decide) only [mp_p]; exact (d4 x hx).1
  have e98 : (mput (mput (mput (mput (mput M 88 (dn A) (nI (dt A))) 89 (dn A) (nI (dt A + m))) 90 (dn A) (nI (2 ^ x ||| 2 ^ y))) 91 (dn A) (nI (dtk s A x y))) 92 (dn A) (nI (dhv s A x y (sG s 1)))) 98 x = nI (knq s A 5 (tld A (dt A)) x) := by
    simp (discharger := decide) only [mp_p]; exact (d4 x hx).2
  rw [e31c, en, ex, e97, e98, nI_add, nar0b]
  refine ⟨hin, ?_⟩
  have ed0 : hvn (sH s) (nI (dfull s A)) (dD s A y) x (dD s A y x % 16) 0 (dD s A y x % 16) = dhv s A x y 0 := rfl
  rw [ed0]
  generalize hM1 : mput (mput (mput (mput (mput (mput (mput (mput (mput (mput M 88 (dn A) (nI (dt A))) 89 (dn A) (nI (dt A + m))) 90 (dn A) (nI (2 ^ x ||| 2 ^ y))) 91 (dn A) (nI (dtk s A x y))) 92 (dn A) (nI (dhv s A x y (sG s 1)))) 93 (dn A) (nI (dhv s A x y 0))) 94 (dn A) (nI (knq s A 3 (tld A (dt A)) x))) 95 (dn A) (nI (knq s A 5 (tld A (dt A)) x))) 96 (dn A) (bI false)) 74 31 (nI (dn A + 1)) = M1
  have hF1 : Fr cDm M M1 := by
    rw [← hM1]
    exact ((((((((((Fr.rf _ _).put rfl).put rfl).put rfl).put rfl).put rfl).put rfl).put rfl).put rfl).put rfl).put rfl
  have g31 : M1 74 31 = nI (dn A + 1) := by rw [← hM1, mp_s]
  have g74 : ∀ i, i ≠ 31 → M1 74 i = M 74 i := fun i h => by
    rw [← hM1, mp_i _ h]
    simp (discharger := decide) only [mp_p]
  have gc : ∀ c, c < dn A + 1 → M1 89 c = nI (dF (dbeg s A x y m) 0 c) ∧ M1 90 c = nI (dF (dbeg s A x y m) 1 c) ∧ M1 91 c = nI (dF (dbeg s A x y m) 2 c) ∧ M1 92 c ||| M1 90 c = nI (dF (dbeg s A x y m) 3 c) ∧ M1 94 c = nI (dF (dbeg s A x y m) 4 c) ∧ M1 93 c ||| M1 90 c = nI (dF (dbeg s A x y m) 5 c) ∧ M1 95 c = nI (dF (dbeg s A x y m) 6 c) ∧ M1 96 c = bI (bdec (dF (dbeg s A x y m) 0 c ≤ dt A)) := by
    intro c hc
    rw [← hM1]
    simp (discharger := decide) only [mp_p]
    by_cases e : c = dn A
    · rw [e]
      simp only [mp_s]
      rw [dF_new, dF_new, dF_new, dF_new, dF_new, dF_new, dF_new, fa_or, fa_or]
      refine ⟨rfl, rfl, rfl, rfl, rfl, rfl, rfl, ?_⟩
      have e0 : dval s A x y m 0 = dt A + m := rfl
      rw [e0, bdec_f (by omega)]
    · rw [mp_i _ e, mp_i _ e, mp_i _ e, mp_i _ e, mp_i _ e, mp_i _ e, mp_i _ e, mp_i _ e, dF_old e, dF_old e, dF_old e, dF_old e, dF_old e, dF_old e, dF_old e]
      simp (discharger := decide) only [mp_p]
      exact d3 c (by omega)
  have gk : ∀ r, r < 8 → M1 97 r = nI (knq s (dbeg s A x y m) 3 (tld (dbeg s A x y m) (dt A)) r) ∧ M1 98 r = nI (knq s (dbeg s A x y m) 5 (tld (dbeg s A x y m) (dt A)) r) := by
    intro r hr
    rw [knq_beg hm1 (Or.inl rfl), knq_beg hm1 (Or.inr rfl), ← hM1]
    simp (discharger := decide) only [mp_p]
    exact d4 r hr
  have hAb := dbeg_ok hS hA hx hy hm hi hw
  refine hl_mgo (t := dt A) (d := dm A) (F := fun c => dF (dbeg s A x y m) 0 c) g31 (by omega) (by omega) a3 ((g74 36 (by decide)).trans d2) (fun c hc => ⟨(gc c hc).1, by have := (hAb.2.2.2 c hc).1; omega⟩) ?_ 100000 0 (by omega) (by omega)
  refine kk _ (hF1.put rfl) ?_ ?_ ⟨?_, ?_, fun c hc => ?_, fun r hr => ?_⟩
  · rw [mp_i _ (by decide)]; exact g74 32 (by decide)
  · rw [mp_i _ (by decide)]; exact g74 33 (by decide)
  · rw [mp_i _ (by decide)]; exact g31
  · rw [mp_s]; rfl
  · simp (discharger := decide) only [mp_p]
    exact gc c hc
  · simp (discharger := decide) only [mp_p]
    exact gk r hr
theorem hl_goDay {M0 : Mem} (hS : SOK s) (hI : INVs M0 s np pd) (hP0 : PdM M0 np pd) (R : DA × Nat) {K : Int32 → Mem → LMem → Prop} (kk0 : R.2 = 0 → ∀ M, Fr cDm M0 M → M 74 32 = Int32.ofInt (-6) → M 74 33 = Int32.ofInt (-6) → MD M s R.1 (fun _ => True) → DOK s R.1 60 → K (Int32.ofInt 1) M L) (kk1 : R.2 ≠ 0 → ∀ M, Fr cDm M0 M → M 74 32 = nI (dn R.1) → M 74 33 = nI R.2 → K (Int32.ofInt 0) M L) :
    ∀ (f k i g : Nat) (A : DA) (Q : Nat → Prop) (M : Mem), np < f + i → np < g + i → i ≤ np → Fr cDm M0 M → DOK s A i → (∀ c, c < dn A → Q c → dF A 0 c ≤ dt A) → MD M s A Q → M 74 32 = Int32.ofInt (-6) → M 74 33 = Int32.ofInt (-6) → dfm np pd (np - i) 0 k i = Int32.ofInt (-6) → R = dX s np pd g i A → PL_X10_goDay_64 K f (nI (dt A)) (nI i) M L := by
  intro f
  induction f with
  | zero => intro k i g A Q M h1 h2 h3; omega
  | succ f ih =>
    intro k i g A Q M hf hg hi hF hA hQ hD h32 h33 hdf hR
    have hIM := hI.scr (cDm_scr hF)
    have p60 := hP0.2.1
    have h16 : M 74 16 = nI np := (hF 74 16 rfl).trans hP0.1
    have hpd : ∀ j, j < np → M 84 j = nI (pd j) := fun j hj => (hF 84 j rfl).trans (hP0.2.2 j hj).1
    have hn20 : dn A ≤ 20 := by have := hA.2.1; omega
    unfold PL_X10_goDay_64
    refine pk_le np i (fun c1 => ?_) (fun c1 => ⟨pk_in i 60 (by omega), ?_⟩) h16
    · rw [dX_end c1] at hR
      subst hR
      refine h_tell (t := 9999) hA hn20 (by decide) (fun c hc h => by have := (hA.2.2.2 c hc).1; omega) hD (fun M1 hF1 hD1 => kk0 rfl M1 (hF.tr (cTl_Dm hF1)) ((hF1 74 32 rfl).trans h32) ((hF1 74 33 rfl).trans h33) (hD1.ext (fun c hc => ⟨fun _ => trivial, fun _ => ?_⟩)) ?_)
      · have := (hA.2.2.2 c hc).1
        show dF A 0 c ≤ 9999
        omega
      · obtain ⟨a1, a2, a3, a4⟩ := hA
        exact ⟨by show dt A ≤ 9 * 60; omega, by show 3 * dn A ≤ 60; omega, a3, a4⟩
    · obtain ⟨g, rfl⟩ : ∃ g', g = g' + 1 := ⟨g - 1, by omega⟩
      obtain ⟨k20, hpart⟩ := day_part hdf c1 p60
      have e1 : nI i + Int32.ofInt 1 = nI (i + 1) := nI_add i 1
      have e2 : nI i + Int32.ofInt 2 = nI (i + 2) := nI_add i 2
      have e3 : nI i + Int32.ofInt 3 = nI (i + 3) := nI_add i 3
      have ei : (nI i).toNatClampNeg = i := nI_clamp (by omega)
      have ei1 : (nI (i + 1)).toNatClampNeg = i + 1 := nI_clamp (by omega)
      have ei2 : (nI (i + 2)).toNatClampNeg = i + 2 := nI_clamp (by omega)
      have b126 := (hP0.2.2 i c1).2.2
      rw [ei, e1, e2, e3, ei1, ei2, hpd i c1]
      refine pk_eq _ 46 (fun c3 => ?_) (fun c3 => ?_) rfl rfl (by omega)
      · rcases hpart with ⟨-, q1, q2, q3⟩ | ⟨q0, -⟩
        · have hd9 := dgt_in2 q2
          have e48 : nI (pd (i + 1)) - Int32.ofInt 48 = nI (pd (i + 1) - 48) := pk_sub (b := 48) (by omega)
          rw [hpd _ q1, e48, nI_add]
          rw [dX_dot c1 c3] at hR
          exact ⟨pk_in (i + 1) 60 (by omega), ih (k + 1) (i + 2) g (dtick A (pd (i + 1) - 48)) Q M (by omega) (by omega) (by omega) hF (dtick_ok hA (by omega)) (fun c hc h => by
            have h' := hQ c hc h
            show dF A 0 c ≤ dt A + _
            omega) hD h32 h33 q3 hR⟩
        · exact absurd c3 q0
      · rcases hpart with ⟨q0, -⟩ | ⟨-, q1, q2, q3, q4, q5, q6⟩
        · exact absurd q0 c3
        · have l1 := ltr_in q2
          have l2 := ltr_in q3
          have hd9 := dgt_in2 q5
          have hdt := hA.1
          refine h_tell (t := dt A) hA hn20 (by omega) hQ hD (fun M1 hF1 hD1 => ⟨pk_in (i + 1) 60 (by omega), ?_⟩)
          have hI1 := hIM.scr (cDm_scr (cTl_Dm hF1))
          have hp1 : ∀ j, j < np → M1 84 j = nI (pd j) := fun j hj => (hF1 84 j rfl).trans (hpd j hj)
          have ea : nI (pd i) - Int32.ofInt 65 = nI (pd i - 65) := pk_sub (b := 65) l1.1
          have eb : nI (pd (i + 1)) - Int32.ofInt 65 = nI (pd (i + 1) - 65) := pk_sub (b := 65) l2.1
          have ec : nI (pd (i + 2)) - Int32.ofInt 48 = nI (pd (i + 2) - 48) := pk_sub (b := 48) (by omega)
          rw [hp1 i c1, hp1 (i + 1) (by omega), ea, eb]
          refine h_mwhy hS hA hn20 (by omega) hI1 hD1 (by omega) (by omega) (fun cw M2 hF2 hM2 hT2 => br_t neg6 ⟨pk_in (i + 2) 60 (by omega), ?_⟩) (fun cw M2 hF2 => ?_)
          · have hI2 := hI1.scr (cMw_scr hF2)
            have hp2 : ∀ j, j < np → M2 84 j = nI (pd j) := fun j hj => (hF2 84 j rfl).trans (hp1 j hj)
            rw [hp2 i c1, hp2 (i + 1) (by omega), hp2 (i + 2) (by omega), ea, eb, ec]
            rw [dX_go c1 c3 cw] at hR
            refine h_mbegin hS hA (by omega) (hD1.mw hF2) hI2.2.2.1.sto (by omega) (by omega) (by omega) (by omega) cw hM2 hT2 (fun M3 hF3 g32 g33 hD3 => ?_)
            have hFx := hF.tr ((cTl_Dm hF1).tr ((cMw_Dm hF2).tr hF3))
            have x32 : M2 74 32 = Int32.ofInt (-6) := by rw [hF2 74 32 rfl, hF1 74 32 rfl]; exact h32
            have x33 : M2 74 33 = Int32.ofInt (-6) := by rw [hF2 74 33 rfl, hF1 74 33 rfl]; exact h33
            exact ih (k + 1) (i + 3) g (dbeg s A (pd i - 65) (pd (i + 1) - 65) (pd (i + 2) - 48)) _ M3 (by omega) (by omega) (by omega) hFx (dbeg_ok hS hA (by omega) (by omega) (by omega) (by omega) cw) (fun c _ h => h) hD3 (g32.trans x32) (g33.trans x33) q6 hR
          · have hw4 := dwhy_le (s := s) (A := A) (pd i - 65) (pd (i + 1) - 65)
            rw [dX_no c1 c3 cw] at hR
            subst hR
            refine br_f (nI_pos (by omega)) (kk1 cw _ ((hF.tr ((cTl_Dm hF1).tr (cMw_Dm hF2))).put rfl |>.put rfl) ?_ (mp_s _ _ _ _))
            rw [mp_i _ (by decide), mp_s, hF2 74 31 rfl]
            exact hD1.1
theorem knq_0 {z : Nat} {Q : Nat → Prop} (hS : SOK s) {r : Nat} (hr : r < 8) : knq s dA0 z Q r = sN s r := by
  have h256 := hS.2.2.2.2.2.2.2.1 r hr
  refine Nat.eq_of_testBit_eq (fun b => ?_)
  unfold knq
  rw [mk_bit]
  by_cases c : b < 8
  · rw [decide_eq_true c, Bool.true_and]
    cases e : (sN s r).testBit b with
    | true => exact bdec_t (Or.inl rfl)
    | false => exact bdec_f (fun h => h.elim (fun h => absurd h Bool.false_ne_true) (fun ⟨c, c1, _⟩ => Nat.not_lt_zero c c1))
  · rw [decide_eq_false c, bit_hi (n := 8) h256 (by omega)]; rfl
theorem DOK_0 : DOK s dA0 0 := ⟨Nat.zero_le _, Nat.le_refl _, Nat.zero_le _, fun c hc => absurd hc (Nat.not_lt_zero c)⟩
theorem hl_go24 {M0 : Mem} (hS : SOK s) (hI : INVs M0 s np pd) (hdf : dfm np pd np 0 0 0 = Int32.ofInt (-6)) {K : Int32 → Mem → LMem → Prop} (R : DA × Nat) (hR : R = dX s np pd 100 0 dA0) (kk0 : R.2 = 0 → ∀ M, Fr cDm M0 M → M 74 32 = Int32.ofInt (-6) → M 74 33 = Int32.ofInt (-6) → MD M s R.1 (fun _ => True) → DOK s R.1 60 → K (Int32.ofInt 1) M L) (kk1 : R.2 ≠ 0 → ∀ M, Fr cDm M0 M → M 74 32 = nI (dn R.1) → M 74 33 = nI R.2 → K (Int32.ofInt 0) M L) :
    ∀ (f r : Nat) (M : Mem), r ≤ 8 → 8 < f + r → Fr cDm M0 M → M 74 31 = nI 0 → M 74 32 = Int32.ofInt (-6) → M 74 33 = Int32.ofInt (-6) → M 74 36 = nI 0 → (∀ q, q < r → M 97 q = nI (sN s q) ∧ M 98 q = nI (sN s q)) → PL_X10_goDay_24 K f (nI r) M L := by
  intro f
  induction f with
  | zero => intro r M h1 h2; omega
  | succ f ih =>
    intro r M h1 h2 hF h31 h32 h33 h36 hA
    unfold PL_X10_goDay_24
    refine pk_le 8 r (fun c1 => ?_) (fun c1 => ⟨pk_in r 8 c1, ?_⟩)
    · have hP := hI.2.2.2.1.m
      have p60 := hP.2.1
      refine hl_goDay (M0 := M0) hS hI hP R kk0 kk1 100000 0 0 100 dA0 (fun _ => False) M (by omega) (by omega) (by omega) hF DOK_0 (fun c _ h => h.elim) ⟨h31, h36, fun c hc => absurd hc (Nat.not_lt_zero c), fun q hq => ?_⟩ h32 h33 hdf hR
      obtain ⟨b1, b2⟩ := hA q (by omega)
      exact ⟨by rw [b1, knq_0 hS hq], by rw [b2, knq_0 hS hq]⟩
    · have hk : M 79 r = nI (sN s r) := (hF 79 r rfl).trans (hI.2.2.1.kno r c1)
      rw [nI_clamp (by omega), hk, nI_s]
      refine ih (r + 1) _ (by omega) (by omega) ((hF.put rfl).put rfl) ?_ ?_ ?_ ?_ (fun q hq => ?_)
      · simp (discharger := decide) only [mp_p]; exact h31
      · simp (discharger := decide) only [mp_p]; exact h32
      · simp (discharger := decide) only [mp_p]; exact h33
      · simp (discharger := decide) only [mp_p]; exact h36
      · simp (discharger := decide) only [mp_p]
        by_cases e : q = r
        · rw [e, mp_s, mp_s]; exact ⟨rfl, rfl⟩
        · rw [mp_i _ e, mp_i _ e]
          simp (discharger := decide) only [mp_p]
          exact hA q (by omega)
theorem h_goDay {M0 : Mem} (hS : SOK s) (hI : INVs M0 s np pd) (hdf : dfm np pd np 0 0 0 = Int32.ofInt (-6)) {K : Int32 → Mem → LMem → Prop} (R : DA × Nat) (hR : R = dX s np pd 100 0 dA0) (kk0 : R.2 = 0 → ∀ M, Fr cDm M0 M → M 74 32 = Int32.ofInt (-6) → M 74 33 = Int32.ofInt (-6) → MD M s R.1 (fun _ => True) → DOK s R.1 60 → K (Int32.ofInt 1) M L) (kk1 : R.2 ≠ 0 → ∀ M, Fr cDm M0 M → M 74 32 = nI (dn R.1) → M 74 33 = nI R.2 → K (Int32.ofInt 0) M L) : P_X10_goDay M0 L K := by
  unfold P_X10_goDay
  refine hl_go24 hS hI hdf R hR kk0 kk1 100000 0 _ (by omega) (by omega) (((((Fr.rf _ _).put rfl).put rfl).put rfl).put rfl) ?_ ?_ ?_ (mp_s _ _ _ _) (fun q hq => by omega)
  · simp (discharger := decide) only [mp_i, mp_s]; rfl
  · simp (discharger := decide) only [mp_i, mp_s]
  · simp (discharger := decide) only [mp_i, mp_s]
theorem h_run {M0 : Mem} {z sto : Nat} (hS : SOK s) (hsto : sto < 256) (hz : (z = 3 ∧ sto = sG s 1) ∨ (z = 5 ∧ sto = 0)) (hI : INVs M0 s np pd) (hdf : dfm np pd np 0 0 0 = Int32.ofInt (-6)) {K : Mem → LMem → Prop} (R : DA × Nat) (hR : R = dX s np pd 100 0 dA0) (kk : ∀ M, Fr cDy M0 M → DEnd M s z R → K M L) : P_X0_run (nI sto) M0 L K := by
  have p60 := hI.2.2.2.1.2.2.1
  unfold P_X0_run
  rw [tn0, tn8]
  have mcF : Fr cDy M0 (mcpy M0 9 48 0 0 8) := fun p i hp => mc_o (fun e => by subst e; exact nomatch (show true = false from hp))
  refine hl_run hS hsto hz hI R kk 100000 0 0 100 dA0 _ (by omega) (by omega) (by omega) (by omega) ((((((mcF.put rfl).put rfl).put rfl).put rfl).put rfl).put rfl) DOK_0 ⟨?_, ?_, ?_, ?_, ?_, fun c hc => absurd hc (Nat.not_lt_zero c), fun r hr => ?_⟩ (mp_s _ _ _ _) hdf hR
  · simp (discharger := decide) only [mp_i, mp_s]; rfl
  · simp (discharger := decide) only [mp_i, mp_s]; rfl
  · simp (discharger := decide) only [mp_i, mp_s]; rfl
  · simp (discharger := decide) only [mp_i, mp_s]; rfl
  · simp (discharger := decide) only [mp_i, mp_s]; rfl
  · simp (discharger := decide) only [mp_p]
    rw [mc_in hr, hI.2.1.kno r hr, knq_0 hS hr]
theorem hl_day42 {M : Mem} {i : Nat} (hA : DOK s A i) (hn20 : dn A ≤ 20) (hD : MD M s A (fun _ => True)) {v1 : Int32} {K : Int32 → Mem → LMem → Prop} (k0 : v1 = 0 → K (nI (lsF A (dn A))) M L) (k1 : ¬ v1 = 0 → v1 = Int32.ofInt 1 → K (nI (dm A)) M L) (k2 : ¬ v1 = 0 → ¬ v1 = Int32.ofInt 1 → K (nI (uF A (dn A))) M L) :
    ∀ (f j : Nat), j ≤ dn A → dn A < f + j → PL_X10_day_42 K f v1 (nI (lsF A j)) (nI (uF A j)) (nI j) M L := by
  intro f
  induction f with
  | zero => intro j h1 h2; omega
  | succ f ih =>
    intro j h1 h2
    unfold PL_X10_day_42
    refine pk_le (dn A) j (fun c1 => ?_) (fun c1 => ⟨pk_in j 20 (by omega), ?_⟩) hD.1
    · have e : j = dn A := by omega
      subst e
      refine br_c k0 (fun h => br_c (fun h2 => ?_) (fun h2 => k2 h h2))
      rw [hD.2.1]; exact k1 h h2
    · obtain ⟨a1, a2, a3, -⟩ := hD.2.2.1 j c1
      have ho := (hA.2.2.2 j c1).1
      have hl := lsF_600 hA j h1
      have ih2 := ih (j + 1) (by omega) (by omega)
      rw [lsF, uF] at ih2
      unfold mx at ih2
      rw [nI_clamp (by omega), a1, a3, fa_or, nI_s]
      refine pk_le _ _ (fun c2 => ?_) (fun c2 => ?_) rfl rfl (by omega) (by omega)
      · rw [if_neg (by omega)] at ih2; exact ih2
      · rw [if_pos c2] at ih2; exact ih2
end MGO
theorem dX_le (s : Stt) (np : Nat) (pd : Nat → Nat) : ∀ f i A, (dX s np pd f i A).2 ≤ 4 := by
  intro f
  induction f with
  | zero => intro i A; exact Nat.zero_le _
  | succ f ih =>
    intro i A
    rw [dX]
    split
    · split
      · exact ih _ _
      · split
        · exact ih _ _
        · exact dwhy_le _ _
    · exact Nat.zero_le _
theorem op_judge : Op_judge INV := by
  intro M L x1 hI
  obtain ⟨s, np, pd, hI⟩ := hI
  have hS := hI.1
  have hP := hI.2.2.2.1
  have iv : INV M L := ⟨s, np, pd, hI⟩
  show P_X9_judge x1 M L (fun r M1 L1 => P_X10_judge x1 M1 L1 (fun r2 M2 L2 => r2 = r ∧ INV M2 L2))
  unfold P_X9_judge P_X10_judge
  rcases wi_cases x1 0 1 (Int32.ofInt 0) (Int32.ofInt 1) (Int64.ofNat 0) (Int64.ofNat 1) with ⟨w, w1, w2, rfl, w3, w4⟩ | ⟨w1, w3, w4⟩
  · refine br_1 (w3 M) (h_dayFault hP ?_)
    rcases dfm_all (np := np) (pd := pd) np 0 0 0 (by omega) with ⟨k, h1, h2⟩ | h2
    · rw [h2]
      refine br_f (nI_ne6 (by have := hP.2.2.1; omega)) (br_1 (w4 _) (h_faultOfDay hP.m ?_))
      rw [h2]
      exact br_f (nI_pos (by have := hP.2.2.1; omega)) ⟨rfl, iv⟩
    · rw [h2]
      refine br_t rfl ?_
      rw [hI.2.1.sto]
      refine h_run (z := 3) hS hS.2.2.2.1 (Or.inl ⟨rfl, rfl⟩) hI h2 _ rfl (fun M1 hF1 hE => ?_)
      have hI1 := hI.scr (cDy_scr hF1)
      obtain ⟨e1, e2, -⟩ := hE
      have md : ∀ r : Int32, (∀ M2, (dX s np pd 100 0 dA0).2 = 0 → INVs M2 s np pd → M2 74 32 = Int32.ofInt (-6) → M2 74 33 = Int32.ofInt (-6) → (nI w = 0 → M2 74 32 = r) ∧ (¬ nI w = 0 → M2 74 33 = r)) → (∀ M2, (dX s np pd 100 0 dA0).2 ≠ 0 → INVs M2 s np pd → M2 74 32 = nI (dn (dX s np pd 100 0 dA0).1) → M2 74 33 = nI (dX s np pd 100 0 dA0).2 → (nI w = 0 → M2 74 32 = r) ∧ (¬ nI w = 0 → M2 74 33 = r)) → P_X10_faultOfDay M1 L (fun v_4 M_2 L_3 => ((v_4 < 0 → P_X10_goDay M_2 L_3 (fun v_8 M_6 L_7 => ((nI w = 0 → M_6 74 32 = r ∧ INV M_6 L_7) ∧ (¬ (nI w = 0) → M_6 74 33 = r ∧ INV M_6 L_7)))) ∧ (¬ (v_4 < 0) → Int32.ofInt (-5) = r ∧ INV M_2 L_3))) := by
        intro r r0 r1
        refine h_faultOfDay hI1.2.2.2.1.m ?_
        rw [h2]
        refine br_t neg6 (h_goDay hS hI1 h2 _ rfl (fun z0 M2 hF2 g32 g33 _ _ => ?_) (fun z0 M2 hF2 g32 g33 => ?_))
        · have hI2 := hI1.scr (cDm_scr hF2)
          obtain ⟨y1, y2⟩ := r0 M2 z0 hI2 g32 g33
          exact ⟨fun h => ⟨y1 h, s, np, pd, hI2⟩, fun h => ⟨y2 h, s, np, pd, hI2⟩⟩
        · have hI2 := hI1.scr (cDm_scr hF2)
          obtain ⟨y1, y2⟩ := r1 M2 z0 hI2 g32 g33
          exact ⟨fun h => ⟨y1 h, s, np, pd, hI2⟩, fun h => ⟨y2 h, s, np, pd, hI2⟩⟩
      have hw : (dX s np pd 100 0 dA0).2 < 2 ^ 31 := by
        have := dX_le s np pd 100 0 dA0
        omega
      refine br_c (fun c0 => br_1 (w4 _) ?_) (fun c0 => br_c (fun c1 => br_1 (w4 _) ?_) (fun c1 => br_1 (w4 _) ?_))
      · rw [e1] at c0
        have cz := (nI_eq (b := 0) hw (by omega)).mp c0
        exact md _ (fun M2 _ _ g32 g33 => ⟨fun _ => g32, fun _ => g33⟩) (fun M2 z0 => absurd cz z0)
      · rw [e1] at c0
        have cz : (dX s np pd 100 0 dA0).2 ≠ 0 := fun e => c0 (by rw [e]; rfl)
        exact md _ (fun M2 z0 => absurd z0 cz) (fun M2 _ _ g32 g33 => ⟨fun _ => g32.trans e2.symm, fun h => absurd c1 h⟩)
      · rw [e1] at c0
        have cz : (dX s np pd 100 0 dA0).2 ≠ 0 := fun e => c0 (by rw [e]; rfl)
        exact md _ (fun M2 z0 => absurd z0 cz) (fun M2 _ _ g32 g33 => ⟨fun h => absurd h c1, fun _ => g33.trans e1.symm⟩)
  · exact br_0 (w3 M) (br_0 (w4 M) ⟨rfl, iv⟩)
theorem op_day : Op_day INV := by
  intro M L x1 hI
  obtain ⟨s, np, pd, hI⟩ := hI
  have hS := hI.1
  have hP := hI.2.2.2.1
  have iv : INV M L := ⟨s, np, pd, hI⟩
  show P_X9_day x1 M L (fun r M1 L1 => P_X10_day x1 M1 L1 (fun r2 M2 L2 => r2 = r ∧ INV M2 L2))
  unfold P_X9_day P_X10_day
  rcases wi_cases x1 0 2 (Int32.ofInt 0) (Int32.ofInt 2) (Int64.ofNat 0) (Int64.ofNat 2) with ⟨w, w1, w2, rfl, w3, w4⟩ | ⟨w1, w3, w4⟩
  · refine br_1 (w3 M) (h_dayFault hP ?_)
    rcases dfm_all (np := np) (pd := pd) np 0 0 0 (by omega) with ⟨k, h1, h2⟩ | h2
    · rw [h2]
      refine br_f (nI_ne6 (by have := hP.2.2.1; omega)) (br_1 (w4 _) (h_faultOfDay hP.m ?_))
      rw [h2]
      exact br_f (nI_pos (by have := hP.2.2.1; omega)) ⟨rfl, iv⟩
    · rw [h2]
      refine br_t rfl ?_
      rw [hI.2.1.sto]
      refine h_run (z := 3) hS hS.2.2.2.1 (Or.inl ⟨rfl, rfl⟩) hI h2 _ rfl (fun M1 hF1 hE => ?_)
      have hI1 := hI.scr (cDy_scr hF1)
      obtain ⟨e1, e2, e3, e4, e5, e6⟩ := hE
      have md : ∀ r : Int32, (∀ M2 : Mem, (dX s np pd 100 0 dA0).2 = 0 → DOK s (dX s np pd 100 0 dA0).1 60 → (nI w = 0 → nI (lsF (dX s np pd 100 0 dA0).1 (dn (dX s np pd 100 0 dA0).1)) = r) ∧ (¬ nI w = 0 → nI w = Int32.ofInt 1 → nI (dm (dX s np pd 100 0 dA0).1) = r) ∧ (¬ nI w = 0 → ¬ nI w = Int32.ofInt 1 → nI (uF (dX s np pd 100 0 dA0).1 (dn (dX s np pd 100 0 dA0).1)) = r)) → ((dX s np pd 100 0 dA0).2 ≠ 0 → Int32.ofInt (-3) = r) → P_X10_faultOfDay M1 L (fun v_4 M_2 L_3 => ((v_4 < 0 → P_X10_goDay M_2 L_3 (fun v_8 M_6 L_7 => ((v_8 = 0 → Int32.ofInt (-3) = r ∧ INV M_6 L_7) ∧ (¬ (v_8 = 0) → PL_X10_day_42 (fun r2 M2 L2 => r2 = r ∧ INV M2 L2) 100000 (nI w) (Int32.ofInt 0) (Int32.ofInt 0) (Int32.ofInt 0) M_6 L_7)))) ∧ (¬ (v_4 < 0) → Int32.ofInt (-5) = r ∧ INV M_2 L_3))) := by
        intro r r0 r1
        refine h_faultOfDay hI1.2.2.2.1.m ?_
        rw [h2]
        refine br_t neg6 (h_goDay hS hI1 h2 _ rfl (fun z0 M2 hF2 g32 g33 hD2 hA2 => br_1 rfl ?_) (fun z0 M2 hF2 g32 g33 => br_0 rfl ⟨r1 z0, s, np, pd, hI1.scr (cDm_scr hF2)⟩))
        have iv2 : INV M2 L := ⟨s, np, pd, hI1.scr (cDm_scr hF2)⟩
        obtain ⟨y0, y1, y2⟩ := r0 M2 z0 hA2
        have h3 := hA2.2.1
        exact hl_day42 hA2 (by omega) hD2 (fun h => ⟨y0 h, iv2⟩) (fun h h' => ⟨y1 h h', iv2⟩) (fun h h' => ⟨y2 h h', iv2⟩) 100000 0 (by omega) (by omega)
      have hw := dX_le s np pd 100 0 dA0
      rw [e1, e3, e4, e5]
      refine pk_eq _ 0 (fun cz => br_c (fun c0 => br_1 (w4 _) (md _ (fun M2 _ _ => ⟨fun _ => rfl, fun h => absurd c0 h, fun h => absurd c0 h⟩) (fun h => absurd cz h))) (fun c0 => br_c (fun c1 => br_1 (w4 _) (md _ (fun M2 _ _ => ⟨fun h => absurd h c0, fun _ _ => rfl, fun _ h => absurd c1 h⟩) (fun h => absurd cz h))) (fun c1 => br_1 (w4 _) (md _ (fun M2 _ _ => ⟨fun h => absurd h c0, fun _ h => absurd h c1, fun _ _ => rfl⟩) (fun h => absurd cz h))))) (fun cz => br_1 (w4 _) (md _ (fun M2 z0 => absurd z0 cz) (fun _ => rfl))) rfl rfl (by omega)
  · exact br_0 (w3 M) (br_0 (w4 M) ⟨rfl, iv⟩)
theorem op_knows : Op_knows INV := by
  intro M L x1 x2 hI
  obtain ⟨s, np, pd, hI⟩ := hI
  have hS := hI.1
  have hP := hI.2.2.2.1
  have iv : INV M L := ⟨s, np, pd, hI⟩
  show P_X9_knows x1 x2 M L (fun r M1 L1 => P_X10_knows x1 x2 M1 L1 (fun r2 M2 L2 => r2 = r ∧ INV M2 L2))
  unfold P_X9_knows P_X10_knows
  rcases ro_cases x1 with ⟨q, hq, rfl, q3, q4⟩ | ⟨q3, q4⟩
  · rcases wi_cases x2 0 1 (Int32.ofInt 0) (Int32.ofInt 1) (Int64.ofNat 0) (Int64.ofNat 1) with ⟨w, w1, w2, rfl, w3, w4⟩ | ⟨w1, w3, w4⟩
    · refine br_1 (q3 M) (br_1 (w3 M) (h_dayFault hP ?_))
      have hin : vp_in (nI q) 8 := pk_in q 8 hq
      have eq' : (nI q).toNatClampNeg = q := nI_clamp (by omega)
      rcases dfm_all (np := np) (pd := pd) np 0 0 0 (by omega) with ⟨k, h1, h2⟩ | h2
      · rw [h2]
        refine br_f (nI_ne6 (by have := hP.2.2.1; omega)) (br_1 (q4 _) (br_1 (w4 _) (h_faultOfDay hP.m ?_)))
        rw [h2]
        exact br_f (nI_pos (by have := hP.2.2.1; omega)) ⟨rfl, iv⟩
      · rw [h2]
        refine br_t rfl ?_
        have hw := dX_le s np pd 100 0 dA0
        have md : ∀ (M1 : Mem) (r : Int32), INVs M1 s np pd → ((dX s np pd 100 0 dA0).2 = 0 → (nI w = 0 → nI (knq s (dX s np pd 100 0 dA0).1 3 (fun _ => True) q) = r) ∧ (¬ nI w = 0 → nI (knq s (dX s np pd 100 0 dA0).1 5 (fun _ => True) q) = r)) → ((dX s np pd 100 0 dA0).2 ≠ 0 → Int32.ofInt (-3) = r) → P_X10_faultOfDay M1 L (fun v_5 M_3 L_4 => ((v_5 < 0 → P_X10_goDay M_3 L_4 (fun v_9 M_7 L_8 => ((v_9 = 0 → Int32.ofInt (-3) = r ∧ INV M_7 L_8) ∧ (¬ (v_9 = 0) → ((nI w = 0 → (vp_in (nI q) 8 ∧ M_7 97 q = r ∧ INV M_7 L_8)) ∧ (¬ (nI w = 0) → (vp_in (nI q) 8 ∧ M_7 98 q = r ∧ INV M_7 L_8))))))) ∧ (¬ (v_5 < 0) → Int32.ofInt (-5) = r ∧ INV M_3 L_4))) := by
          intro M1 r hI1 r0 r1
          refine h_faultOfDay hI1.2.2.2.1.m ?_
          rw [h2]
          refine br_t neg6 (h_goDay hS hI1 h2 _ rfl (fun z0 M2 hF2 g32 g33 hD2 hA2 => br_1 rfl ?_) (fun z0 M2 hF2 g32 g33 => br_0 rfl ⟨r1 z0, s, np, pd, hI1.scr (cDm_scr hF2)⟩))
          have iv2 : INV M2 L := ⟨s, np, pd, hI1.scr (cDm_scr hF2)⟩
          obtain ⟨y0, y1⟩ := r0 z0
          obtain ⟨k1, k2⟩ := hD2.2.2.2 q hq
          rw [k1, k2]
          exact ⟨fun h => ⟨hin, y0 h, iv2⟩, fun h => ⟨hin, y1 h, iv2⟩⟩
        refine br_c (fun c1 => ?_) (fun c1 => ?_)
        · have c0 : ¬ nI w = 0 := fun e => by rw [e] at c1; exact absurd c1 (by decide)
          refine h_run (z := 5) (sto := 0) hS (by decide) (Or.inr ⟨rfl, rfl⟩) hI h2 _ rfl (fun M1 hF1 hE => ?_)
          obtain ⟨e1, e2, e3, e4, e5, e6⟩ := hE
          have hI1 := hI.scr (cDy_scr hF1)
          rw [e1, eq', e6 q hq]
          exact pk_eq _ 0 (fun cz => ⟨hin, br_1 (q4 _) (br_1 (w4 _) (md M1 _ hI1 (fun _ => ⟨fun h => absurd h c0, fun _ => rfl⟩) (fun h => absurd cz h)))⟩) (fun cz => br_1 (q4 _) (br_1 (w4 _) (md M1 _ hI1 (fun h => absurd h cz) (fun _ => rfl)))) rfl rfl (by omega)
        · have c0 : nI w = 0 := by
            rcases (by omega : w = 0 ∨ w = 1) with rfl | rfl
            · rfl
            · exact absurd rfl c1
          rw [hI.2.1.sto]
          refine h_run (z := 3) hS hS.2.2.2.1 (Or.inl ⟨rfl, rfl⟩) hI h2 _ rfl (fun M1 hF1 hE => ?_)
          obtain ⟨e1, e2, e3, e4, e5, e6⟩ := hE
          have hI1 := hI.scr (cDy_scr hF1)
          rw [e1, eq', e6 q hq]
          exact pk_eq _ 0 (fun cz => ⟨hin, br_1 (q4 _) (br_1 (w4 _) (md M1 _ hI1 (fun _ => ⟨fun _ => rfl, fun h => absurd c0 h⟩) (fun h => absurd cz h)))⟩) (fun cz => br_1 (q4 _) (br_1 (w4 _) (md M1 _ hI1 (fun h => absurd h cz) (fun _ => rfl)))) rfl rfl (by omega)
    · exact br_1 (q3 M) (br_0 (w3 M) (br_1 (q4 _) (br_0 (w4 _) ⟨rfl, iv⟩)))
  · exact br_0 (q3 M) (br_0 (q4 M) ⟨rfl, iv⟩)
