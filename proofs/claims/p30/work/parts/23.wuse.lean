/-! ===== what is read off a way ===== -/
/-- a way of m steps is sound -/
def WOK (h : Hse) (bar : Int32) (D : Nat → Nat) (x m : Nat) : Prop := m ≤ 7 ∧ (∀ i, i < m → tb h bar D x i < qn h) ∧ ∀ i, i ≤ m → rm h bar D x i < 8
theorem WOK_of {h : Hse} {bar : Int32} {to : Nat} {D : Nat → Nat} {x : Nat} (H : HOK h) (hD : isLab h bar to 16 1048576 D) (hto : to < 8) (hx : x < 8) (hI : D x < 1048576) : WOK h bar D x (D x % 16) :=
  ⟨(lab_fin H hD hx hI).1, fun i hi => (tb_is H hD hto hx hI hi).1.1, fun i hi => (rm_in H hD hto hx hI i hi).1⟩
theorem wl_in {h : Hse} {bar : Int32} {to : Nat} {D : Nat → Nat} {x : Nat} (H : HOK h) (hD : isLab h bar to 16 1048576 D) (hto : to < 8) (hx : x < 8) (hI : D x < 1048576) : wl h bar D x (D x % 16) = D x / 16 ∧ ∀ i, i ≤ D x % 16 → wl h bar D x i ≤ D x / 16 := by
  refine ⟨?_, fun i hi => ?_⟩
  · obtain ⟨h1, h2, h3, h4, h5⟩ := rm_in H hD hto hx hI (D x % 16) (Nat.le_refl _)
    have e := h5.mpr rfl
    rw [e, hD.1] at h4
    omega
  · have h4 := (rm_in H hD hto hx hI i hi).2.2.2.1
    omega
theorem or0 (x : Int32) : x ||| nI 0 = x := by
  have h : x.toBitVec ||| (nI 0).toBitVec = x.toBitVec := by
    rw [show (nI 0).toBitVec = 0#32 from rfl]; exact BitVec.or_zero
  exact Int32.toBitVec.inj (by rw [Int32.toBitVec_or]; exact h)
/-- how loud it comes -/
noncomputable def ldv (h : Hse) (bar : Int32) (D : Nat → Nat) (x car room : Nat) : Nat → Nat → Int32
  | 0, _ => Int32.ofInt (-6)
  | f + 1, i => if rm h bar D x i = room then nI (car - wl h bar D x i) else ldv h bar D x car room f (i + 1)
/-- who hears it -/
noncomputable def hvr (h : Hse) (bar : Int32) (D : Nat → Nat) (x m : Nat) (sto : Int32) : Nat → Int32
  | 0 => nI 1 <<< (nI (rm h bar D x m) &&& 31)
  | i + 1 => (if 0 < i ∧ (sto >>> (nI (rm h bar D x i) &&& 31)) &&& nI 1 = nI 0 then hvr h bar D x m sto i ||| (nI 1 <<< (nI (rm h bar D x i) &&& 31)) else hvr h bar D x m sto i) ||| (if qk h (tb h bar D x i) = 126 then (nI 1 <<< (nI (rm h bar D x i) &&& 31)) ||| (nI 1 <<< (nI (rm h bar D x (i + 1)) &&& 31)) else nI 0)
section WUS
variable {M : Mem} {h : Hse} {bar : Int32} {L : LMem} {K : Int32 → Mem → LMem → Prop} {D : Nat → Nat} {x m : Nat}
theorem hv1 {sto : Int32} {i : Nat} (c : 0 < i ∧ (sto >>> (nI (rm h bar D x i) &&& 31)) &&& nI 1 = nI 0) (k : qk h (tb h bar D x i) = 126) : hvr h bar D x m sto (i + 1) = (hvr h bar D x m sto i ||| (nI 1 <<< (nI (rm h bar D x i) &&& 31))) ||| ((nI 1 <<< (nI (rm h bar D x i) &&& 31)) ||| (nI 1 <<< (nI (rm h bar D x (i + 1)) &&& 31))) := by
  rw [hvr, if_pos c, if_pos k]
theorem hv2 {sto : Int32} {i : Nat} (c : 0 < i ∧ (sto >>> (nI (rm h bar D x i) &&& 31)) &&& nI 1 = nI 0) (k : ¬ qk h (tb h bar D x i) = 126) : hvr h bar D x m sto (i + 1) = hvr h bar D x m sto i ||| (nI 1 <<< (nI (rm h bar D x i) &&& 31)) := by
  rw [hvr, if_pos c, if_neg k, or0]
theorem hv3 {sto : Int32} {i : Nat} (c : ¬ (0 < i ∧ (sto >>> (nI (rm h bar D x i) &&& 31)) &&& nI 1 = nI 0)) (k : qk h (tb h bar D x i) = 126) : hvr h bar D x m sto (i + 1) = hvr h bar D x m sto i ||| ((nI 1 <<< (nI (rm h bar D x i) &&& 31)) ||| (nI 1 <<< (nI (rm h bar D x (i + 1)) &&& 31))) := by
  rw [hvr, if_neg c, if_pos k]
theorem hv4 {sto : Int32} {i : Nat} (c : ¬ (0 < i ∧ (sto >>> (nI (rm h bar D x i) &&& 31)) &&& nI 1 = nI 0)) (k : ¬ qk h (tb h bar D x i) = 126) : hvr h bar D x m sto (i + 1) = hvr h bar D x m sto i := by
  rw [hvr, if_neg c, if_neg k, or0]
theorem hl_hear (H : HOK h) (h12 : qn h ≤ 12) (hC : HC M h) (hR : RT M h bar D x m) (hW : WOK h bar D x m) {sto : Int32} (kk : K (hvr h bar D x m sto m) M L) :
    ∀ (f i : Nat), i ≤ m → m < f + i → PL_X6_hearers_15 K f sto (hvr h bar D x m sto i) (nI i) M L := by
  intro f
  induction f with
  | zero => intro i h1 h2; omega
  | succ f ih =>
    intro i h1 h2
    obtain ⟨q1, q2, q3, q4, q5⟩ := hR
    obtain ⟨w1, w2, w3⟩ := hW
    unfold PL_X6_hearers_15
    refine pk_le m i (fun c => ?_) (fun c => ?_) q1
    · have e : i = m := by omega
      subst e; exact kk
    · have ht := w2 i c
      have hk := H.2 _ ht
      have i1 : vp_in (nI i) 8 := pk_in i 8 (by omega)
      have i2 : vp_in (nI (tb h bar D x i)) 12 := pk_in (tb h bar D x i) 12 (by omega)
      have i3 : vp_in (nI (i + 1)) 8 := pk_in (i + 1) 8 (by omega)
      have e1 : (nI i).toNatClampNeg = i := nI_clamp (by omega)
      have e2 : (nI (i + 1)).toNatClampNeg = i + 1 := nI_clamp (by omega)
      have e3 : (nI (tb h bar D x i)).toNatClampNeg = tb h bar D x i := nI_clamp (by omega)
      have ih2 := ih (i + 1) c (by omega)
      simp only [nI_s, nI_add, e1, e2, q4 i c, q5 i (by omega), q5 (i + 1) c, e3, (hC.2 _ ht).2.2.1, oL]
      refine pk_le i 0 (fun c2 => ?_) (fun c2 => ?_)
      · have cn : ¬ (0 < i ∧ (sto >>> (nI (rm h bar D x i) &&& 31)) &&& nI 1 = nI 0) := fun e => by omega
        refine ⟨i1, i2, pk_eq _ 126 (fun k => ⟨i3, ?_⟩) (fun k => ?_) rfl rfl (by omega)⟩
        · rw [hv3 cn k] at ih2; exact ih2
        · rw [hv4 cn k] at ih2; exact ih2
      · refine ⟨i1, br_c (fun c3 => ?_) (fun c3 => ?_)⟩
        · have cn : 0 < i ∧ (sto >>> (nI (rm h bar D x i) &&& 31)) &&& nI 1 = nI 0 := ⟨c2, c3⟩
          refine ⟨i2, pk_eq _ 126 (fun k => ⟨i3, ?_⟩) (fun k => ?_) rfl rfl (by omega)⟩
          · rw [hv1 cn k] at ih2; exact ih2
          · rw [hv2 cn k] at ih2; exact ih2
        · have cn : ¬ (0 < i ∧ (sto >>> (nI (rm h bar D x i) &&& 31)) &&& nI 1 = nI 0) := fun e => c3 e.2
          refine ⟨i2, pk_eq _ 126 (fun k => ⟨i3, ?_⟩) (fun k => ?_) rfl rfl (by omega)⟩
          · rw [hv3 cn k] at ih2; exact ih2
          · rw [hv4 cn k] at ih2; exact ih2
theorem h_hear (H : HOK h) (h12 : qn h ≤ 12) (hC : HC M h) (hR : RT M h bar D x m) (hW : WOK h bar D x m) {sto : Int32} (kk : K (hvr h bar D x m sto m) M L) : P_X6_hearers sto M L K := by
  have w1 := hW.1
  unfold P_X6_hearers
  rw [hR.1, nI_clamp (by omega), hR.2.2.2.2 m (Nat.le_refl _)]
  exact ⟨pk_in m 8 (by omega), hl_hear H h12 hC hR hW kk 100000 0 (by omega) (by omega)⟩
theorem hl_loudness (H : HOK h) (h12 : qn h ≤ 12) (hC : HC M h) (hR : RT M h bar D x m) (hW : WOK h bar D x m) {car room : Nat} (hroom : room < 8) (hcar : car ≤ 60) (hwl : ∀ i, i ≤ m → wl h bar D x i ≤ car) (kk : K (ldv h bar D x car room (m + 1) 0) M L) :
    ∀ (f i g : Nat) (v : Int32), i + g = m + 1 → g < f → ldv h bar D x car room (m + 1) 0 = ldv h bar D x car room g i → (i ≤ m → v = nI (car - wl h bar D x i)) → PL_X6_loudness_8 K f (nI room) v (nI i) M L := by
  intro f
  induction f with
  | zero => intro i g v h1 h2; omega
  | succ f ih =>
    intro i g v h1 h2 h3 h4
    obtain ⟨q1, q2, q3, q4, q5⟩ := hR
    obtain ⟨w1, w2, w3⟩ := hW
    unfold PL_X6_loudness_8
    refine pk_lt m i (fun c => ?_) (fun c => ⟨pk_in i 8 (by omega), ?_⟩) q1
    · have e : g = 0 := by omega
      subst e
      rw [h3] at kk; exact kk
    · obtain ⟨g, rfl⟩ : ∃ g', g = g' + 1 := ⟨g - 1, by omega⟩
      have r8 := w3 i c
      have e1 : (nI i).toNatClampNeg = i := nI_clamp (by omega)
      rw [nI_s, e1, q5 i c]
      refine pk_eq _ _ (fun c2 => ?_) (fun c2 => ?_) rfl rfl (by omega) (by omega)
      · rw [h3, ldv, if_pos c2] at kk
        rw [h4 c]; exact kk
      · have h5 : ldv h bar D x car room (m + 1) 0 = ldv h bar D x car room g (i + 1) := by rw [h3, ldv, if_neg c2]
        refine pk_le m i (fun c3 => ?_) (fun c3 => ?_) q1
        · exact ih (i + 1) g v (by omega) (by omega) h5 (fun e => by omega)
        · have ht := w2 i c3
          have e3 : (nI (tb h bar D x i)).toNatClampNeg = tb h bar D x i := nI_clamp (by omega)
          have hw1 := hwl (i + 1) c3
          have hw2 : wl h bar D x (i + 1) = wl h bar D x i + ql h (tb h bar D x i) := rfl
          rw [q4 i c3, e3, (hC.2 _ ht).2.2.2, h4 c, pk_sub (by omega)]
          exact ⟨pk_in (tb h bar D x i) 12 (by omega), ih (i + 1) g _ (by omega) (by omega) h5 (fun _ => by rw [hw2, Nat.sub_sub])⟩
theorem h_loudness (H : HOK h) (h12 : qn h ≤ 12) (hC : HC M h) (hR : RT M h bar D x m) (hW : WOK h bar D x m) {car room : Nat} (hroom : room < 8) (hcar : car ≤ 60) (hm : M 3 1 = nI car) (hwl : ∀ i, i ≤ m → wl h bar D x i ≤ car) (kk : K (ldv h bar D x car room (m + 1) 0) M L) : P_X6_loudness (nI room) M L K := by
  have w1 := hW.1
  unfold P_X6_loudness
  exact hl_loudness H h12 hC hR hW hroom hcar hwl kk 100000 0 (m + 1) (M 3 1) (by omega) (by omega) rfl (fun _ => hm)
end WUS

