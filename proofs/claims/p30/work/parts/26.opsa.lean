/-! ===== calls that ask for ways ===== -/
theorem cv10 {h : Hse} {bar : Int32} {to : Nat} (H : HOK h) {D : Nat → Nat} (hD : isLab h bar to 16 1048576 D) {x : Nat} (hx : x < 8) {car : Nat} (hc : car ≤ 60) : (cv (D x) / 10 ≤ car ↔ D x / 16 ≤ car) ∧ (D x / 16 ≤ car → cv (D x) / 10 = D x / 16) ∧ cv (D x) ≤ 9999 := by
  have hb : cv (D x) ≤ 9999 := (lab_10 H hD).2.1 x hx
  by_cases hI : D x < 1048576
  · have h7 := lab_fin H hD hx hI
    have e : cv (D x) / 10 = D x / 16 := by rw [cv_lo hI]; omega
    rw [e]
    exact ⟨Iff.rfl, fun _ => rfl, hb⟩
  · rw [cv_hi hI]
    exact ⟨by omega, by omega, by omega⟩
section WAYS
variable {M : Mem} {L : LMem} {s : Stt} {np : Nat} {pd : Nat → Nat} {K : Int32 → Mem → LMem → Prop}
theorem s_find (hI : INVs M s np pd) (bar : Int32) {a b : Nat} (ha : a < 8) (hb : b < 8)
    (kk1 : lab (sH s) bar b a / 16 ≤ sG s 0 → lab (sH s) bar b a < 1048576 → ∀ M1, Fr cRt M M1 → INVs M1 s np pd → RT M1 (sH s) bar (lab (sH s) bar b) a (lab (sH s) bar b a % 16) → K (nI 1) M1 L)
    (kk0 : ¬ lab (sH s) bar b a / 16 ≤ sG s 0 → ∀ M1, Fr cRt M M1 → INVs M1 s np pd → K (nI 0) M1 L) : P_X6_find (nI a) (nI b) bar M L K := by
  have hS := hI.1
  have hD := lab_is hS.1 bar b
  refine h_find hS.1 hS.2.1 hI.2.1.hc hb hD ha hI.2.1.car hS.2.2.1.2 (fun c M1 hF hR => kk1 c ?_ M1 hF (hI.scr (cRt_scr hF)) hR) (fun c M1 hF => kk0 (by omega) M1 hF (hI.scr (cRt_scr hF)))
  have := hS.2.2.1.2
  omega
theorem s_wok (hS : SOK s) {bar : Int32} {a b : Nat} (ha : a < 8) (hb : b < 8) (hD : lab (sH s) bar b a < 1048576) : WOK (sH s) bar (lab (sH s) bar b) a (lab (sH s) bar b a % 16) := WOK_of hS.1 (lab_is hS.1 bar b) hb ha hD
theorem s_wl (hS : SOK s) {bar : Int32} {a b : Nat} (ha : a < 8) (hb : b < 8) (hD : lab (sH s) bar b a < 1048576) : wl (sH s) bar (lab (sH s) bar b) a (lab (sH s) bar b a % 16) = lab (sH s) bar b a / 16 ∧ ∀ i, i ≤ lab (sH s) bar b a % 16 → wl (sH s) bar (lab (sH s) bar b) a i ≤ lab (sH s) bar b a / 16 := wl_in hS.1 (lab_is hS.1 bar b) hb ha hD
end WAYS
