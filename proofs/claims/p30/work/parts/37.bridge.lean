/-! ===== bridges ===== -/
theorem cut_le {car u v : Nat} (h : u ≤ v) (hv : v ≤ 99) : cut car u ≤ cut car v := by
  unfold cut
  by_cases c : v ≤ car
  · rw [if_pos c, if_pos (by omega)]; exact h
  · rw [if_neg c]
    split <;> omega
theorem dc_fre {h : Hse} {b1 b2 : Int32} (H : HOK h) (hb : ∀ t, t < qn h → (fre b1 t → fre b2 t)) {car x : Nat} (y : Nat) (hx : x < 8) : dc h b2 car x y ≤ dc h b1 car x y := cut_le (dv_fre H hb y hx) (dv_99 H y hx)
/-- without the tube a pair has no way that has one with it -/
def brg (h : Hse) (car t : Nat) : Prop := ∃ x y, x < 8 ∧ y < 8 ∧ dc h (nI (2 ^ t)) car x y = 99 ∧ dc h (Int32.ofInt 0) car x y ≠ 99
section BRI
variable {M : Mem} {L : LMem} {F G : Nat → Nat → Nat} {K : Int32 → Mem → LMem → Prop}
theorem hl_lacks (hm : mtx M 71 F) (hg : mtx M 73 G) (hF : ∀ x y, x < 8 → y < 8 → F x y ≤ 99) (hG : ∀ x y, x < 8 → y < 8 → G x y ≤ 99) (kk1 : (∃ x y, x < 8 ∧ y < 8 ∧ G x y = 99 ∧ F x y ≠ 99) → K (nI 1) M L) (kk0 : ¬ (∃ x y, x < 8 ∧ y < 8 ∧ G x y = 99 ∧ F x y ≠ 99) → K (nI 0) M L) :
    ∀ (f i : Nat), i ≤ 64 → 64 < f + i → (∀ q, q < i → ¬ (G (q / 8) (q % 8) = 99 ∧ F (q / 8) (q % 8) ≠ 99)) → PL_X1_lacksOneOf_2 K f (nI i) M L := by
  intro f
  induction f with
  | zero => intro i h1 h2; omega
  | succ f ih =>
    intro i h1 h2 hn
    unfold PL_X1_lacksOneOf_2
    refine pk_le 64 i (fun c => ?_) (fun c => ⟨pk_in i 64 c, ?_⟩)
    · refine kk0 (fun ⟨x, y, hx, hy, e1, e2⟩ => hn (8 * x + y) (by omega) ?_)
      rw [show (8 * x + y) / 8 = x by omega, show (8 * x + y) % 8 = y by omega]
      exact ⟨e1, e2⟩
    · have hx : i / 8 < 8 := by omega
      have hy : i % 8 < 8 := by omega
      have e1 := hm _ _ hx hy
      have e2 := hg _ _ hx hy
      have b1 := hF _ _ hx hy
      have b2 := hG _ _ hx hy
      rw [show 8 * (i / 8) + i % 8 = i by omega] at e1 e2
      have go1 : ¬ (G (i / 8) (i % 8) = 99 ∧ F (i / 8) (i % 8) ≠ 99) → PL_X1_lacksOneOf_2 K f (nI (i + 1)) M L := fun e => ih (i + 1) (by omega) (by omega) (fun q hq => by
        by_cases e3 : q = i
        · rw [e3]; exact e
        · exact hn q (by omega))
      rw [nI_clamp (by omega), e1, e2, nI_s]
      refine pk_eq _ 99 (fun c1 => pk_eq _ 99 (fun c2 => go1 (fun e => e.2 c2)) (fun c2 => kk1 ⟨_, _, hx, hy, c1, c2⟩) rfl rfl (by omega)) (fun c1 => go1 (fun e => c1 e.1)) rfl rfl (by omega)
theorem h_lacks (hm : mtx M 71 F) (hg : mtx M 73 G) (hF : ∀ x y, x < 8 → y < 8 → F x y ≤ 99) (hG : ∀ x y, x < 8 → y < 8 → G x y ≤ 99) (kk1 : (∃ x y, x < 8 ∧ y < 8 ∧ G x y = 99 ∧ F x y ≠ 99) → K (nI 1) M L) (kk0 : ¬ (∃ x y, x < 8 ∧ y < 8 ∧ G x y = 99 ∧ F x y ≠ 99) → K (nI 0) M L) : P_X1_lacksOneOf M L K := by
  unfold P_X1_lacksOneOf
  exact hl_lacks hm hg hF hG kk1 kk0 100000 0 (by omega) (by omega) (fun q hq => by omega)
theorem hl_c16 {M0 : Mem} {h : Hse} {car : Nat} (H : HOK h) (h12 : qn h ≤ 12) (hC : HC M0 h) (hc : car ≤ 60) (hcar : M0 3 1 = nI car) (hm : mtx M0 71 (dc h (Int32.ofInt 0) car)) (kk : ∀ M, Fr cD72 M0 M → K (nI (mk (fun t => bdec (brg h car t)) (qn h))) M L) :
    ∀ (f t : Nat) (M : Mem), t ≤ qn h → qn h < f + t → Fr cD72 M0 M → PL_X9_bridges_16 K f (nI (mk (fun t => bdec (brg h car t)) t)) (nI t) M L := by
  intro f
  induction f with
  | zero => intro t M h1 h2; omega
  | succ f ih =>
    intro t M h1 h2 hF
    have hC1 := hC.d72 hF
    unfold PL_X9_bridges_16
    rw [nI_s]
    refine pk_le (qn h) t (fun c => ?_) (fun c => ?_) hC1.1
    · rw [show t = qn h by omega]; exact kk M hF
    · rw [show Int32.ofInt 1 = nI 1 from rfl, sh1 (by omega), fa_or]
      refine h_measure72 H h12 hC1 hc ((hF 3 1 rfl).trans hcar) (fun M2 hF2 hm2 => ?_)
      have hm1 : mtx M2 71 (dc h (Int32.ofInt 0) car) := fun x y hx hy => ((hF.tr hF2) 71 _ rfl).trans (hm x y hx hy)
      have ih2 := ih (t + 1) M2 c (by omega) (hF.tr hF2)
      refine h_lacks hm1 hm2 (fun x y hx _ => dc_99 H hc y hx) (fun x y hx _ => dc_99 H hc y hx) (fun e => br_1 rfl ?_) (fun e => br_0 rfl ?_)
      · rw [mk, if_pos (bdec_t (p := brg h car t) e)] at ih2; exact ih2
      · rw [mk, if_neg (by rw [bdec_f (p := brg h car t) e]; exact Bool.false_ne_true)] at ih2; exact ih2
/-! the model's -/
def rch (h : Hse) (bar : Int32) (car to r : Nat) : Prop := dc h bar car r to < 99
def dif (h : Hse) (car t to : Nat) : Prop := ∃ r, r < 8 ∧ dc h (nI (2 ^ t)) car r to = 99 ∧ dc h (Int32.ofInt 0) car r to ≠ 99
theorem dif_iff {h : Hse} (H : HOK h) (h12 : qn h ≤ 12) {car t to : Nat} (hc : car ≤ 60) : nI (mk (fun r => bdec (rch h (Int32.ofInt 0) car to r)) 8) = nI (mk (fun r => bdec (rch h (nI (2 ^ t)) car to r)) 8) ↔ ¬ dif h car t to := by
  have l1 := mk_lt (fun r => bdec (rch h (Int32.ofInt 0) car to r)) 8
  have l2 := mk_lt (fun r => bdec (rch h (nI (2 ^ t)) car to r)) 8
  rw [nI_eq (by omega) (by omega)]
  constructor
  · intro e ⟨r, hr, e1, e2⟩
    have b := congrArg (fun n => n.testBit r) e
    have b1 : (mk (fun r => bdec (rch h (Int32.ofInt 0) car to r)) 8).testBit r = (mk (fun r => bdec (rch h (nI (2 ^ t)) car to r)) 8).testBit r := b
    rw [mk_bit, mk_bit, decide_eq_true hr] at b1
    have c1 : rch h (Int32.ofInt 0) car to r := by
      have := dc_99 (bar := Int32.ofInt 0) H hc to hr
      unfold rch; omega
    have c2 : ¬ rch h (nI (2 ^ t)) car to r := by unfold rch; omega
    rw [bdec_t c1, bdec_f c2] at b1
    exact absurd b1 (by decide)
  · intro hn
    refine Nat.eq_of_testBit_eq (fun r => ?_)
    rw [mk_bit, mk_bit]
    by_cases hr : r < 8
    · rw [decide_eq_true hr, Bool.true_and, Bool.true_and]
      have m := dc_fre (b1 := nI (2 ^ t)) (b2 := Int32.ofInt 0) (car := car) H (fun t' ht' _ => fre_0 t' (by omega)) to hr
      have u1 := dc_99 (bar := Int32.ofInt 0) H hc to hr
      have u2 := dc_99 (bar := nI (2 ^ t)) H hc to hr
      by_cases c2 : rch h (nI (2 ^ t)) car to r
      · have c1 : rch h (Int32.ofInt 0) car to r := by unfold rch at c2 ⊢; omega
        rw [bdec_t c1, bdec_t c2]
      · have c1 : ¬ rch h (Int32.ofInt 0) car to r := fun c1 => hn ⟨r, hr, by unfold rch at c2; omega, by unfold rch at c1; omega⟩
        rw [bdec_f c1, bdec_f c2]
    · rw [decide_eq_false hr]; rfl
end BRI
